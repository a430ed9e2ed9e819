section
-- ===== PART A: goes FIRST, ahead of the names: the tables' words, and 'selects' of the private methods out of them =====
/-- a private method of a class that the tables say can be made, by its rows of tables_1 -/
def lw_okq (q : MethodName × Nat) : Prop := (q.1.cls ≠ "java/lang/invoke/MethodHandle" ∧ q.1.cls ≠ "java/lang/invoke/VarHandle") ∧ Cond.instantiable q.1.cls q.2 ∈ tables_1 ∧ Cond.privateMethod q.1 ∈ tables_1 ∧ Cond.instanceMethod q.1 ∈ tables_1
theorem lw_p0 : lw_okq (⟨"HookTrays", "hasTray", "(I)Z"⟩, 5) := ⟨⟨by decide +kernel, by decide +kernel⟩, List.mem_of_getElem? (i := 13) (by decide +kernel), List.mem_of_getElem? (i := 305) (by decide +kernel), List.mem_of_getElem? (i := 306) (by decide +kernel)⟩
theorem lw_p1 : lw_okq (⟨"HookTrays", "placeOnDraft", "(LHookTrays$Tray;I)Z"⟩, 5) := ⟨⟨by decide +kernel, by decide +kernel⟩, List.mem_of_getElem? (i := 13) (by decide +kernel), List.mem_of_getElem? (i := 341) (by decide +kernel), List.mem_of_getElem? (i := 342) (by decide +kernel)⟩
theorem lw_p2 : lw_okq (⟨"HookTrays$Desk", "beginCall", "(I)I"⟩, 5) := ⟨⟨by decide +kernel, by decide +kernel⟩, List.mem_of_getElem? (i := 21) (by decide +kernel), List.mem_of_getElem? (i := 353) (by decide +kernel), List.mem_of_getElem? (i := 354) (by decide +kernel)⟩
theorem lw_p3 : lw_okq (⟨"HookTrays", "keepDraft", "(LHookTrays$Tray;Z)I"⟩, 5) := ⟨⟨by decide +kernel, by decide +kernel⟩, List.mem_of_getElem? (i := 13) (by decide +kernel), List.mem_of_getElem? (i := 396) (by decide +kernel), List.mem_of_getElem? (i := 397) (by decide +kernel)⟩
theorem lw_p4 : lw_okq (⟨"HookTrays", "removeOnDraft", "(LHookTrays$Tray;I)Z"⟩, 5) := ⟨⟨by decide +kernel, by decide +kernel⟩, List.mem_of_getElem? (i := 13) (by decide +kernel), List.mem_of_getElem? (i := 405) (by decide +kernel), List.mem_of_getElem? (i := 406) (by decide +kernel)⟩
theorem lw_p5 : lw_okq (⟨"HookTrays", "sortDraftAnew", "(I)Z"⟩, 5) := ⟨⟨by decide +kernel, by decide +kernel⟩, List.mem_of_getElem? (i := 13) (by decide +kernel), List.mem_of_getElem? (i := 431) (by decide +kernel), List.mem_of_getElem? (i := 432) (by decide +kernel)⟩
theorem lw_p6 : lw_okq (⟨"HookTrays", "judgeOntoDraft", "(LHookTrays$Row;I)Z"⟩, 5) := ⟨⟨by decide +kernel, by decide +kernel⟩, List.mem_of_getElem? (i := 13) (by decide +kernel), List.mem_of_getElem? (i := 447) (by decide +kernel), List.mem_of_getElem? (i := 448) (by decide +kernel)⟩
theorem lw_p7 : lw_okq (⟨"HookTrays$Desk", "numberOf", "(I)I"⟩, 5) := ⟨⟨by decide +kernel, by decide +kernel⟩, List.mem_of_getElem? (i := 21) (by decide +kernel), List.mem_of_getElem? (i := 455) (by decide +kernel), List.mem_of_getElem? (i := 456) (by decide +kernel)⟩
theorem lw_p8 : lw_okq (⟨"HookTrays", "placeAllOnDraft", "(LHookTrays$Tray;LHookTrays$Row;)Z"⟩, 5) := ⟨⟨by decide +kernel, by decide +kernel⟩, List.mem_of_getElem? (i := 13) (by decide +kernel), List.mem_of_getElem? (i := 460) (by decide +kernel), List.mem_of_getElem? (i := 461) (by decide +kernel)⟩
theorem lw_p9 : lw_okq (⟨"HookTrays", "changeCards", "(LHookTrays$Row;I)Z"⟩, 5) := ⟨⟨by decide +kernel, by decide +kernel⟩, List.mem_of_getElem? (i := 13) (by decide +kernel), List.mem_of_getElem? (i := 468) (by decide +kernel), List.mem_of_getElem? (i := 469) (by decide +kernel)⟩
theorem lw_p10 : lw_okq (⟨"HookTrays", "mergeIntoDraft", "(LHookTrays$Row;I)Z"⟩, 5) := ⟨⟨by decide +kernel, by decide +kernel⟩, List.mem_of_getElem? (i := 13) (by decide +kernel), List.mem_of_getElem? (i := 482) (by decide +kernel), List.mem_of_getElem? (i := 483) (by decide +kernel)⟩
theorem lw_p11 : lw_okq (⟨"HookTrays", "isWhole", "(LHookTrays$Tray;)Z"⟩, 5) := ⟨⟨by decide +kernel, by decide +kernel⟩, List.mem_of_getElem? (i := 13) (by decide +kernel), List.mem_of_getElem? (i := 494) (by decide +kernel), List.mem_of_getElem? (i := 495) (by decide +kernel)⟩
theorem lw_p12 : lw_okq (⟨"HookTraysModel", "isCard", "(I)Z"⟩, 29) := ⟨⟨by decide +kernel, by decide +kernel⟩, List.mem_of_getElem? (i := 515) (by decide +kernel), List.mem_of_getElem? (i := 621) (by decide +kernel), List.mem_of_getElem? (i := 622) (by decide +kernel)⟩
theorem lw_p13 : lw_okq (⟨"HookTraysModel", "isHook", "(I)Z"⟩, 29) := ⟨⟨by decide +kernel, by decide +kernel⟩, List.mem_of_getElem? (i := 515) (by decide +kernel), List.mem_of_getElem? (i := 635) (by decide +kernel), List.mem_of_getElem? (i := 636) (by decide +kernel)⟩
theorem lw_p14 : lw_okq (⟨"HookTraysModel", "planOf", "(II)I"⟩, 29) := ⟨⟨by decide +kernel, by decide +kernel⟩, List.mem_of_getElem? (i := 515) (by decide +kernel), List.mem_of_getElem? (i := 641) (by decide +kernel), List.mem_of_getElem? (i := 642) (by decide +kernel)⟩
theorem lw_p15 : lw_okq (⟨"HookTraysModel", "dropPlan", "(I)V"⟩, 29) := ⟨⟨by decide +kernel, by decide +kernel⟩, List.mem_of_getElem? (i := 515) (by decide +kernel), List.mem_of_getElem? (i := 645) (by decide +kernel), List.mem_of_getElem? (i := 646) (by decide +kernel)⟩
def lw_privs_1 : List (MethodName × Nat) := [(⟨"HookTrays", "hasTray", "(I)Z"⟩, 5), (⟨"HookTrays", "placeOnDraft", "(LHookTrays$Tray;I)Z"⟩, 5), (⟨"HookTrays$Desk", "beginCall", "(I)I"⟩, 5), (⟨"HookTrays", "keepDraft", "(LHookTrays$Tray;Z)I"⟩, 5), (⟨"HookTrays", "removeOnDraft", "(LHookTrays$Tray;I)Z"⟩, 5), (⟨"HookTrays", "sortDraftAnew", "(I)Z"⟩, 5), (⟨"HookTrays", "judgeOntoDraft", "(LHookTrays$Row;I)Z"⟩, 5), (⟨"HookTrays$Desk", "numberOf", "(I)I"⟩, 5), (⟨"HookTrays", "placeAllOnDraft", "(LHookTrays$Tray;LHookTrays$Row;)Z"⟩, 5), (⟨"HookTrays", "changeCards", "(LHookTrays$Row;I)Z"⟩, 5), (⟨"HookTrays", "mergeIntoDraft", "(LHookTrays$Row;I)Z"⟩, 5), (⟨"HookTrays", "isWhole", "(LHookTrays$Tray;)Z"⟩, 5), (⟨"HookTraysModel", "isCard", "(I)Z"⟩, 29), (⟨"HookTraysModel", "isHook", "(I)Z"⟩, 29), (⟨"HookTraysModel", "planOf", "(II)I"⟩, 29), (⟨"HookTraysModel", "dropPlan", "(I)V"⟩, 29)]
theorem lw_r1 : ∀ q ∈ lw_privs_1, lw_okq q := List.forall_mem_cons.mpr ⟨lw_p0, List.forall_mem_cons.mpr ⟨lw_p1, List.forall_mem_cons.mpr ⟨lw_p2, List.forall_mem_cons.mpr ⟨lw_p3, List.forall_mem_cons.mpr ⟨lw_p4, List.forall_mem_cons.mpr ⟨lw_p5, List.forall_mem_cons.mpr ⟨lw_p6, List.forall_mem_cons.mpr ⟨lw_p7, List.forall_mem_cons.mpr ⟨lw_p8, List.forall_mem_cons.mpr ⟨lw_p9, List.forall_mem_cons.mpr ⟨lw_p10, List.forall_mem_cons.mpr ⟨lw_p11, List.forall_mem_cons.mpr ⟨lw_p12, List.forall_mem_cons.mpr ⟨lw_p13, List.forall_mem_cons.mpr ⟨lw_p14, List.forall_mem_cons.mpr ⟨lw_p15, fun _ h => absurd h List.not_mem_nil⟩⟩⟩⟩⟩⟩⟩⟩⟩⟩⟩⟩⟩⟩⟩⟩
theorem lw_p16 : lw_okq (⟨"HookTraysModel", "compares", "(I)Z"⟩, 29) := ⟨⟨by decide +kernel, by decide +kernel⟩, List.mem_of_getElem? (i := 515) (by decide +kernel), List.mem_of_getElem? (i := 661) (by decide +kernel), List.mem_of_getElem? (i := 662) (by decide +kernel)⟩
theorem lw_p17 : lw_okq (⟨"HookTraysModel", "isTray", "(I)Z"⟩, 29) := ⟨⟨by decide +kernel, by decide +kernel⟩, List.mem_of_getElem? (i := 515) (by decide +kernel), List.mem_of_getElem? (i := 669) (by decide +kernel), List.mem_of_getElem? (i := 670) (by decide +kernel)⟩
theorem lw_p18 : lw_okq (⟨"HookTraysModel", "beginAct", "()V"⟩, 29) := ⟨⟨by decide +kernel, by decide +kernel⟩, List.mem_of_getElem? (i := 515) (by decide +kernel), List.mem_of_getElem? (i := 673) (by decide +kernel), List.mem_of_getElem? (i := 674) (by decide +kernel)⟩
theorem lw_p19 : lw_okq (⟨"HookTraysModel", "load", "(I)V"⟩, 29) := ⟨⟨by decide +kernel, by decide +kernel⟩, List.mem_of_getElem? (i := 515) (by decide +kernel), List.mem_of_getElem? (i := 677) (by decide +kernel), List.mem_of_getElem? (i := 678) (by decide +kernel)⟩
theorem lw_p20 : lw_okq (⟨"HookTraysModel", "comes", "(III)V"⟩, 29) := ⟨⟨by decide +kernel, by decide +kernel⟩, List.mem_of_getElem? (i := 515) (by decide +kernel), List.mem_of_getElem? (i := 681) (by decide +kernel), List.mem_of_getElem? (i := 682) (by decide +kernel)⟩
theorem lw_p21 : lw_okq (⟨"HookTraysModel", "halving", "(II)I"⟩, 29) := ⟨⟨by decide +kernel, by decide +kernel⟩, List.mem_of_getElem? (i := 515) (by decide +kernel), List.mem_of_getElem? (i := 685) (by decide +kernel), List.mem_of_getElem? (i := 686) (by decide +kernel)⟩
theorem lw_p22 : lw_okq (⟨"HookTraysModel", "isAhead", "(III)Z"⟩, 29) := ⟨⟨by decide +kernel, by decide +kernel⟩, List.mem_of_getElem? (i := 515) (by decide +kernel), List.mem_of_getElem? (i := 689) (by decide +kernel), List.mem_of_getElem? (i := 690) (by decide +kernel)⟩
theorem lw_p23 : lw_okq (⟨"HookTraysModel", "begins", "(I)Z"⟩, 29) := ⟨⟨by decide +kernel, by decide +kernel⟩, List.mem_of_getElem? (i := 515) (by decide +kernel), List.mem_of_getElem? (i := 693) (by decide +kernel), List.mem_of_getElem? (i := 694) (by decide +kernel)⟩
theorem lw_p24 : lw_okq (⟨"HookTraysModel", "truth", "(III)I"⟩, 29) := ⟨⟨by decide +kernel, by decide +kernel⟩, List.mem_of_getElem? (i := 515) (by decide +kernel), List.mem_of_getElem? (i := 697) (by decide +kernel), List.mem_of_getElem? (i := 698) (by decide +kernel)⟩
theorem lw_p25 : lw_okq (⟨"HookTraysModel", "insert", "(II)V"⟩, 29) := ⟨⟨by decide +kernel, by decide +kernel⟩, List.mem_of_getElem? (i := 515) (by decide +kernel), List.mem_of_getElem? (i := 704) (by decide +kernel), List.mem_of_getElem? (i := 705) (by decide +kernel)⟩
theorem lw_p26 : lw_okq (⟨"HookTraysModel", "up", "(II)Z"⟩, 29) := ⟨⟨by decide +kernel, by decide +kernel⟩, List.mem_of_getElem? (i := 515) (by decide +kernel), List.mem_of_getElem? (i := 708) (by decide +kernel), List.mem_of_getElem? (i := 709) (by decide +kernel)⟩
theorem lw_p27 : lw_okq (⟨"HookTraysModel", "turn", "(II)V"⟩, 29) := ⟨⟨by decide +kernel, by decide +kernel⟩, List.mem_of_getElem? (i := 515) (by decide +kernel), List.mem_of_getElem? (i := 712) (by decide +kernel), List.mem_of_getElem? (i := 713) (by decide +kernel)⟩
theorem lw_p28 : lw_okq (⟨"HookTraysModel", "ends", "(I)I"⟩, 29) := ⟨⟨by decide +kernel, by decide +kernel⟩, List.mem_of_getElem? (i := 515) (by decide +kernel), List.mem_of_getElem? (i := 716) (by decide +kernel), List.mem_of_getElem? (i := 717) (by decide +kernel)⟩
theorem lw_p29 : lw_okq (⟨"HookTraysModel", "give", "(I)V"⟩, 29) := ⟨⟨by decide +kernel, by decide +kernel⟩, List.mem_of_getElem? (i := 515) (by decide +kernel), List.mem_of_getElem? (i := 720) (by decide +kernel), List.mem_of_getElem? (i := 721) (by decide +kernel)⟩
theorem lw_p30 : lw_okq (⟨"HookTraysModel", "goes", "(II)V"⟩, 29) := ⟨⟨by decide +kernel, by decide +kernel⟩, List.mem_of_getElem? (i := 515) (by decide +kernel), List.mem_of_getElem? (i := 728) (by decide +kernel), List.mem_of_getElem? (i := 729) (by decide +kernel)⟩
theorem lw_p31 : lw_okq (⟨"HookTraysModel", "remove", "(I)V"⟩, 29) := ⟨⟨by decide +kernel, by decide +kernel⟩, List.mem_of_getElem? (i := 515) (by decide +kernel), List.mem_of_getElem? (i := 732) (by decide +kernel), List.mem_of_getElem? (i := 733) (by decide +kernel)⟩
def lw_privs_2 : List (MethodName × Nat) := [(⟨"HookTraysModel", "compares", "(I)Z"⟩, 29), (⟨"HookTraysModel", "isTray", "(I)Z"⟩, 29), (⟨"HookTraysModel", "beginAct", "()V"⟩, 29), (⟨"HookTraysModel", "load", "(I)V"⟩, 29), (⟨"HookTraysModel", "comes", "(III)V"⟩, 29), (⟨"HookTraysModel", "halving", "(II)I"⟩, 29), (⟨"HookTraysModel", "isAhead", "(III)Z"⟩, 29), (⟨"HookTraysModel", "begins", "(I)Z"⟩, 29), (⟨"HookTraysModel", "truth", "(III)I"⟩, 29), (⟨"HookTraysModel", "insert", "(II)V"⟩, 29), (⟨"HookTraysModel", "up", "(II)Z"⟩, 29), (⟨"HookTraysModel", "turn", "(II)V"⟩, 29), (⟨"HookTraysModel", "ends", "(I)I"⟩, 29), (⟨"HookTraysModel", "give", "(I)V"⟩, 29), (⟨"HookTraysModel", "goes", "(II)V"⟩, 29), (⟨"HookTraysModel", "remove", "(I)V"⟩, 29)]
theorem lw_r2 : ∀ q ∈ lw_privs_2, lw_okq q := List.forall_mem_cons.mpr ⟨lw_p16, List.forall_mem_cons.mpr ⟨lw_p17, List.forall_mem_cons.mpr ⟨lw_p18, List.forall_mem_cons.mpr ⟨lw_p19, List.forall_mem_cons.mpr ⟨lw_p20, List.forall_mem_cons.mpr ⟨lw_p21, List.forall_mem_cons.mpr ⟨lw_p22, List.forall_mem_cons.mpr ⟨lw_p23, List.forall_mem_cons.mpr ⟨lw_p24, List.forall_mem_cons.mpr ⟨lw_p25, List.forall_mem_cons.mpr ⟨lw_p26, List.forall_mem_cons.mpr ⟨lw_p27, List.forall_mem_cons.mpr ⟨lw_p28, List.forall_mem_cons.mpr ⟨lw_p29, List.forall_mem_cons.mpr ⟨lw_p30, List.forall_mem_cons.mpr ⟨lw_p31, fun _ h => absurd h List.not_mem_nil⟩⟩⟩⟩⟩⟩⟩⟩⟩⟩⟩⟩⟩⟩⟩⟩
theorem lw_p32 : lw_okq (⟨"HookTraysModel", "down", "(II)V"⟩, 29) := ⟨⟨by decide +kernel, by decide +kernel⟩, List.mem_of_getElem? (i := 515) (by decide +kernel), List.mem_of_getElem? (i := 736) (by decide +kernel), List.mem_of_getElem? (i := 737) (by decide +kernel)⟩
theorem lw_p33 : lw_okq (⟨"HookTraysModel", "merge", "(IIII)V"⟩, 29) := ⟨⟨by decide +kernel, by decide +kernel⟩, List.mem_of_getElem? (i := 515) (by decide +kernel), List.mem_of_getElem? (i := 752) (by decide +kernel), List.mem_of_getElem? (i := 753) (by decide +kernel)⟩
theorem lw_p34 : lw_okq (⟨"HookTraysModel", "isKept", "(II)Z"⟩, 29) := ⟨⟨by decide +kernel, by decide +kernel⟩, List.mem_of_getElem? (i := 515) (by decide +kernel), List.mem_of_getElem? (i := 760) (by decide +kernel), List.mem_of_getElem? (i := 761) (by decide +kernel)⟩
def lw_privs_3 : List (MethodName × Nat) := [(⟨"HookTraysModel", "down", "(II)V"⟩, 29), (⟨"HookTraysModel", "merge", "(IIII)V"⟩, 29), (⟨"HookTraysModel", "isKept", "(II)Z"⟩, 29)]
theorem lw_r3 : ∀ q ∈ lw_privs_3, lw_okq q := List.forall_mem_cons.mpr ⟨lw_p32, List.forall_mem_cons.mpr ⟨lw_p33, List.forall_mem_cons.mpr ⟨lw_p34, fun _ h => absurd h List.not_mem_nil⟩⟩⟩
def lw_privs : List (MethodName × Nat) := lw_privs_1 ++ (lw_privs_2 ++ (lw_privs_3))
def lw_tbl : List Cond := k2_sels lw_privs ++ tables_1
theorem lw_privs_ok : ∀ q ∈ lw_privs, lw_okq q := by
  show ∀ q ∈ lw_privs_1 ++ (lw_privs_2 ++ (lw_privs_3)), lw_okq q
  exact List.forall_mem_append.mpr ⟨lw_r1, List.forall_mem_append.mpr ⟨lw_r2, lw_r3⟩⟩

def RX0 : String := "HookTrays$Deck"
def TX0 : u_T := fun k => match k with
  | 0 => ("HookTrays$Deck", "weights", "[I", true)
  | 1 => ("HookTrays$Deck", "marks", "[I", true)
  | _ => ("HookTrays$Deck", "size", "I", false)
def tyX0 : Nat → FieldType := fun k => match k with
  | 0 => .array .int
  | 1 => .array .int
  | _ => .int
abbrev wsX00 : List Cond := u_ws RX0 TX0 3
theorem nmX0 : ∀ a, a < 3 → ∀ b, b < 3 → a ≠ b → (TX0 a).2.1 ≠ (TX0 b).2.1 := by decide +kernel
theorem tyX0_ok : ∀ k, k < 3 → parseFieldDescriptor (TX0 k).2.2.1 = some (tyX0 k) := by decide +kernel
abbrev cX0_init : ByteArray := prog_2_method_1_code
def yX0_init : MethodName := ⟨RX0, "<init>", "()V"⟩
abbrev cX0_has : ByteArray := prog_2_method_2_code
def yX0_has : MethodName := ⟨RX0, "has", "(I)Z"⟩
abbrev cX0_add : ByteArray := prog_2_method_3_code
def yX0_add : MethodName := ⟨RX0, "add", "(II)I"⟩
abbrev cX0_weightOf : ByteArray := prog_2_method_4_code
def yX0_weightOf : MethodName := ⟨RX0, "weightOf", "(I)I"⟩
abbrev cX0_markOf : ByteArray := prog_2_method_5_code
def yX0_markOf : MethodName := ⟨RX0, "markOf", "(I)I"⟩
def RX1 : String := "HookTrays$Desk"
def TX1 : u_T := fun k => match k with
  | 0 => ("HookTrays$Desk", "deck", "LHookTrays$Deck;", true)
  | 1 => ("HookTrays$Desk", "plans", "LHookTrays$Plans;", true)
  | 2 => ("HookTrays$Desk", "latest", "LHookTrays$LatestAct;", true)
  | 3 => ("HookTrays$Desk", "hooks", "[LHookTrays$Hook;", true)
  | _ => ("HookTrays$Desk", "hookCount", "I", false)
def tyX1 : Nat → FieldType := fun k => match k with
  | 0 => .object "HookTrays$Deck"
  | 1 => .object "HookTrays$Plans"
  | 2 => .object "HookTrays$LatestAct"
  | 3 => .array (.object "HookTrays$Hook")
  | _ => .int
abbrev wsX10 : List Cond := u_ws RX1 TX1 5
theorem nmX1 : ∀ a, a < 5 → ∀ b, b < 5 → a ≠ b → (TX1 a).2.1 ≠ (TX1 b).2.1 := by decide +kernel
theorem tyX1_ok : ∀ k, k < 5 → parseFieldDescriptor (TX1 k).2.2.1 = some (tyX1 k) := by decide +kernel
abbrev cX1_init : ByteArray := prog_3_method_1_code
def yX1_init : MethodName := ⟨RX1, "<init>", "()V"⟩
abbrev cX1_hasHook : ByteArray := prog_3_method_2_code
def yX1_hasHook : MethodName := ⟨RX1, "hasHook", "(I)Z"⟩
abbrev cX1_addHook : ByteArray := prog_3_method_3_code
def yX1_addHook : MethodName := ⟨RX1, "addHook", "(II)I"⟩
abbrev cX1_kindOf : ByteArray := prog_3_method_4_code
def yX1_kindOf : MethodName := ⟨RX1, "kindOf", "(I)I"⟩
abbrev cX1_compares : ByteArray := prog_3_method_5_code
def yX1_compares : MethodName := ⟨RX1, "compares", "(I)Z"⟩
abbrev cX1_callsOf : ByteArray := prog_3_method_6_code
def yX1_callsOf : MethodName := ⟨RX1, "callsOf", "(I)I"⟩
abbrev cX1_latestCallsOf : ByteArray := prog_3_method_7_code
def yX1_latestCallsOf : MethodName := ⟨RX1, "latestCallsOf", "(I)I"⟩
abbrev cX1_misusesOf : ByteArray := prog_3_method_8_code
def yX1_misusesOf : MethodName := ⟨RX1, "misusesOf", "(I)I"⟩
abbrev cX1_beginAct : ByteArray := prog_3_method_9_code
def yX1_beginAct : MethodName := ⟨RX1, "beginAct", "()V"⟩
abbrev cX1_askComparing : ByteArray := prog_3_method_10_code
def yX1_askComparing : MethodName := ⟨RX1, "askComparing", "(III)I"⟩
abbrev cX1_askKeeping : ByteArray := prog_3_method_11_code
def yX1_askKeeping : MethodName := ⟨RX1, "askKeeping", "(II)I"⟩
abbrev cX1_askAdding : ByteArray := prog_3_method_12_code
def yX1_askAdding : MethodName := ⟨RX1, "askAdding", "(II)I"⟩
abbrev cX1_compareTruly : ByteArray := prog_3_method_13_code
def yX1_compareTruly : MethodName := ⟨RX1, "compareTruly", "(III)I"⟩
abbrev cX1_numberOf : ByteArray := prog_3_method_14_code
def yX1_numberOf : MethodName := ⟨RX1, "numberOf", "(I)I"⟩
abbrev cX1_beginCall : ByteArray := prog_3_method_15_code
def yX1_beginCall : MethodName := ⟨RX1, "beginCall", "(I)I"⟩
def RX2 : String := "HookTrays$Hook"
def TX2 : u_T := fun k => match k with
  | 0 => ("HookTrays$Hook", "kind", "I", false)
  | 1 => ("HookTrays$Hook", "a", "I", false)
  | 2 => ("HookTrays$Hook", "calls", "I", false)
  | 3 => ("HookTrays$Hook", "latestCalls", "I", false)
  | _ => ("HookTrays$Hook", "misuses", "I", false)
def tyX2 : Nat → FieldType := fun k => match k with
  | 0 => .int
  | 1 => .int
  | 2 => .int
  | 3 => .int
  | _ => .int
abbrev wsX20 : List Cond := u_ws RX2 TX2 5
theorem nmX2 : ∀ a, a < 5 → ∀ b, b < 5 → a ≠ b → (TX2 a).2.1 ≠ (TX2 b).2.1 := by decide +kernel
theorem tyX2_ok : ∀ k, k < 5 → parseFieldDescriptor (TX2 k).2.2.1 = some (tyX2 k) := by decide +kernel
abbrev cX2_init : ByteArray := prog_4_method_1_code
def yX2_init : MethodName := ⟨RX2, "<init>", "()V"⟩
abbrev cX2_become : ByteArray := prog_4_method_2_code
def yX2_become : MethodName := ⟨RX2, "become", "(II)V"⟩
def RX3 : String := "HookTrays$LatestAct"
def TX3 : u_T := fun k => match k with
  | 0 => ("HookTrays$LatestAct", "failure", "I", false)
  | 1 => ("HookTrays$LatestAct", "hook", "I", false)
  | 2 => ("HookTrays$LatestAct", "call", "I", false)
  | 3 => ("HookTrays$LatestAct", "handled", "I", false)
  | 4 => ("HookTrays$LatestAct", "actsEver", "I", false)
  | _ => ("HookTrays$LatestAct", "actsThrownAt", "I", false)
def tyX3 : Nat → FieldType := fun k => match k with
  | 0 => .int
  | 1 => .int
  | 2 => .int
  | 3 => .int
  | 4 => .int
  | _ => .int
abbrev wsX30 : List Cond := u_ws RX3 TX3 6
theorem nmX3 : ∀ a, a < 6 → ∀ b, b < 6 → a ≠ b → (TX3 a).2.1 ≠ (TX3 b).2.1 := by decide +kernel
theorem tyX3_ok : ∀ k, k < 6 → parseFieldDescriptor (TX3 k).2.2.1 = some (tyX3 k) := by decide +kernel
abbrev cX3_init : ByteArray := prog_5_method_1_code
def yX3_init : MethodName := ⟨RX3, "<init>", "()V"⟩
abbrev cX3_begin : ByteArray := prog_5_method_2_code
def yX3_begin : MethodName := ⟨RX3, "begin", "()V"⟩
abbrev cX3_fail : ByteArray := prog_5_method_3_code
def yX3_fail : MethodName := ⟨RX3, "fail", "(III)V"⟩
def RX4 : String := "HookTrays$Plans"
def TX4 : u_T := fun k => match k with
  | 0 => ("HookTrays$Plans", "hooks", "[I", true)
  | 1 => ("HookTrays$Plans", "calls", "[I", true)
  | 2 => ("HookTrays$Plans", "effects", "[I", true)
  | _ => ("HookTrays$Plans", "size", "I", false)
def tyX4 : Nat → FieldType := fun k => match k with
  | 0 => .array .int
  | 1 => .array .int
  | 2 => .array .int
  | _ => .int
abbrev wsX40 : List Cond := u_ws RX4 TX4 4
theorem nmX4 : ∀ a, a < 4 → ∀ b, b < 4 → a ≠ b → (TX4 a).2.1 ≠ (TX4 b).2.1 := by decide +kernel
theorem tyX4_ok : ∀ k, k < 4 → parseFieldDescriptor (TX4 k).2.2.1 = some (tyX4 k) := by decide +kernel
abbrev cX4_init : ByteArray := prog_6_method_1_code
def yX4_init : MethodName := ⟨RX4, "<init>", "()V"⟩
abbrev cX4_stand : ByteArray := prog_6_method_2_code
def yX4_stand : MethodName := ⟨RX4, "stand", "(III)I"⟩
abbrev cX4_effectOf : ByteArray := prog_6_method_3_code
def yX4_effectOf : MethodName := ⟨RX4, "effectOf", "(I)I"⟩
abbrev cX4_drop : ByteArray := prog_6_method_4_code
def yX4_drop : MethodName := ⟨RX4, "drop", "(I)V"⟩
abbrev cX4_clear : ByteArray := prog_6_method_5_code
def yX4_clear : MethodName := ⟨RX4, "clear", "()I"⟩
abbrev cX4_standingFor : ByteArray := prog_6_method_6_code
def yX4_standingFor : MethodName := ⟨RX4, "standingFor", "(I)I"⟩
abbrev cX4_indexOf : ByteArray := prog_6_method_7_code
def yX4_indexOf : MethodName := ⟨RX4, "indexOf", "(II)I"⟩
def RX5 : String := "HookTrays$Row"
def TX5 : u_T := fun k => match k with
  | 0 => ("HookTrays$Row", "cards", "[I", true)
  | _ => ("HookTrays$Row", "size", "I", false)
def tyX5 : Nat → FieldType := fun k => match k with
  | 0 => .array .int
  | _ => .int
abbrev wsX50 : List Cond := u_ws RX5 TX5 2
theorem nmX5 : ∀ a, a < 2 → ∀ b, b < 2 → a ≠ b → (TX5 a).2.1 ≠ (TX5 b).2.1 := by decide +kernel
theorem tyX5_ok : ∀ k, k < 2 → parseFieldDescriptor (TX5 k).2.2.1 = some (tyX5 k) := by decide +kernel
abbrev cX5_init : ByteArray := prog_7_method_1_code
def yX5_init : MethodName := ⟨RX5, "<init>", "()V"⟩
abbrev cX5_hasPlace : ByteArray := prog_7_method_2_code
def yX5_hasPlace : MethodName := ⟨RX5, "hasPlace", "(I)Z"⟩
abbrev cX5_cardAt : ByteArray := prog_7_method_3_code
def yX5_cardAt : MethodName := ⟨RX5, "cardAt", "(I)I"⟩
abbrev cX5_isLike : ByteArray := prog_7_method_4_code
def yX5_isLike : MethodName := ⟨RX5, "isLike", "(LHookTrays$Row;)Z"⟩
abbrev cX5_clear : ByteArray := prog_7_method_5_code
def yX5_clear : MethodName := ⟨RX5, "clear", "()V"⟩
abbrev cX5_copy : ByteArray := prog_7_method_6_code
def yX5_copy : MethodName := ⟨RX5, "copy", "(LHookTrays$Row;)V"⟩
abbrev cX5_append : ByteArray := prog_7_method_7_code
def yX5_append : MethodName := ⟨RX5, "append", "(I)V"⟩
abbrev cX5_appendPart : ByteArray := prog_7_method_8_code
def yX5_appendPart : MethodName := ⟨RX5, "appendPart", "(LHookTrays$Row;II)V"⟩
abbrev cX5_replace : ByteArray := prog_7_method_9_code
def yX5_replace : MethodName := ⟨RX5, "replace", "(II)V"⟩
abbrev cX5_swap : ByteArray := prog_7_method_10_code
def yX5_swap : MethodName := ⟨RX5, "swap", "(II)V"⟩
abbrev cX5_insert : ByteArray := prog_7_method_11_code
def yX5_insert : MethodName := ⟨RX5, "insert", "(II)V"⟩
abbrev cX5_remove : ByteArray := prog_7_method_12_code
def yX5_remove : MethodName := ⟨RX5, "remove", "(I)V"⟩
abbrev cX5_placeFor : ByteArray := prog_7_method_13_code
def yX5_placeFor : MethodName := ⟨RX5, "placeFor", "(ILHookTrays$Desk;I)I"⟩
abbrev cX5_rise : ByteArray := prog_7_method_14_code
def yX5_rise : MethodName := ⟨RX5, "rise", "(ILHookTrays$Desk;I)I"⟩
abbrev cX5_sink : ByteArray := prog_7_method_15_code
def yX5_sink : MethodName := ⟨RX5, "sink", "(ILHookTrays$Desk;I)I"⟩
abbrev cX5_appendMerged : ByteArray := prog_7_method_16_code
def yX5_appendMerged : MethodName := ⟨RX5, "appendMerged", "(LHookTrays$Row;IIILHookTrays$Desk;I)Z"⟩
def RX6 : String := "HookTrays$Tray"
def TX6 : u_T := fun k => match k with
  | 0 => ("HookTrays$Tray", "row", "LHookTrays$Row;", true)
  | 1 => ("HookTrays$Tray", "kind", "I", false)
  | _ => ("HookTrays$Tray", "hook", "I", false)
def tyX6 : Nat → FieldType := fun k => match k with
  | 0 => .object "HookTrays$Row"
  | 1 => .int
  | _ => .int
abbrev wsX60 : List Cond := u_ws RX6 TX6 3
theorem nmX6 : ∀ a, a < 3 → ∀ b, b < 3 → a ≠ b → (TX6 a).2.1 ≠ (TX6 b).2.1 := by decide +kernel
theorem tyX6_ok : ∀ k, k < 3 → parseFieldDescriptor (TX6 k).2.2.1 = some (tyX6 k) := by decide +kernel
abbrev cX6_init : ByteArray := prog_8_method_1_code
def yX6_init : MethodName := ⟨RX6, "<init>", "()V"⟩
abbrev cX6_become : ByteArray := prog_8_method_2_code
def yX6_become : MethodName := ⟨RX6, "become", "(II)V"⟩
def RX7 : String := "HookTrays"
def TX7 : u_T := fun k => match k with
  | 0 => ("HookTrays", "desk", "LHookTrays$Desk;", true)
  | 1 => ("HookTrays", "trays", "[LHookTrays$Tray;", true)
  | 2 => ("HookTrays", "trayCount", "I", false)
  | 3 => ("HookTrays", "draft", "LHookTrays$Row;", true)
  | _ => ("HookTrays", "spare", "LHookTrays$Row;", true)
def tyX7 : Nat → FieldType := fun k => match k with
  | 0 => .object "HookTrays$Desk"
  | 1 => .array (.object "HookTrays$Tray")
  | 2 => .int
  | 3 => .object "HookTrays$Row"
  | _ => .object "HookTrays$Row"
abbrev wsX70 : List Cond := u_ws RX7 TX7 5
theorem nmX7 : ∀ a, a < 5 → ∀ b, b < 5 → a ≠ b → (TX7 a).2.1 ≠ (TX7 b).2.1 := by decide +kernel
theorem tyX7_ok : ∀ k, k < 5 → parseFieldDescriptor (TX7 k).2.2.1 = some (tyX7 k) := by decide +kernel
abbrev cX7_init : ByteArray := prog_1_method_1_code
def yX7_init : MethodName := ⟨RX7, "<init>", "()V"⟩
abbrev cX7_card : ByteArray := prog_1_method_2_code
def yX7_card : MethodName := ⟨RX7, "card", "(II)I"⟩
abbrev cX7_told : ByteArray := prog_1_method_3_code
def yX7_told : MethodName := ⟨RX7, "told", "(II)J"⟩
abbrev cX7_hook : ByteArray := prog_1_method_4_code
def yX7_hook : MethodName := ⟨RX7, "hook", "(II)I"⟩
abbrev cX7_plan : ByteArray := prog_1_method_5_code
def yX7_plan : MethodName := ⟨RX7, "plan", "(IIII)I"⟩
abbrev cX7_clearPlans : ByteArray := prog_1_method_6_code
def yX7_clearPlans : MethodName := ⟨RX7, "clearPlans", "()I"⟩
abbrev cX7_about : ByteArray := prog_1_method_7_code
def yX7_about : MethodName := ⟨RX7, "about", "(II)I"⟩
abbrev cX7_tray : ByteArray := prog_1_method_8_code
def yX7_tray : MethodName := ⟨RX7, "tray", "(II)I"⟩
abbrev cX7_put : ByteArray := prog_1_method_9_code
def yX7_put : MethodName := ⟨RX7, "put", "(II)I"⟩
abbrev cX7_take : ByteArray := prog_1_method_10_code
def yX7_take : MethodName := ⟨RX7, "take", "(II)I"⟩
abbrev cX7_first : ByteArray := prog_1_method_11_code
def yX7_first : MethodName := ⟨RX7, "first", "(I)I"⟩
abbrev cX7_find : ByteArray := prog_1_method_12_code
def yX7_find : MethodName := ⟨RX7, "find", "(II)I"⟩
abbrev cX7_sort : ByteArray := prog_1_method_13_code
def yX7_sort : MethodName := ⟨RX7, "sort", "(II)I"⟩
abbrev cX7_filter : ByteArray := prog_1_method_14_code
def yX7_filter : MethodName := ⟨RX7, "filter", "(II)I"⟩
abbrev cX7_change : ByteArray := prog_1_method_15_code
def yX7_change : MethodName := ⟨RX7, "change", "(II)I"⟩
abbrev cX7_all : ByteArray := prog_1_method_16_code
def yX7_all : MethodName := ⟨RX7, "all", "(II)I"⟩
abbrev cX7_at : ByteArray := prog_1_method_17_code
def yX7_at : MethodName := ⟨RX7, "at", "(II)I"⟩
abbrev cX7_whole : ByteArray := prog_1_method_18_code
def yX7_whole : MethodName := ⟨RX7, "whole", "(II)I"⟩
abbrev cX7_same : ByteArray := prog_1_method_19_code
def yX7_same : MethodName := ⟨RX7, "same", "(II)I"⟩
abbrev cX7_thrown : ByteArray := prog_1_method_20_code
def yX7_thrown : MethodName := ⟨RX7, "thrown", "(I)I"⟩
abbrev cX7_count : ByteArray := prog_1_method_21_code
def yX7_count : MethodName := ⟨RX7, "count", "(I)I"⟩
abbrev cX7_isWithin : ByteArray := prog_1_method_22_code
def yX7_isWithin : MethodName := ⟨RX7, "isWithin", "(III)Z"⟩
abbrev cX7_plannedEffect : ByteArray := prog_1_method_23_code
def yX7_plannedEffect : MethodName := ⟨RX7, "plannedEffect", "(II)I"⟩
abbrev cX7_hasTray : ByteArray := prog_1_method_24_code
def yX7_hasTray : MethodName := ⟨RX7, "hasTray", "(I)Z"⟩
abbrev cX7_keepDraft : ByteArray := prog_1_method_25_code
def yX7_keepDraft : MethodName := ⟨RX7, "keepDraft", "(LHookTrays$Tray;Z)I"⟩
abbrev cX7_placeOnDraft : ByteArray := prog_1_method_26_code
def yX7_placeOnDraft : MethodName := ⟨RX7, "placeOnDraft", "(LHookTrays$Tray;I)Z"⟩
abbrev cX7_removeOnDraft : ByteArray := prog_1_method_27_code
def yX7_removeOnDraft : MethodName := ⟨RX7, "removeOnDraft", "(LHookTrays$Tray;I)Z"⟩
abbrev cX7_sortDraftAnew : ByteArray := prog_1_method_28_code
def yX7_sortDraftAnew : MethodName := ⟨RX7, "sortDraftAnew", "(I)Z"⟩
abbrev cX7_judgeOntoDraft : ByteArray := prog_1_method_29_code
def yX7_judgeOntoDraft : MethodName := ⟨RX7, "judgeOntoDraft", "(LHookTrays$Row;I)Z"⟩
abbrev cX7_placeAllOnDraft : ByteArray := prog_1_method_30_code
def yX7_placeAllOnDraft : MethodName := ⟨RX7, "placeAllOnDraft", "(LHookTrays$Tray;LHookTrays$Row;)Z"⟩
abbrev cX7_changeCards : ByteArray := prog_1_method_31_code
def yX7_changeCards : MethodName := ⟨RX7, "changeCards", "(LHookTrays$Row;I)Z"⟩
abbrev cX7_mergeIntoDraft : ByteArray := prog_1_method_32_code
def yX7_mergeIntoDraft : MethodName := ⟨RX7, "mergeIntoDraft", "(LHookTrays$Row;I)Z"⟩
abbrev cX7_isWhole : ByteArray := prog_1_method_33_code
def yX7_isWhole : MethodName := ⟨RX7, "isWhole", "(LHookTrays$Tray;)Z"⟩
def RX8 : String := "HookTraysModel"
def TX8 : u_T := fun k => match k with
  | 0 => ("HookTraysModel", "cards", "I", false)
  | 1 => ("HookTraysModel", "weight", "[I", true)
  | 2 => ("HookTraysModel", "mark", "[I", true)
  | 3 => ("HookTraysModel", "hooks", "I", false)
  | 4 => ("HookTraysModel", "hookKind", "[I", true)
  | 5 => ("HookTraysModel", "hookA", "[I", true)
  | 6 => ("HookTraysModel", "calls", "[I", true)
  | 7 => ("HookTraysModel", "latest", "[I", true)
  | 8 => ("HookTraysModel", "misuses", "[I", true)
  | 9 => ("HookTraysModel", "plans", "I", false)
  | 10 => ("HookTraysModel", "planHook", "[I", true)
  | 11 => ("HookTraysModel", "planCall", "[I", true)
  | 12 => ("HookTraysModel", "planWhat", "[I", true)
  | 13 => ("HookTraysModel", "planF", "[I", true)
  | 14 => ("HookTraysModel", "trays", "I", false)
  | 15 => ("HookTraysModel", "trayKind", "[I", true)
  | 16 => ("HookTraysModel", "trayHook", "[I", true)
  | 17 => ("HookTraysModel", "many", "[I", true)
  | 18 => ("HookTraysModel", "held", "[I", true)
  | 19 => ("HookTraysModel", "acts", "I", false)
  | 20 => ("HookTraysModel", "actsThrown", "I", false)
  | 21 => ("HookTraysModel", "isThrown", "Z", false)
  | 22 => ("HookTraysModel", "thrownBy", "I", false)
  | 23 => ("HookTraysModel", "thrownHook", "I", false)
  | 24 => ("HookTraysModel", "thrownCall", "I", false)
  | 25 => ("HookTraysModel", "done", "I", false)
  | 26 => ("HookTraysModel", "size", "I", false)
  | 27 => ("HookTraysModel", "row", "[I", true)
  | _ => ("HookTraysModel", "other", "[I", true)
def tyX8 : Nat → FieldType := fun k => match k with
  | 0 => .int
  | 1 => .array .int
  | 2 => .array .int
  | 3 => .int
  | 4 => .array .int
  | 5 => .array .int
  | 6 => .array .int
  | 7 => .array .int
  | 8 => .array .int
  | 9 => .int
  | 10 => .array .int
  | 11 => .array .int
  | 12 => .array .int
  | 13 => .array .int
  | 14 => .int
  | 15 => .array .int
  | 16 => .array .int
  | 17 => .array .int
  | 18 => .array .int
  | 19 => .int
  | 20 => .int
  | 21 => .boolean
  | 22 => .int
  | 23 => .int
  | 24 => .int
  | 25 => .int
  | 26 => .int
  | 27 => .array .int
  | _ => .array .int
abbrev wsX80 : List Cond := u_ws RX8 TX8 29
theorem nmX8 : ∀ a, a < 29 → ∀ b, b < 29 → a ≠ b → (TX8 a).2.1 ≠ (TX8 b).2.1 := by decide +kernel
theorem tyX8_ok : ∀ k, k < 29 → parseFieldDescriptor (TX8 k).2.2.1 = some (tyX8 k) := by decide +kernel
abbrev cX8_init : ByteArray := prog_10_method_1_code
def yX8_init : MethodName := ⟨RX8, "<init>", "()V"⟩
abbrev cX8_in : ByteArray := prog_10_method_2_code
def yX8_in : MethodName := ⟨RX8, "in", "(JJJ)Z"⟩
abbrev cX8_isCard : ByteArray := prog_10_method_3_code
def yX8_isCard : MethodName := ⟨RX8, "isCard", "(I)Z"⟩
abbrev cX8_isHook : ByteArray := prog_10_method_4_code
def yX8_isHook : MethodName := ⟨RX8, "isHook", "(I)Z"⟩
abbrev cX8_isTray : ByteArray := prog_10_method_5_code
def yX8_isTray : MethodName := ⟨RX8, "isTray", "(I)Z"⟩
abbrev cX8_compares : ByteArray := prog_10_method_6_code
def yX8_compares : MethodName := ⟨RX8, "compares", "(I)Z"⟩
abbrev cX8_card : ByteArray := prog_10_method_7_code
def yX8_card : MethodName := ⟨RX8, "card", "(II)I"⟩
abbrev cX8_told : ByteArray := prog_10_method_8_code
def yX8_told : MethodName := ⟨RX8, "told", "(II)J"⟩
abbrev cX8_hook : ByteArray := prog_10_method_9_code
def yX8_hook : MethodName := ⟨RX8, "hook", "(II)I"⟩
abbrev cX8_planOf : ByteArray := prog_10_method_10_code
def yX8_planOf : MethodName := ⟨RX8, "planOf", "(II)I"⟩
abbrev cX8_dropPlan : ByteArray := prog_10_method_11_code
def yX8_dropPlan : MethodName := ⟨RX8, "dropPlan", "(I)V"⟩
abbrev cX8_plan : ByteArray := prog_10_method_12_code
def yX8_plan : MethodName := ⟨RX8, "plan", "(IIII)I"⟩
abbrev cX8_clearPlans : ByteArray := prog_10_method_13_code
def yX8_clearPlans : MethodName := ⟨RX8, "clearPlans", "()I"⟩
abbrev cX8_about : ByteArray := prog_10_method_14_code
def yX8_about : MethodName := ⟨RX8, "about", "(II)I"⟩
abbrev cX8_begins : ByteArray := prog_10_method_15_code
def yX8_begins : MethodName := ⟨RX8, "begins", "(I)Z"⟩
abbrev cX8_sign : ByteArray := prog_10_method_16_code
def yX8_sign : MethodName := ⟨RX8, "sign", "(II)I"⟩
abbrev cX8_truth : ByteArray := prog_10_method_17_code
def yX8_truth : MethodName := ⟨RX8, "truth", "(III)I"⟩
abbrev cX8_isAhead : ByteArray := prog_10_method_18_code
def yX8_isAhead : MethodName := ⟨RX8, "isAhead", "(III)Z"⟩
abbrev cX8_tray : ByteArray := prog_10_method_19_code
def yX8_tray : MethodName := ⟨RX8, "tray", "(II)I"⟩
abbrev cX8_beginAct : ByteArray := prog_10_method_20_code
def yX8_beginAct : MethodName := ⟨RX8, "beginAct", "()V"⟩
abbrev cX8_load : ByteArray := prog_10_method_21_code
def yX8_load : MethodName := ⟨RX8, "load", "(I)V"⟩
abbrev cX8_give : ByteArray := prog_10_method_22_code
def yX8_give : MethodName := ⟨RX8, "give", "(I)V"⟩
abbrev cX8_ends : ByteArray := prog_10_method_23_code
def yX8_ends : MethodName := ⟨RX8, "ends", "(I)I"⟩
abbrev cX8_insert : ByteArray := prog_10_method_24_code
def yX8_insert : MethodName := ⟨RX8, "insert", "(II)V"⟩
abbrev cX8_remove : ByteArray := prog_10_method_25_code
def yX8_remove : MethodName := ⟨RX8, "remove", "(I)V"⟩
abbrev cX8_halving : ByteArray := prog_10_method_26_code
def yX8_halving : MethodName := ⟨RX8, "halving", "(II)I"⟩
abbrev cX8_turn : ByteArray := prog_10_method_27_code
def yX8_turn : MethodName := ⟨RX8, "turn", "(II)V"⟩
abbrev cX8_up : ByteArray := prog_10_method_28_code
def yX8_up : MethodName := ⟨RX8, "up", "(II)Z"⟩
abbrev cX8_down : ByteArray := prog_10_method_29_code
def yX8_down : MethodName := ⟨RX8, "down", "(II)V"⟩
abbrev cX8_comes : ByteArray := prog_10_method_30_code
def yX8_comes : MethodName := ⟨RX8, "comes", "(III)V"⟩
abbrev cX8_put : ByteArray := prog_10_method_31_code
def yX8_put : MethodName := ⟨RX8, "put", "(II)I"⟩
abbrev cX8_goes : ByteArray := prog_10_method_32_code
def yX8_goes : MethodName := ⟨RX8, "goes", "(II)V"⟩
abbrev cX8_take : ByteArray := prog_10_method_33_code
def yX8_take : MethodName := ⟨RX8, "take", "(II)I"⟩
abbrev cX8_first : ByteArray := prog_10_method_34_code
def yX8_first : MethodName := ⟨RX8, "first", "(I)I"⟩
abbrev cX8_find : ByteArray := prog_10_method_35_code
def yX8_find : MethodName := ⟨RX8, "find", "(II)I"⟩
abbrev cX8_merge : ByteArray := prog_10_method_36_code
def yX8_merge : MethodName := ⟨RX8, "merge", "(IIII)V"⟩
abbrev cX8_sort : ByteArray := prog_10_method_37_code
def yX8_sort : MethodName := ⟨RX8, "sort", "(II)I"⟩
abbrev cX8_isKept : ByteArray := prog_10_method_38_code
def yX8_isKept : MethodName := ⟨RX8, "isKept", "(II)Z"⟩
abbrev cX8_filter : ByteArray := prog_10_method_39_code
def yX8_filter : MethodName := ⟨RX8, "filter", "(II)I"⟩
abbrev cX8_change : ByteArray := prog_10_method_40_code
def yX8_change : MethodName := ⟨RX8, "change", "(II)I"⟩
abbrev cX8_all : ByteArray := prog_10_method_41_code
def yX8_all : MethodName := ⟨RX8, "all", "(II)I"⟩
abbrev cX8_at : ByteArray := prog_10_method_42_code
def yX8_at : MethodName := ⟨RX8, "at", "(II)I"⟩
abbrev cX8_whole : ByteArray := prog_10_method_43_code
def yX8_whole : MethodName := ⟨RX8, "whole", "(II)I"⟩
abbrev cX8_same : ByteArray := prog_10_method_44_code
def yX8_same : MethodName := ⟨RX8, "same", "(II)I"⟩
abbrev cX8_thrown : ByteArray := prog_10_method_45_code
def yX8_thrown : MethodName := ⟨RX8, "thrown", "(I)I"⟩
abbrev cX8_count : ByteArray := prog_10_method_46_code
def yX8_count : MethodName := ⟨RX8, "count", "(I)I"⟩
def RJ6 : String := "java/lang/Integer"
def TJ6 : u_T := fun k => match k with
  | _ => ("", "", "", false)
def tyJ6 : Nat → FieldType := fun k => match k with
  | _ => .int
abbrev wsJ60 : List Cond := u_ws RJ6 TJ6 0
theorem nmJ6 : ∀ a, a < 0 → ∀ b, b < 0 → a ≠ b → (TJ6 a).2.1 ≠ (TJ6 b).2.1 := by decide +kernel
theorem tyJ6_ok : ∀ k, k < 0 → parseFieldDescriptor (TJ6 k).2.2.1 = some (tyJ6 k) := by decide +kernel
abbrev cJ6_compare_7cf53 : ByteArray := prog_11_method_40_code
def yJ6_compare_7cf53 : MethodName := ⟨RJ6, "compare", "(II)I"⟩
def RJ9 : String := "java/lang/Math"
def TJ9 : u_T := fun k => match k with
  | _ => ("", "", "", false)
def tyJ9 : Nat → FieldType := fun k => match k with
  | _ => .int
abbrev wsJ90 : List Cond := u_ws RJ9 TJ9 0
theorem nmJ9 : ∀ a, a < 0 → ∀ b, b < 0 → a ≠ b → (TJ9 a).2.1 ≠ (TJ9 b).2.1 := by decide +kernel
theorem tyJ9_ok : ∀ k, k < 0 → parseFieldDescriptor (TJ9 k).2.2.1 = some (tyJ9 k) := by decide +kernel
abbrev cJ9_min_7cf53 : ByteArray := prog_12_method_69_code
def yJ9_min_7cf53 : MethodName := ⟨RJ9, "min", "(II)I"⟩
def RL : String := "HookTraysLaw"
abbrev cL_law : ByteArray := code
def yL_law : MethodName := ⟨RL, "law", "([I)Z"⟩
abbrev vwCl : List vw_C := [(RX0, TX0, 3), (RX1, TX1, 5), (RX2, TX2, 5), (RX3, TX3, 6), (RX4, TX4, 4), (RX5, TX5, 2), (RX6, TX6, 3), (RX7, TX7, 5), (RX8, TX8, 29)]
end
section
/-- the tables' words that a call may hand on -/
def wsL_law : List Cond := lw_tbl.filter goodWord
theorem wsL_law_in : ∀ w ∈ wsL_law, w ∈ lw_tbl := fun w h => (List.mem_filter.mp h).1
theorem tb_gi : GoodIn wsL_law wsL_law := fun w h => ⟨h, good_of_word (List.mem_filter.mp h).2⟩
theorem tb_in {w : Cond} (h : w ∈ lw_tbl) (hg : goodWord w = true) : w ∈ wsL_law := List.mem_filter.mpr ⟨h, hg⟩
theorem tbt1 {w : Cond} (h : w ∈ tables_1_1) : w ∈ lw_tbl := List.mem_append_right _ (List.mem_append_left _ h)
theorem tbt2 {w : Cond} (h : w ∈ tables_1_2) : w ∈ lw_tbl := List.mem_append_right _ (List.mem_append_right _ (List.mem_append_left _ h))
theorem tbt3 {w : Cond} (h : w ∈ tables_1_3) : w ∈ lw_tbl := List.mem_append_right _ (List.mem_append_right _ (List.mem_append_right _ (List.mem_append_left _ h)))
theorem tbt4 {w : Cond} (h : w ∈ tables_1_4) : w ∈ lw_tbl := List.mem_append_right _ (List.mem_append_right _ (List.mem_append_right _ (List.mem_append_right _ h)))
theorem tw1_0 : (.initialized RL : Cond) ∈ wsL_law := tb_in (tbt1 (List.mem_of_getElem? (i := 0) rfl)) rfl
theorem tw1_1 : (.initialized RX7 : Cond) ∈ wsL_law := tb_in (tbt1 (List.mem_of_getElem? (i := 1) rfl)) rfl
theorem tw1_2 : (.initialized RX1 : Cond) ∈ wsL_law := tb_in (tbt1 (List.mem_of_getElem? (i := 2) rfl)) rfl
theorem tw1_3 : (.initialized RX0 : Cond) ∈ wsL_law := tb_in (tbt1 (List.mem_of_getElem? (i := 3) rfl)) rfl
theorem tw1_4 : (.initialized RX4 : Cond) ∈ wsL_law := tb_in (tbt1 (List.mem_of_getElem? (i := 4) rfl)) rfl
theorem tw1_5 : (.initialized RX3 : Cond) ∈ wsL_law := tb_in (tbt1 (List.mem_of_getElem? (i := 5) rfl)) rfl
theorem tw1_6 : (.initialized RX2 : Cond) ∈ wsL_law := tb_in (tbt1 (List.mem_of_getElem? (i := 6) rfl)) rfl
theorem tw1_7 : (.initialized RX6 : Cond) ∈ wsL_law := tb_in (tbt1 (List.mem_of_getElem? (i := 7) rfl)) rfl
theorem tw1_8 : (.initialized RX5 : Cond) ∈ wsL_law := tb_in (tbt1 (List.mem_of_getElem? (i := 8) rfl)) rfl
theorem tw1_9 : (.initialized RX8 : Cond) ∈ wsL_law := tb_in (tbt1 (List.mem_of_getElem? (i := 9) rfl)) rfl
theorem tw1_10 : (.initialized RJ6 : Cond) ∈ wsL_law := tb_in (tbt1 (List.mem_of_getElem? (i := 10) rfl)) rfl
theorem tw1_11 : (.initialized "java/lang/Math" : Cond) ∈ wsL_law := tb_in (tbt1 (List.mem_of_getElem? (i := 11) rfl)) rfl
theorem tw1_12 : (.classLink RL 7 RX7 : Cond) ∈ wsL_law := tb_in (tbt1 (List.mem_of_getElem? (i := 12) rfl)) rfl
theorem tw1_13 : (.instantiable RX7 5 : Cond) ∈ wsL_law := tb_in (tbt1 (List.mem_of_getElem? (i := 13) rfl)) rfl
theorem tw1_14 : (.methodLink RL 9 yX7_init : Cond) ∈ wsL_law := tb_in (tbt1 (List.mem_of_getElem? (i := 14) rfl)) rfl
theorem tw1_15 : (.instanceMethod yX7_init : Cond) ∈ wsL_law := tb_in (tbt1 (List.mem_of_getElem? (i := 15) rfl)) rfl
theorem tw1_16 : (.code yX7_init cX7_init 2 none : Cond) ∈ wsL_law := tb_in (tbt1 (List.mem_of_getElem? (i := 16) rfl)) rfl
theorem tw1_17 : (.methodLink RX7 1 objectInit : Cond) ∈ wsL_law := tb_in (tbt1 (List.mem_of_getElem? (i := 17) rfl)) rfl
theorem tw1_18 : (.instanceMethod objectInit : Cond) ∈ wsL_law := tb_in (tbt1 (List.mem_of_getElem? (i := 18) rfl)) rfl
theorem tw1_20 : (.classLink RX7 13 RX1 : Cond) ∈ wsL_law := tb_in (tbt1 (List.mem_of_getElem? (i := 20) rfl)) rfl
theorem tw1_21 : (.instantiable RX1 5 : Cond) ∈ wsL_law := tb_in (tbt1 (List.mem_of_getElem? (i := 21) rfl)) rfl
theorem tw1_22 : (.methodLink RX7 15 yX1_init : Cond) ∈ wsL_law := tb_in (tbt1 (List.mem_of_getElem? (i := 22) rfl)) rfl
theorem tw1_23 : (.instanceMethod yX1_init : Cond) ∈ wsL_law := tb_in (tbt1 (List.mem_of_getElem? (i := 23) rfl)) rfl
theorem tw1_24 : (.code yX1_init cX1_init 2 none : Cond) ∈ wsL_law := tb_in (tbt1 (List.mem_of_getElem? (i := 24) rfl)) rfl
theorem tw1_25 : (.methodLink RX1 3 objectInit : Cond) ∈ wsL_law := tb_in (tbt1 (List.mem_of_getElem? (i := 25) rfl)) rfl
theorem tw1_26 : (.classLink RX1 9 RX0 : Cond) ∈ wsL_law := tb_in (tbt1 (List.mem_of_getElem? (i := 26) rfl)) rfl
theorem tw1_27 : (.instantiable RX0 3 : Cond) ∈ wsL_law := tb_in (tbt1 (List.mem_of_getElem? (i := 27) rfl)) rfl
theorem tw1_29 : (.instanceMethod yX0_init : Cond) ∈ wsL_law := tb_in (tbt1 (List.mem_of_getElem? (i := 29) rfl)) rfl
theorem tw1_30 : (.code yX0_init cX0_init 1 none : Cond) ∈ wsL_law := tb_in (tbt1 (List.mem_of_getElem? (i := 30) rfl)) rfl
theorem tw1_31 : (.methodLink RX0 3 objectInit : Cond) ∈ wsL_law := tb_in (tbt1 (List.mem_of_getElem? (i := 31) rfl)) rfl
theorem tw1_32 : (.fieldLink RX0 9 "HookTrays$Deck" "weights" "[I" : Cond) ∈ wsL_law := tb_in (tbt1 (List.mem_of_getElem? (i := 32) rfl)) rfl
theorem tw1_33 : (.fieldLink RX0 15 "HookTrays$Deck" "marks" "[I" : Cond) ∈ wsL_law := tb_in (tbt1 (List.mem_of_getElem? (i := 33) rfl)) rfl
theorem tw1_34 : (.fieldLink RX0 18 "HookTrays$Deck" "size" "I" : Cond) ∈ wsL_law := tb_in (tbt1 (List.mem_of_getElem? (i := 34) rfl)) rfl
theorem tw1_36 : (.laysFinal RX0 "HookTrays$Deck" "weights" "[I" : Cond) ∈ wsL_law := tb_in (tbt1 (List.mem_of_getElem? (i := 36) rfl)) rfl
theorem tw1_38 : (.laysFinal RX0 "HookTrays$Deck" "marks" "[I" : Cond) ∈ wsL_law := tb_in (tbt1 (List.mem_of_getElem? (i := 38) rfl)) rfl
theorem tw1_40 : (.lays RX0 "HookTrays$Deck" "size" "I" : Cond) ∈ wsL_law := tb_in (tbt1 (List.mem_of_getElem? (i := 40) rfl)) rfl
theorem tw1_43 : (.arrayClass .int : Cond) ∈ wsL_law := tb_in (tbt1 (List.mem_of_getElem? (i := 43) rfl)) rfl
theorem tw1_44 : (.classLink RX1 18 RX4 : Cond) ∈ wsL_law := tb_in (tbt1 (List.mem_of_getElem? (i := 44) rfl)) rfl
theorem tw1_45 : (.instantiable RX4 4 : Cond) ∈ wsL_law := tb_in (tbt1 (List.mem_of_getElem? (i := 45) rfl)) rfl
theorem tw1_47 : (.instanceMethod yX4_init : Cond) ∈ wsL_law := tb_in (tbt1 (List.mem_of_getElem? (i := 47) rfl)) rfl
theorem tw1_48 : (.code yX4_init cX4_init 1 none : Cond) ∈ wsL_law := tb_in (tbt1 (List.mem_of_getElem? (i := 48) rfl)) rfl
theorem tw1_49 : (.methodLink RX4 3 objectInit : Cond) ∈ wsL_law := tb_in (tbt1 (List.mem_of_getElem? (i := 49) rfl)) rfl
theorem tw1_50 : (.fieldLink RX4 9 "HookTrays$Plans" "hooks" "[I" : Cond) ∈ wsL_law := tb_in (tbt1 (List.mem_of_getElem? (i := 50) rfl)) rfl
theorem tw1_51 : (.fieldLink RX4 15 "HookTrays$Plans" "calls" "[I" : Cond) ∈ wsL_law := tb_in (tbt1 (List.mem_of_getElem? (i := 51) rfl)) rfl
theorem tw1_52 : (.fieldLink RX4 18 "HookTrays$Plans" "effects" "[I" : Cond) ∈ wsL_law := tb_in (tbt1 (List.mem_of_getElem? (i := 52) rfl)) rfl
theorem tw1_53 : (.fieldLink RX4 21 "HookTrays$Plans" "size" "I" : Cond) ∈ wsL_law := tb_in (tbt1 (List.mem_of_getElem? (i := 53) rfl)) rfl
theorem tw1_55 : (.laysFinal RX4 "HookTrays$Plans" "hooks" "[I" : Cond) ∈ wsL_law := tb_in (tbt1 (List.mem_of_getElem? (i := 55) rfl)) rfl
theorem tw1_57 : (.laysFinal RX4 "HookTrays$Plans" "calls" "[I" : Cond) ∈ wsL_law := tb_in (tbt1 (List.mem_of_getElem? (i := 57) rfl)) rfl
theorem tw1_59 : (.laysFinal RX4 "HookTrays$Plans" "effects" "[I" : Cond) ∈ wsL_law := tb_in (tbt1 (List.mem_of_getElem? (i := 59) rfl)) rfl
theorem tw1_61 : (.lays RX4 "HookTrays$Plans" "size" "I" : Cond) ∈ wsL_law := tb_in (tbt1 (List.mem_of_getElem? (i := 61) rfl)) rfl
theorem tw1_64 : (.classLink RX1 25 RX3 : Cond) ∈ wsL_law := tb_in (tbt1 (List.mem_of_getElem? (i := 64) rfl)) rfl
theorem tw1_65 : (.instantiable RX3 6 : Cond) ∈ wsL_law := tb_in (tbt1 (List.mem_of_getElem? (i := 65) rfl)) rfl
theorem tw1_67 : (.instanceMethod yX3_init : Cond) ∈ wsL_law := tb_in (tbt1 (List.mem_of_getElem? (i := 67) rfl)) rfl
theorem tw1_68 : (.code yX3_init cX3_init 1 none : Cond) ∈ wsL_law := tb_in (tbt1 (List.mem_of_getElem? (i := 68) rfl)) rfl
theorem tw1_69 : (.methodLink RX3 3 objectInit : Cond) ∈ wsL_law := tb_in (tbt1 (List.mem_of_getElem? (i := 69) rfl)) rfl
theorem tw1_70 : (.fieldLink RX3 9 "HookTrays$LatestAct" "failure" "I" : Cond) ∈ wsL_law := tb_in (tbt1 (List.mem_of_getElem? (i := 70) rfl)) rfl
theorem tw1_72 : (.fieldLink RX3 15 "HookTrays$LatestAct" "hook" "I" : Cond) ∈ wsL_law := tb_in (tbt1 (List.mem_of_getElem? (i := 72) rfl)) rfl
theorem tw1_74 : (.fieldLink RX3 18 "HookTrays$LatestAct" "call" "I" : Cond) ∈ wsL_law := tb_in (tbt1 (List.mem_of_getElem? (i := 74) rfl)) rfl
theorem tw1_76 : (.fieldLink RX3 21 "HookTrays$LatestAct" "handled" "I" : Cond) ∈ wsL_law := tb_in (tbt1 (List.mem_of_getElem? (i := 76) rfl)) rfl
theorem tw1_78 : (.fieldLink RX3 24 "HookTrays$LatestAct" "actsEver" "I" : Cond) ∈ wsL_law := tb_in (tbt1 (List.mem_of_getElem? (i := 78) rfl)) rfl
theorem tw1_80 : (.fieldLink RX3 27 "HookTrays$LatestAct" "actsThrownAt" "I" : Cond) ∈ wsL_law := tb_in (tbt1 (List.mem_of_getElem? (i := 80) rfl)) rfl
theorem tw1_82 : (.lays RX3 "HookTrays$LatestAct" "failure" "I" : Cond) ∈ wsL_law := tb_in (tbt1 (List.mem_of_getElem? (i := 82) rfl)) rfl
theorem tw1_84 : (.lays RX3 "HookTrays$LatestAct" "hook" "I" : Cond) ∈ wsL_law := tb_in (tbt1 (List.mem_of_getElem? (i := 84) rfl)) rfl
theorem tw1_86 : (.lays RX3 "HookTrays$LatestAct" "call" "I" : Cond) ∈ wsL_law := tb_in (tbt1 (List.mem_of_getElem? (i := 86) rfl)) rfl
theorem tw1_88 : (.lays RX3 "HookTrays$LatestAct" "handled" "I" : Cond) ∈ wsL_law := tb_in (tbt1 (List.mem_of_getElem? (i := 88) rfl)) rfl
theorem tw1_90 : (.lays RX3 "HookTrays$LatestAct" "actsEver" "I" : Cond) ∈ wsL_law := tb_in (tbt1 (List.mem_of_getElem? (i := 90) rfl)) rfl
theorem tw1_92 : (.lays RX3 "HookTrays$LatestAct" "actsThrownAt" "I" : Cond) ∈ wsL_law := tb_in (tbt1 (List.mem_of_getElem? (i := 92) rfl)) rfl
theorem tw1_95 : (.classLink RX1 32 RX2 : Cond) ∈ wsL_law := tb_in (tbt1 (List.mem_of_getElem? (i := 95) rfl)) rfl
theorem ta_Hook : (.arrayOver (.object "HookTrays$Hook") : Cond) ∈ lw_tbl := tbt1 (List.mem_of_getElem? (i := 96) rfl)
theorem tw1_97 : (.instantiable RX2 5 : Cond) ∈ wsL_law := tb_in (tbt1 (List.mem_of_getElem? (i := 97) rfl)) rfl
theorem tw1_99 : (.instanceMethod yX2_init : Cond) ∈ wsL_law := tb_in (tbt1 (List.mem_of_getElem? (i := 99) rfl)) rfl
theorem tw1_100 : (.code yX2_init cX2_init 1 none : Cond) ∈ wsL_law := tb_in (tbt1 (List.mem_of_getElem? (i := 100) rfl)) rfl
theorem tw1_101 : (.methodLink RX2 3 objectInit : Cond) ∈ wsL_law := tb_in (tbt1 (List.mem_of_getElem? (i := 101) rfl)) rfl
theorem tw1_102 : (.fieldLink RX2 9 "HookTrays$Hook" "kind" "I" : Cond) ∈ wsL_law := tb_in (tbt1 (List.mem_of_getElem? (i := 102) rfl)) rfl
theorem tw1_104 : (.fieldLink RX2 15 "HookTrays$Hook" "a" "I" : Cond) ∈ wsL_law := tb_in (tbt1 (List.mem_of_getElem? (i := 104) rfl)) rfl
theorem tw1_106 : (.fieldLink RX2 18 "HookTrays$Hook" "calls" "I" : Cond) ∈ wsL_law := tb_in (tbt1 (List.mem_of_getElem? (i := 106) rfl)) rfl
theorem tw1_108 : (.fieldLink RX2 21 "HookTrays$Hook" "latestCalls" "I" : Cond) ∈ wsL_law := tb_in (tbt1 (List.mem_of_getElem? (i := 108) rfl)) rfl
theorem tw1_110 : (.fieldLink RX2 24 "HookTrays$Hook" "misuses" "I" : Cond) ∈ wsL_law := tb_in (tbt1 (List.mem_of_getElem? (i := 110) rfl)) rfl
theorem tw1_112 : (.lays RX2 "HookTrays$Hook" "kind" "I" : Cond) ∈ wsL_law := tb_in (tbt1 (List.mem_of_getElem? (i := 112) rfl)) rfl
theorem tw1_114 : (.lays RX2 "HookTrays$Hook" "a" "I" : Cond) ∈ wsL_law := tb_in (tbt1 (List.mem_of_getElem? (i := 114) rfl)) rfl
theorem tw1_116 : (.lays RX2 "HookTrays$Hook" "calls" "I" : Cond) ∈ wsL_law := tb_in (tbt1 (List.mem_of_getElem? (i := 116) rfl)) rfl
theorem tw1_118 : (.lays RX2 "HookTrays$Hook" "latestCalls" "I" : Cond) ∈ wsL_law := tb_in (tbt1 (List.mem_of_getElem? (i := 118) rfl)) rfl
theorem tw1_120 : (.lays RX2 "HookTrays$Hook" "misuses" "I" : Cond) ∈ wsL_law := tb_in (tbt1 (List.mem_of_getElem? (i := 120) rfl)) rfl
theorem tw1_123 : (.fieldLink RX1 12 "HookTrays$Desk" "deck" "LHookTrays$Deck;" : Cond) ∈ wsL_law := tb_in (tbt1 (List.mem_of_getElem? (i := 123) rfl)) rfl
theorem tw1_125 : (.fieldLink RX1 21 "HookTrays$Desk" "plans" "LHookTrays$Plans;" : Cond) ∈ wsL_law := tb_in (tbt1 (List.mem_of_getElem? (i := 125) rfl)) rfl
theorem tw1_127 : (.fieldLink RX1 28 "HookTrays$Desk" "latest" "LHookTrays$LatestAct;" : Cond) ∈ wsL_law := tb_in (tbt1 (List.mem_of_getElem? (i := 127) rfl)) rfl
theorem tw1_129 : (.fieldLink RX1 34 "HookTrays$Desk" "hooks" "[LHookTrays$Hook;" : Cond) ∈ wsL_law := tb_in (tbt1 (List.mem_of_getElem? (i := 129) rfl)) rfl
theorem tw1_130 : (.fieldLink RX1 38 "HookTrays$Desk" "hookCount" "I" : Cond) ∈ wsL_law := tb_in (tbt1 (List.mem_of_getElem? (i := 130) rfl)) rfl
theorem tw1_132 : (.laysFinal RX1 "HookTrays$Desk" "deck" "LHookTrays$Deck;" : Cond) ∈ wsL_law := tb_in (tbt1 (List.mem_of_getElem? (i := 132) rfl)) rfl
theorem tw1_134 : (.laysFinal RX1 "HookTrays$Desk" "plans" "LHookTrays$Plans;" : Cond) ∈ wsL_law := tb_in (tbt1 (List.mem_of_getElem? (i := 134) rfl)) rfl
theorem tw1_136 : (.laysFinal RX1 "HookTrays$Desk" "latest" "LHookTrays$LatestAct;" : Cond) ∈ wsL_law := tb_in (tbt1 (List.mem_of_getElem? (i := 136) rfl)) rfl
theorem tw1_138 : (.laysFinal RX1 "HookTrays$Desk" "hooks" "[LHookTrays$Hook;" : Cond) ∈ wsL_law := tb_in (tbt1 (List.mem_of_getElem? (i := 138) rfl)) rfl
theorem tw1_140 : (.lays RX1 "HookTrays$Desk" "hookCount" "I" : Cond) ∈ wsL_law := tb_in (tbt1 (List.mem_of_getElem? (i := 140) rfl)) rfl
theorem tw1_143 : (.classLink RX7 20 RX6 : Cond) ∈ wsL_law := tb_in (tbt1 (List.mem_of_getElem? (i := 143) rfl)) rfl
theorem ta_Tray : (.arrayOver (.object "HookTrays$Tray") : Cond) ∈ lw_tbl := tbt1 (List.mem_of_getElem? (i := 144) rfl)
theorem tw1_145 : (.instantiable RX6 3 : Cond) ∈ wsL_law := tb_in (tbt1 (List.mem_of_getElem? (i := 145) rfl)) rfl
theorem tw1_147 : (.instanceMethod yX6_init : Cond) ∈ wsL_law := tb_in (tbt1 (List.mem_of_getElem? (i := 147) rfl)) rfl
theorem tw1_148 : (.code yX6_init cX6_init 1 none : Cond) ∈ wsL_law := tb_in (tbt1 (List.mem_of_getElem? (i := 148) rfl)) rfl
theorem tw1_149 : (.methodLink RX6 3 objectInit : Cond) ∈ wsL_law := tb_in (tbt1 (List.mem_of_getElem? (i := 149) rfl)) rfl
theorem tw1_150 : (.classLink RX6 9 RX5 : Cond) ∈ wsL_law := tb_in (tbt1 (List.mem_of_getElem? (i := 150) rfl)) rfl
theorem tw1_151 : (.instantiable RX5 2 : Cond) ∈ wsL_law := tb_in (tbt1 (List.mem_of_getElem? (i := 151) rfl)) rfl
theorem tw1_153 : (.instanceMethod yX5_init : Cond) ∈ wsL_law := tb_in (tbt1 (List.mem_of_getElem? (i := 153) rfl)) rfl
theorem tw1_154 : (.code yX5_init cX5_init 1 none : Cond) ∈ wsL_law := tb_in (tbt1 (List.mem_of_getElem? (i := 154) rfl)) rfl
theorem tw1_155 : (.methodLink RX5 3 objectInit : Cond) ∈ wsL_law := tb_in (tbt1 (List.mem_of_getElem? (i := 155) rfl)) rfl
theorem tw1_156 : (.fieldLink RX5 9 "HookTrays$Row" "cards" "[I" : Cond) ∈ wsL_law := tb_in (tbt1 (List.mem_of_getElem? (i := 156) rfl)) rfl
theorem tw1_157 : (.fieldLink RX5 15 "HookTrays$Row" "size" "I" : Cond) ∈ wsL_law := tb_in (tbt1 (List.mem_of_getElem? (i := 157) rfl)) rfl
theorem tw1_159 : (.laysFinal RX5 "HookTrays$Row" "cards" "[I" : Cond) ∈ wsL_law := tb_in (tbt1 (List.mem_of_getElem? (i := 159) rfl)) rfl
theorem tw1_161 : (.lays RX5 "HookTrays$Row" "size" "I" : Cond) ∈ wsL_law := tb_in (tbt1 (List.mem_of_getElem? (i := 161) rfl)) rfl
theorem tw1_164 : (.fieldLink RX6 12 "HookTrays$Tray" "row" "LHookTrays$Row;" : Cond) ∈ wsL_law := tb_in (tbt1 (List.mem_of_getElem? (i := 164) rfl)) rfl
theorem tw1_166 : (.fieldLink RX6 18 "HookTrays$Tray" "kind" "I" : Cond) ∈ wsL_law := tb_in (tbt1 (List.mem_of_getElem? (i := 166) rfl)) rfl
theorem tw1_168 : (.fieldLink RX6 22 "HookTrays$Tray" "hook" "I" : Cond) ∈ wsL_law := tb_in (tbt1 (List.mem_of_getElem? (i := 168) rfl)) rfl
theorem tw1_170 : (.laysFinal RX6 "HookTrays$Tray" "row" "LHookTrays$Row;" : Cond) ∈ wsL_law := tb_in (tbt1 (List.mem_of_getElem? (i := 170) rfl)) rfl
theorem tw1_172 : (.lays RX6 "HookTrays$Tray" "kind" "I" : Cond) ∈ wsL_law := tb_in (tbt1 (List.mem_of_getElem? (i := 172) rfl)) rfl
theorem tw1_174 : (.lays RX6 "HookTrays$Tray" "hook" "I" : Cond) ∈ wsL_law := tb_in (tbt1 (List.mem_of_getElem? (i := 174) rfl)) rfl
theorem tw1_177 : (.classLink RX7 27 RX5 : Cond) ∈ wsL_law := tb_in (tbt1 (List.mem_of_getElem? (i := 177) rfl)) rfl
theorem tw1_179 : (.fieldLink RX7 16 "HookTrays" "desk" "LHookTrays$Desk;" : Cond) ∈ wsL_law := tb_in (tbt1 (List.mem_of_getElem? (i := 179) rfl)) rfl
theorem tw1_180 : (.fieldLink RX7 22 "HookTrays" "trays" "[LHookTrays$Tray;" : Cond) ∈ wsL_law := tb_in (tbt1 (List.mem_of_getElem? (i := 180) rfl)) rfl
theorem tw1_181 : (.fieldLink RX7 7 "HookTrays" "trayCount" "I" : Cond) ∈ wsL_law := tb_in (tbt1 (List.mem_of_getElem? (i := 181) rfl)) rfl
theorem tw1_182 : (.fieldLink RX7 30 "HookTrays" "draft" "LHookTrays$Row;" : Cond) ∈ wsL_law := tb_in (tbt1 (List.mem_of_getElem? (i := 182) rfl)) rfl
theorem tw1_183 : (.fieldLink RX7 34 "HookTrays" "spare" "LHookTrays$Row;" : Cond) ∈ wsL_law := tb_in (tbt1 (List.mem_of_getElem? (i := 183) rfl)) rfl
theorem tw1_184 : (.laysFinal RX7 "HookTrays" "desk" "LHookTrays$Desk;" : Cond) ∈ wsL_law := tb_in (tbt1 (List.mem_of_getElem? (i := 184) rfl)) rfl
theorem tw1_186 : (.laysFinal RX7 "HookTrays" "trays" "[LHookTrays$Tray;" : Cond) ∈ wsL_law := tb_in (tbt1 (List.mem_of_getElem? (i := 186) rfl)) rfl
theorem tw1_188 : (.lays RX7 "HookTrays" "trayCount" "I" : Cond) ∈ wsL_law := tb_in (tbt1 (List.mem_of_getElem? (i := 188) rfl)) rfl
theorem tw1_190 : (.laysFinal RX7 "HookTrays" "draft" "LHookTrays$Row;" : Cond) ∈ wsL_law := tb_in (tbt1 (List.mem_of_getElem? (i := 190) rfl)) rfl
theorem tw1_192 : (.laysFinal RX7 "HookTrays" "spare" "LHookTrays$Row;" : Cond) ∈ wsL_law := tb_in (tbt1 (List.mem_of_getElem? (i := 192) rfl)) rfl
theorem tw1_195 : (.methodLink RL 13 yX7_card : Cond) ∈ wsL_law := tb_in (tbt1 (List.mem_of_getElem? (i := 195) rfl)) rfl
theorem tw1_196 : (.instanceMethod yX7_card : Cond) ∈ wsL_law := tb_in (tbt1 (List.mem_of_getElem? (i := 196) rfl)) rfl
theorem tw1_197 : (.selects RX7 yX7_card yX7_card : Cond) ∈ wsL_law := tb_in (tbt1 (List.mem_of_getElem? (i := 197) rfl)) rfl
theorem tw1_198 : (.code yX7_card cX7_card 3 (some .int) : Cond) ∈ wsL_law := tb_in (tbt1 (List.mem_of_getElem? (i := 198) rfl)) rfl
theorem tw1_199 : (.methodLink RX7 37 yX7_isWithin : Cond) ∈ wsL_law := tb_in (tbt1 (List.mem_of_getElem? (i := 199) rfl)) rfl
theorem tw1_200 : (.static yX7_isWithin : Cond) ∈ wsL_law := tb_in (tbt1 (List.mem_of_getElem? (i := 200) rfl)) rfl
theorem tw1_201 : (.code yX7_isWithin cX7_isWithin 3 (some .boolean) : Cond) ∈ wsL_law := tb_in (tbt1 (List.mem_of_getElem? (i := 201) rfl)) rfl
theorem tw1_202 : (.methodLink RX7 45 yX0_add : Cond) ∈ wsL_law := tb_in (tbt1 (List.mem_of_getElem? (i := 202) rfl)) rfl
theorem tw1_203 : (.instanceMethod yX0_add : Cond) ∈ wsL_law := tb_in (tbt1 (List.mem_of_getElem? (i := 203) rfl)) rfl
theorem tw1_204 : (.selects RX0 yX0_add yX0_add : Cond) ∈ wsL_law := tb_in (tbt1 (List.mem_of_getElem? (i := 204) rfl)) rfl
theorem tw1_205 : (.code yX0_add cX0_add 3 (some .int) : Cond) ∈ wsL_law := tb_in (tbt1 (List.mem_of_getElem? (i := 205) rfl)) rfl
theorem tw1_206 : (.methodLink RL 18 yX7_told : Cond) ∈ wsL_law := tb_in (tbt1 (List.mem_of_getElem? (i := 206) rfl)) rfl
theorem tw1_207 : (.instanceMethod yX7_told : Cond) ∈ wsL_law := tb_in (tbt1 (List.mem_of_getElem? (i := 207) rfl)) rfl
theorem tw1_208 : (.selects RX7 yX7_told yX7_told : Cond) ∈ wsL_law := tb_in (tbt1 (List.mem_of_getElem? (i := 208) rfl)) rfl
theorem tw1_209 : (.code yX7_told cX7_told 3 (some .long) : Cond) ∈ wsL_law := tb_in (tbt1 (List.mem_of_getElem? (i := 209) rfl)) rfl
theorem tw1_210 : (.methodLink RX7 51 yX0_has : Cond) ∈ wsL_law := tb_in (tbt1 (List.mem_of_getElem? (i := 210) rfl)) rfl
theorem tw1_211 : (.instanceMethod yX0_has : Cond) ∈ wsL_law := tb_in (tbt1 (List.mem_of_getElem? (i := 211) rfl)) rfl
theorem tw1_212 : (.selects RX0 yX0_has yX0_has : Cond) ∈ wsL_law := tb_in (tbt1 (List.mem_of_getElem? (i := 212) rfl)) rfl
theorem tw1_213 : (.code yX0_has cX0_has 2 (some .boolean) : Cond) ∈ wsL_law := tb_in (tbt1 (List.mem_of_getElem? (i := 213) rfl)) rfl
theorem tw1_214 : (.constantLong RX7 55 (-10000000000) : Cond) ∈ wsL_law := tb_in (tbt1 (List.mem_of_getElem? (i := 214) rfl)) rfl
theorem tw1_215 : (.methodLink RX7 57 yX0_weightOf : Cond) ∈ wsL_law := tb_in (tbt1 (List.mem_of_getElem? (i := 215) rfl)) rfl
theorem tw1_216 : (.instanceMethod yX0_weightOf : Cond) ∈ wsL_law := tb_in (tbt1 (List.mem_of_getElem? (i := 216) rfl)) rfl
theorem tw1_217 : (.selects RX0 yX0_weightOf yX0_weightOf : Cond) ∈ wsL_law := tb_in (tbt1 (List.mem_of_getElem? (i := 217) rfl)) rfl
theorem tw1_218 : (.code yX0_weightOf cX0_weightOf 2 (some .int) : Cond) ∈ wsL_law := tb_in (tbt1 (List.mem_of_getElem? (i := 218) rfl)) rfl
theorem tw1_219 : (.methodLink RX7 61 yX0_markOf : Cond) ∈ wsL_law := tb_in (tbt1 (List.mem_of_getElem? (i := 219) rfl)) rfl
theorem tw1_220 : (.instanceMethod yX0_markOf : Cond) ∈ wsL_law := tb_in (tbt1 (List.mem_of_getElem? (i := 220) rfl)) rfl
theorem tw1_221 : (.selects RX0 yX0_markOf yX0_markOf : Cond) ∈ wsL_law := tb_in (tbt1 (List.mem_of_getElem? (i := 221) rfl)) rfl
theorem tw1_222 : (.code yX0_markOf cX0_markOf 2 (some .int) : Cond) ∈ wsL_law := tb_in (tbt1 (List.mem_of_getElem? (i := 222) rfl)) rfl
theorem tw1_223 : (.methodLink RL 23 yX7_hook : Cond) ∈ wsL_law := tb_in (tbt1 (List.mem_of_getElem? (i := 223) rfl)) rfl
theorem tw1_224 : (.instanceMethod yX7_hook : Cond) ∈ wsL_law := tb_in (tbt1 (List.mem_of_getElem? (i := 224) rfl)) rfl
theorem tw1_225 : (.selects RX7 yX7_hook yX7_hook : Cond) ∈ wsL_law := tb_in (tbt1 (List.mem_of_getElem? (i := 225) rfl)) rfl
theorem tw1_226 : (.code yX7_hook cX7_hook 3 (some .int) : Cond) ∈ wsL_law := tb_in (tbt1 (List.mem_of_getElem? (i := 226) rfl)) rfl
theorem tw1_227 : (.methodLink RX7 64 yX1_addHook : Cond) ∈ wsL_law := tb_in (tbt1 (List.mem_of_getElem? (i := 227) rfl)) rfl
theorem tw1_228 : (.instanceMethod yX1_addHook : Cond) ∈ wsL_law := tb_in (tbt1 (List.mem_of_getElem? (i := 228) rfl)) rfl
theorem tw1_229 : (.selects RX1 yX1_addHook yX1_addHook : Cond) ∈ wsL_law := tb_in (tbt1 (List.mem_of_getElem? (i := 229) rfl)) rfl
theorem tw1_230 : (.code yX1_addHook cX1_addHook 3 (some .int) : Cond) ∈ wsL_law := tb_in (tbt1 (List.mem_of_getElem? (i := 230) rfl)) rfl
theorem tw1_231 : (.methodLink RX1 43 yX2_become : Cond) ∈ wsL_law := tb_in (tbt1 (List.mem_of_getElem? (i := 231) rfl)) rfl
theorem tw1_232 : (.instanceMethod yX2_become : Cond) ∈ wsL_law := tb_in (tbt1 (List.mem_of_getElem? (i := 232) rfl)) rfl
theorem tw1_233 : (.selects RX2 yX2_become yX2_become : Cond) ∈ wsL_law := tb_in (tbt1 (List.mem_of_getElem? (i := 233) rfl)) rfl
theorem tw1_234 : (.code yX2_become cX2_become 3 none : Cond) ∈ wsL_law := tb_in (tbt1 (List.mem_of_getElem? (i := 234) rfl)) rfl
theorem tw1_235 : (.methodLink RL 27 yX7_plan : Cond) ∈ wsL_law := tb_in (tbt1 (List.mem_of_getElem? (i := 235) rfl)) rfl
theorem tw1_236 : (.instanceMethod yX7_plan : Cond) ∈ wsL_law := tb_in (tbt1 (List.mem_of_getElem? (i := 236) rfl)) rfl
theorem tw1_237 : (.selects RX7 yX7_plan yX7_plan : Cond) ∈ wsL_law := tb_in (tbt1 (List.mem_of_getElem? (i := 237) rfl)) rfl
theorem tw1_238 : (.code yX7_plan cX7_plan 5 (some .int) : Cond) ∈ wsL_law := tb_in (tbt1 (List.mem_of_getElem? (i := 238) rfl)) rfl
theorem tw1_239 : (.methodLink RX7 67 yX1_hasHook : Cond) ∈ wsL_law := tb_in (tbt1 (List.mem_of_getElem? (i := 239) rfl)) rfl
theorem tw2_0 : (.instanceMethod yX1_hasHook : Cond) ∈ wsL_law := tb_in (tbt2 (List.mem_of_getElem? (i := 0) rfl)) rfl
theorem tw2_1 : (.selects RX1 yX1_hasHook yX1_hasHook : Cond) ∈ wsL_law := tb_in (tbt2 (List.mem_of_getElem? (i := 1) rfl)) rfl
theorem tw2_2 : (.code yX1_hasHook cX1_hasHook 2 (some .boolean) : Cond) ∈ wsL_law := tb_in (tbt2 (List.mem_of_getElem? (i := 2) rfl)) rfl
theorem tw2_3 : (.methodLink RX7 74 yX1_callsOf : Cond) ∈ wsL_law := tb_in (tbt2 (List.mem_of_getElem? (i := 3) rfl)) rfl
theorem tw2_4 : (.instanceMethod yX1_callsOf : Cond) ∈ wsL_law := tb_in (tbt2 (List.mem_of_getElem? (i := 4) rfl)) rfl
theorem tw2_5 : (.selects RX1 yX1_callsOf yX1_callsOf : Cond) ∈ wsL_law := tb_in (tbt2 (List.mem_of_getElem? (i := 5) rfl)) rfl
theorem tw2_6 : (.code yX1_callsOf cX1_callsOf 2 (some .int) : Cond) ∈ wsL_law := tb_in (tbt2 (List.mem_of_getElem? (i := 6) rfl)) rfl
theorem tw2_7 : (.methodLink RX1 47 yX1_hasHook : Cond) ∈ wsL_law := tb_in (tbt2 (List.mem_of_getElem? (i := 7) rfl)) rfl
theorem tw2_8 : (.methodLink RX7 77 yX7_plannedEffect : Cond) ∈ wsL_law := tb_in (tbt2 (List.mem_of_getElem? (i := 8) rfl)) rfl
theorem tw2_9 : (.static yX7_plannedEffect : Cond) ∈ wsL_law := tb_in (tbt2 (List.mem_of_getElem? (i := 9) rfl)) rfl
theorem tw2_10 : (.code yX7_plannedEffect cX7_plannedEffect 2 (some .int) : Cond) ∈ wsL_law := tb_in (tbt2 (List.mem_of_getElem? (i := 10) rfl)) rfl
theorem tw2_11 : (.methodLink RX7 80 yX4_stand : Cond) ∈ wsL_law := tb_in (tbt2 (List.mem_of_getElem? (i := 11) rfl)) rfl
theorem tw2_12 : (.instanceMethod yX4_stand : Cond) ∈ wsL_law := tb_in (tbt2 (List.mem_of_getElem? (i := 12) rfl)) rfl
theorem tw2_13 : (.selects RX4 yX4_stand yX4_stand : Cond) ∈ wsL_law := tb_in (tbt2 (List.mem_of_getElem? (i := 13) rfl)) rfl
theorem tw2_14 : (.code yX4_stand cX4_stand 5 (some .int) : Cond) ∈ wsL_law := tb_in (tbt2 (List.mem_of_getElem? (i := 14) rfl)) rfl
theorem tw2_15 : (.methodLink RX4 25 yX4_indexOf : Cond) ∈ wsL_law := tb_in (tbt2 (List.mem_of_getElem? (i := 15) rfl)) rfl
theorem tw2_16 : (.instanceMethod yX4_indexOf : Cond) ∈ wsL_law := tb_in (tbt2 (List.mem_of_getElem? (i := 16) rfl)) rfl
theorem tw2_17 : (.selects RX4 yX4_indexOf yX4_indexOf : Cond) ∈ wsL_law := tb_in (tbt2 (List.mem_of_getElem? (i := 17) rfl)) rfl
theorem tw2_18 : (.code yX4_indexOf cX4_indexOf 4 (some .int) : Cond) ∈ wsL_law := tb_in (tbt2 (List.mem_of_getElem? (i := 18) rfl)) rfl
theorem tw2_19 : (.methodLink RL 32 yX7_clearPlans : Cond) ∈ wsL_law := tb_in (tbt2 (List.mem_of_getElem? (i := 19) rfl)) rfl
theorem tw2_20 : (.instanceMethod yX7_clearPlans : Cond) ∈ wsL_law := tb_in (tbt2 (List.mem_of_getElem? (i := 20) rfl)) rfl
theorem tw2_21 : (.selects RX7 yX7_clearPlans yX7_clearPlans : Cond) ∈ wsL_law := tb_in (tbt2 (List.mem_of_getElem? (i := 21) rfl)) rfl
theorem tw2_22 : (.code yX7_clearPlans cX7_clearPlans 1 (some .int) : Cond) ∈ wsL_law := tb_in (tbt2 (List.mem_of_getElem? (i := 22) rfl)) rfl
theorem tw2_23 : (.methodLink RX7 86 yX4_clear : Cond) ∈ wsL_law := tb_in (tbt2 (List.mem_of_getElem? (i := 23) rfl)) rfl
theorem tw2_24 : (.instanceMethod yX4_clear : Cond) ∈ wsL_law := tb_in (tbt2 (List.mem_of_getElem? (i := 24) rfl)) rfl
theorem tw2_25 : (.selects RX4 yX4_clear yX4_clear : Cond) ∈ wsL_law := tb_in (tbt2 (List.mem_of_getElem? (i := 25) rfl)) rfl
theorem tw2_26 : (.code yX4_clear cX4_clear 2 (some .int) : Cond) ∈ wsL_law := tb_in (tbt2 (List.mem_of_getElem? (i := 26) rfl)) rfl
theorem tw2_27 : (.methodLink RL 37 yX7_about : Cond) ∈ wsL_law := tb_in (tbt2 (List.mem_of_getElem? (i := 27) rfl)) rfl
theorem tw2_28 : (.instanceMethod yX7_about : Cond) ∈ wsL_law := tb_in (tbt2 (List.mem_of_getElem? (i := 28) rfl)) rfl
theorem tw2_29 : (.selects RX7 yX7_about yX7_about : Cond) ∈ wsL_law := tb_in (tbt2 (List.mem_of_getElem? (i := 29) rfl)) rfl
theorem tw2_30 : (.code yX7_about cX7_about 3 (some .int) : Cond) ∈ wsL_law := tb_in (tbt2 (List.mem_of_getElem? (i := 30) rfl)) rfl
theorem tw2_31 : (.methodLink RX7 90 yX1_kindOf : Cond) ∈ wsL_law := tb_in (tbt2 (List.mem_of_getElem? (i := 31) rfl)) rfl
theorem tw2_32 : (.instanceMethod yX1_kindOf : Cond) ∈ wsL_law := tb_in (tbt2 (List.mem_of_getElem? (i := 32) rfl)) rfl
theorem tw2_33 : (.selects RX1 yX1_kindOf yX1_kindOf : Cond) ∈ wsL_law := tb_in (tbt2 (List.mem_of_getElem? (i := 33) rfl)) rfl
theorem tw2_34 : (.code yX1_kindOf cX1_kindOf 2 (some .int) : Cond) ∈ wsL_law := tb_in (tbt2 (List.mem_of_getElem? (i := 34) rfl)) rfl
theorem tw2_35 : (.methodLink RX7 93 yX1_latestCallsOf : Cond) ∈ wsL_law := tb_in (tbt2 (List.mem_of_getElem? (i := 35) rfl)) rfl
theorem tw2_36 : (.instanceMethod yX1_latestCallsOf : Cond) ∈ wsL_law := tb_in (tbt2 (List.mem_of_getElem? (i := 36) rfl)) rfl
theorem tw2_37 : (.selects RX1 yX1_latestCallsOf yX1_latestCallsOf : Cond) ∈ wsL_law := tb_in (tbt2 (List.mem_of_getElem? (i := 37) rfl)) rfl
theorem tw2_38 : (.code yX1_latestCallsOf cX1_latestCallsOf 2 (some .int) : Cond) ∈ wsL_law := tb_in (tbt2 (List.mem_of_getElem? (i := 38) rfl)) rfl
theorem tw2_39 : (.methodLink RX7 96 yX1_misusesOf : Cond) ∈ wsL_law := tb_in (tbt2 (List.mem_of_getElem? (i := 39) rfl)) rfl
theorem tw2_40 : (.instanceMethod yX1_misusesOf : Cond) ∈ wsL_law := tb_in (tbt2 (List.mem_of_getElem? (i := 40) rfl)) rfl
theorem tw2_41 : (.selects RX1 yX1_misusesOf yX1_misusesOf : Cond) ∈ wsL_law := tb_in (tbt2 (List.mem_of_getElem? (i := 41) rfl)) rfl
theorem tw2_42 : (.code yX1_misusesOf cX1_misusesOf 2 (some .int) : Cond) ∈ wsL_law := tb_in (tbt2 (List.mem_of_getElem? (i := 42) rfl)) rfl
theorem tw2_43 : (.methodLink RX7 99 yX4_standingFor : Cond) ∈ wsL_law := tb_in (tbt2 (List.mem_of_getElem? (i := 43) rfl)) rfl
theorem tw2_44 : (.instanceMethod yX4_standingFor : Cond) ∈ wsL_law := tb_in (tbt2 (List.mem_of_getElem? (i := 44) rfl)) rfl
theorem tw2_45 : (.selects RX4 yX4_standingFor yX4_standingFor : Cond) ∈ wsL_law := tb_in (tbt2 (List.mem_of_getElem? (i := 45) rfl)) rfl
theorem tw2_46 : (.code yX4_standingFor cX4_standingFor 4 (some .int) : Cond) ∈ wsL_law := tb_in (tbt2 (List.mem_of_getElem? (i := 46) rfl)) rfl
theorem tw2_47 : (.methodLink RL 41 yX7_tray : Cond) ∈ wsL_law := tb_in (tbt2 (List.mem_of_getElem? (i := 47) rfl)) rfl
theorem tw2_48 : (.instanceMethod yX7_tray : Cond) ∈ wsL_law := tb_in (tbt2 (List.mem_of_getElem? (i := 48) rfl)) rfl
theorem tw2_49 : (.selects RX7 yX7_tray yX7_tray : Cond) ∈ wsL_law := tb_in (tbt2 (List.mem_of_getElem? (i := 49) rfl)) rfl
theorem tw2_50 : (.code yX7_tray cX7_tray 3 (some .int) : Cond) ∈ wsL_law := tb_in (tbt2 (List.mem_of_getElem? (i := 50) rfl)) rfl
theorem tw2_51 : (.methodLink RX7 102 yX1_compares : Cond) ∈ wsL_law := tb_in (tbt2 (List.mem_of_getElem? (i := 51) rfl)) rfl
theorem tw2_52 : (.instanceMethod yX1_compares : Cond) ∈ wsL_law := tb_in (tbt2 (List.mem_of_getElem? (i := 52) rfl)) rfl
theorem tw2_53 : (.selects RX1 yX1_compares yX1_compares : Cond) ∈ wsL_law := tb_in (tbt2 (List.mem_of_getElem? (i := 53) rfl)) rfl
theorem tw2_54 : (.code yX1_compares cX1_compares 3 (some .boolean) : Cond) ∈ wsL_law := tb_in (tbt2 (List.mem_of_getElem? (i := 54) rfl)) rfl
theorem tw2_55 : (.methodLink RX1 54 yX1_kindOf : Cond) ∈ wsL_law := tb_in (tbt2 (List.mem_of_getElem? (i := 55) rfl)) rfl
theorem tw2_56 : (.methodLink RX7 105 yX6_become : Cond) ∈ wsL_law := tb_in (tbt2 (List.mem_of_getElem? (i := 56) rfl)) rfl
theorem tw2_57 : (.instanceMethod yX6_become : Cond) ∈ wsL_law := tb_in (tbt2 (List.mem_of_getElem? (i := 57) rfl)) rfl
theorem tw2_58 : (.selects RX6 yX6_become yX6_become : Cond) ∈ wsL_law := tb_in (tbt2 (List.mem_of_getElem? (i := 58) rfl)) rfl
theorem tw2_59 : (.code yX6_become cX6_become 3 none : Cond) ∈ wsL_law := tb_in (tbt2 (List.mem_of_getElem? (i := 59) rfl)) rfl
theorem tw2_60 : (.methodLink RL 45 yX7_put : Cond) ∈ wsL_law := tb_in (tbt2 (List.mem_of_getElem? (i := 60) rfl)) rfl
theorem tw2_61 : (.instanceMethod yX7_put : Cond) ∈ wsL_law := tb_in (tbt2 (List.mem_of_getElem? (i := 61) rfl)) rfl
theorem tw2_62 : (.selects RX7 yX7_put yX7_put : Cond) ∈ wsL_law := tb_in (tbt2 (List.mem_of_getElem? (i := 62) rfl)) rfl
theorem tw2_63 : (.code yX7_put cX7_put 4 (some .int) : Cond) ∈ wsL_law := tb_in (tbt2 (List.mem_of_getElem? (i := 63) rfl)) rfl
theorem tw2_64 : (.methodLink RX7 109 yX7_hasTray : Cond) ∈ wsL_law := tb_in (tbt2 (List.mem_of_getElem? (i := 64) rfl)) rfl
theorem tw2_66 : (.instanceMethod yX7_hasTray : Cond) ∈ wsL_law := tb_in (tbt2 (List.mem_of_getElem? (i := 66) rfl)) rfl
theorem tw2_67 : (.code yX7_hasTray cX7_hasTray 2 (some .boolean) : Cond) ∈ wsL_law := tb_in (tbt2 (List.mem_of_getElem? (i := 67) rfl)) rfl
theorem tw2_68 : (.methodLink RX7 118 yX1_beginAct : Cond) ∈ wsL_law := tb_in (tbt2 (List.mem_of_getElem? (i := 68) rfl)) rfl
theorem tw2_69 : (.instanceMethod yX1_beginAct : Cond) ∈ wsL_law := tb_in (tbt2 (List.mem_of_getElem? (i := 69) rfl)) rfl
theorem tw2_70 : (.selects RX1 yX1_beginAct yX1_beginAct : Cond) ∈ wsL_law := tb_in (tbt2 (List.mem_of_getElem? (i := 70) rfl)) rfl
theorem tw2_71 : (.code yX1_beginAct cX1_beginAct 2 none : Cond) ∈ wsL_law := tb_in (tbt2 (List.mem_of_getElem? (i := 71) rfl)) rfl
theorem tw2_72 : (.methodLink RX1 67 yX3_begin : Cond) ∈ wsL_law := tb_in (tbt2 (List.mem_of_getElem? (i := 72) rfl)) rfl
theorem tw2_73 : (.instanceMethod yX3_begin : Cond) ∈ wsL_law := tb_in (tbt2 (List.mem_of_getElem? (i := 73) rfl)) rfl
theorem tw2_74 : (.selects RX3 yX3_begin yX3_begin : Cond) ∈ wsL_law := tb_in (tbt2 (List.mem_of_getElem? (i := 74) rfl)) rfl
theorem tw2_75 : (.code yX3_begin cX3_begin 1 none : Cond) ∈ wsL_law := tb_in (tbt2 (List.mem_of_getElem? (i := 75) rfl)) rfl
theorem tw2_76 : (.methodLink RX7 121 yX5_copy : Cond) ∈ wsL_law := tb_in (tbt2 (List.mem_of_getElem? (i := 76) rfl)) rfl
theorem tw2_77 : (.instanceMethod yX5_copy : Cond) ∈ wsL_law := tb_in (tbt2 (List.mem_of_getElem? (i := 77) rfl)) rfl
theorem tw2_78 : (.selects RX5 yX5_copy yX5_copy : Cond) ∈ wsL_law := tb_in (tbt2 (List.mem_of_getElem? (i := 78) rfl)) rfl
theorem tw2_79 : (.code yX5_copy cX5_copy 2 none : Cond) ∈ wsL_law := tb_in (tbt2 (List.mem_of_getElem? (i := 79) rfl)) rfl
theorem tw2_80 : (.methodLink RX5 23 yX5_clear : Cond) ∈ wsL_law := tb_in (tbt2 (List.mem_of_getElem? (i := 80) rfl)) rfl
theorem tw2_81 : (.instanceMethod yX5_clear : Cond) ∈ wsL_law := tb_in (tbt2 (List.mem_of_getElem? (i := 81) rfl)) rfl
theorem tw2_82 : (.selects RX5 yX5_clear yX5_clear : Cond) ∈ wsL_law := tb_in (tbt2 (List.mem_of_getElem? (i := 82) rfl)) rfl
theorem tw2_83 : (.code yX5_clear cX5_clear 1 none : Cond) ∈ wsL_law := tb_in (tbt2 (List.mem_of_getElem? (i := 83) rfl)) rfl
theorem tw2_84 : (.methodLink RX5 26 yX5_appendPart : Cond) ∈ wsL_law := tb_in (tbt2 (List.mem_of_getElem? (i := 84) rfl)) rfl
theorem tw2_85 : (.instanceMethod yX5_appendPart : Cond) ∈ wsL_law := tb_in (tbt2 (List.mem_of_getElem? (i := 85) rfl)) rfl
theorem tw2_86 : (.selects RX5 yX5_appendPart yX5_appendPart : Cond) ∈ wsL_law := tb_in (tbt2 (List.mem_of_getElem? (i := 86) rfl)) rfl
theorem tw2_87 : (.code yX5_appendPart cX5_appendPart 5 none : Cond) ∈ wsL_law := tb_in (tbt2 (List.mem_of_getElem? (i := 87) rfl)) rfl
theorem tw2_88 : (.methodLink RX5 30 yX5_cardAt : Cond) ∈ wsL_law := tb_in (tbt2 (List.mem_of_getElem? (i := 88) rfl)) rfl
theorem tw2_89 : (.instanceMethod yX5_cardAt : Cond) ∈ wsL_law := tb_in (tbt2 (List.mem_of_getElem? (i := 89) rfl)) rfl
theorem tw2_90 : (.selects RX5 yX5_cardAt yX5_cardAt : Cond) ∈ wsL_law := tb_in (tbt2 (List.mem_of_getElem? (i := 90) rfl)) rfl
theorem tw2_91 : (.code yX5_cardAt cX5_cardAt 2 (some .int) : Cond) ∈ wsL_law := tb_in (tbt2 (List.mem_of_getElem? (i := 91) rfl)) rfl
theorem tw2_92 : (.methodLink RX5 19 yX5_hasPlace : Cond) ∈ wsL_law := tb_in (tbt2 (List.mem_of_getElem? (i := 92) rfl)) rfl
theorem tw2_93 : (.instanceMethod yX5_hasPlace : Cond) ∈ wsL_law := tb_in (tbt2 (List.mem_of_getElem? (i := 93) rfl)) rfl
theorem tw2_94 : (.selects RX5 yX5_hasPlace yX5_hasPlace : Cond) ∈ wsL_law := tb_in (tbt2 (List.mem_of_getElem? (i := 94) rfl)) rfl
theorem tw2_95 : (.code yX5_hasPlace cX5_hasPlace 2 (some .boolean) : Cond) ∈ wsL_law := tb_in (tbt2 (List.mem_of_getElem? (i := 95) rfl)) rfl
theorem tw2_96 : (.methodLink RX5 34 yX5_append : Cond) ∈ wsL_law := tb_in (tbt2 (List.mem_of_getElem? (i := 96) rfl)) rfl
theorem tw2_97 : (.instanceMethod yX5_append : Cond) ∈ wsL_law := tb_in (tbt2 (List.mem_of_getElem? (i := 97) rfl)) rfl
theorem tw2_98 : (.selects RX5 yX5_append yX5_append : Cond) ∈ wsL_law := tb_in (tbt2 (List.mem_of_getElem? (i := 98) rfl)) rfl
theorem tw2_99 : (.code yX5_append cX5_append 2 none : Cond) ∈ wsL_law := tb_in (tbt2 (List.mem_of_getElem? (i := 99) rfl)) rfl
theorem tw2_100 : (.methodLink RX7 125 yX7_placeOnDraft : Cond) ∈ wsL_law := tb_in (tbt2 (List.mem_of_getElem? (i := 100) rfl)) rfl
theorem tw2_102 : (.instanceMethod yX7_placeOnDraft : Cond) ∈ wsL_law := tb_in (tbt2 (List.mem_of_getElem? (i := 102) rfl)) rfl
theorem tw2_103 : (.code yX7_placeOnDraft cX7_placeOnDraft 4 (some .boolean) : Cond) ∈ wsL_law := tb_in (tbt2 (List.mem_of_getElem? (i := 103) rfl)) rfl
theorem tw2_104 : (.methodLink RX7 148 yX5_placeFor : Cond) ∈ wsL_law := tb_in (tbt2 (List.mem_of_getElem? (i := 104) rfl)) rfl
theorem tw2_105 : (.instanceMethod yX5_placeFor : Cond) ∈ wsL_law := tb_in (tbt2 (List.mem_of_getElem? (i := 105) rfl)) rfl
theorem tw2_106 : (.selects RX5 yX5_placeFor yX5_placeFor : Cond) ∈ wsL_law := tb_in (tbt2 (List.mem_of_getElem? (i := 106) rfl)) rfl
theorem tw2_107 : (.code yX5_placeFor cX5_placeFor 8 (some .int) : Cond) ∈ wsL_law := tb_in (tbt2 (List.mem_of_getElem? (i := 107) rfl)) rfl
theorem tw2_108 : (.methodLink RX5 45 yX1_askComparing : Cond) ∈ wsL_law := tb_in (tbt2 (List.mem_of_getElem? (i := 108) rfl)) rfl
theorem tw2_109 : (.instanceMethod yX1_askComparing : Cond) ∈ wsL_law := tb_in (tbt2 (List.mem_of_getElem? (i := 109) rfl)) rfl
theorem tw2_110 : (.selects RX1 yX1_askComparing yX1_askComparing : Cond) ∈ wsL_law := tb_in (tbt2 (List.mem_of_getElem? (i := 110) rfl)) rfl
theorem tw2_111 : (.code yX1_askComparing cX1_askComparing 6 (some .int) : Cond) ∈ wsL_law := tb_in (tbt2 (List.mem_of_getElem? (i := 111) rfl)) rfl
theorem tw2_112 : (.methodLink RX1 70 yX1_beginCall : Cond) ∈ wsL_law := tb_in (tbt2 (List.mem_of_getElem? (i := 112) rfl)) rfl
theorem tw2_114 : (.instanceMethod yX1_beginCall : Cond) ∈ wsL_law := tb_in (tbt2 (List.mem_of_getElem? (i := 114) rfl)) rfl
theorem tw2_115 : (.code yX1_beginCall cX1_beginCall 5 (some .int) : Cond) ∈ wsL_law := tb_in (tbt2 (List.mem_of_getElem? (i := 115) rfl)) rfl
theorem tw2_116 : (.methodLink RX1 98 yX4_indexOf : Cond) ∈ wsL_law := tb_in (tbt2 (List.mem_of_getElem? (i := 116) rfl)) rfl
theorem tw2_117 : (.methodLink RX1 101 yX4_effectOf : Cond) ∈ wsL_law := tb_in (tbt2 (List.mem_of_getElem? (i := 117) rfl)) rfl
theorem tw2_118 : (.instanceMethod yX4_effectOf : Cond) ∈ wsL_law := tb_in (tbt2 (List.mem_of_getElem? (i := 118) rfl)) rfl
theorem tw2_119 : (.selects RX4 yX4_effectOf yX4_effectOf : Cond) ∈ wsL_law := tb_in (tbt2 (List.mem_of_getElem? (i := 119) rfl)) rfl
theorem tw2_120 : (.code yX4_effectOf cX4_effectOf 2 (some .int) : Cond) ∈ wsL_law := tb_in (tbt2 (List.mem_of_getElem? (i := 120) rfl)) rfl
theorem tw2_121 : (.methodLink RX1 104 yX4_drop : Cond) ∈ wsL_law := tb_in (tbt2 (List.mem_of_getElem? (i := 121) rfl)) rfl
theorem tw2_122 : (.instanceMethod yX4_drop : Cond) ∈ wsL_law := tb_in (tbt2 (List.mem_of_getElem? (i := 122) rfl)) rfl
theorem tw2_123 : (.selects RX4 yX4_drop yX4_drop : Cond) ∈ wsL_law := tb_in (tbt2 (List.mem_of_getElem? (i := 123) rfl)) rfl
theorem tw2_124 : (.code yX4_drop cX4_drop 2 none : Cond) ∈ wsL_law := tb_in (tbt2 (List.mem_of_getElem? (i := 124) rfl)) rfl
theorem tw2_125 : (.methodLink RX1 108 yX3_fail : Cond) ∈ wsL_law := tb_in (tbt2 (List.mem_of_getElem? (i := 125) rfl)) rfl
theorem tw2_126 : (.instanceMethod yX3_fail : Cond) ∈ wsL_law := tb_in (tbt2 (List.mem_of_getElem? (i := 126) rfl)) rfl
theorem tw2_127 : (.selects RX3 yX3_fail yX3_fail : Cond) ∈ wsL_law := tb_in (tbt2 (List.mem_of_getElem? (i := 127) rfl)) rfl
theorem tw2_128 : (.code yX3_fail cX3_fail 4 none : Cond) ∈ wsL_law := tb_in (tbt2 (List.mem_of_getElem? (i := 128) rfl)) rfl
theorem tw2_129 : (.methodLink RX1 73 yX1_compareTruly : Cond) ∈ wsL_law := tb_in (tbt2 (List.mem_of_getElem? (i := 129) rfl)) rfl
theorem tw2_130 : (.instanceMethod yX1_compareTruly : Cond) ∈ wsL_law := tb_in (tbt2 (List.mem_of_getElem? (i := 130) rfl)) rfl
theorem tw2_131 : (.selects RX1 yX1_compareTruly yX1_compareTruly : Cond) ∈ wsL_law := tb_in (tbt2 (List.mem_of_getElem? (i := 131) rfl)) rfl
theorem tw2_132 : (.code yX1_compareTruly cX1_compareTruly 6 (some .int) : Cond) ∈ wsL_law := tb_in (tbt2 (List.mem_of_getElem? (i := 132) rfl)) rfl
theorem tw2_133 : (.methodLink RX1 77 yX0_weightOf : Cond) ∈ wsL_law := tb_in (tbt2 (List.mem_of_getElem? (i := 133) rfl)) rfl
theorem tw2_134 : (.methodLink RX1 90 yJ6_compare_7cf53 : Cond) ∈ wsL_law := tb_in (tbt2 (List.mem_of_getElem? (i := 134) rfl)) rfl
theorem tw2_135 : (.static yJ6_compare_7cf53 : Cond) ∈ wsL_law := tb_in (tbt2 (List.mem_of_getElem? (i := 135) rfl)) rfl
theorem tw2_136 : (.code yJ6_compare_7cf53 cJ6_compare_7cf53 2 (some .int) : Cond) ∈ wsL_law := tb_in (tbt2 (List.mem_of_getElem? (i := 136) rfl)) rfl
theorem tw2_137 : (.methodLink RX1 83 yX0_markOf : Cond) ∈ wsL_law := tb_in (tbt2 (List.mem_of_getElem? (i := 137) rfl)) rfl
theorem tw2_138 : (.methodLink RX7 206 yX5_insert : Cond) ∈ wsL_law := tb_in (tbt2 (List.mem_of_getElem? (i := 138) rfl)) rfl
theorem tw2_139 : (.instanceMethod yX5_insert : Cond) ∈ wsL_law := tb_in (tbt2 (List.mem_of_getElem? (i := 139) rfl)) rfl
theorem tw2_140 : (.selects RX5 yX5_insert yX5_insert : Cond) ∈ wsL_law := tb_in (tbt2 (List.mem_of_getElem? (i := 140) rfl)) rfl
theorem tw2_141 : (.code yX5_insert cX5_insert 4 none : Cond) ∈ wsL_law := tb_in (tbt2 (List.mem_of_getElem? (i := 141) rfl)) rfl
theorem tw2_142 : (.methodLink RX5 42 yX5_swap : Cond) ∈ wsL_law := tb_in (tbt2 (List.mem_of_getElem? (i := 142) rfl)) rfl
theorem tw2_143 : (.instanceMethod yX5_swap : Cond) ∈ wsL_law := tb_in (tbt2 (List.mem_of_getElem? (i := 143) rfl)) rfl
theorem tw2_144 : (.selects RX5 yX5_swap yX5_swap : Cond) ∈ wsL_law := tb_in (tbt2 (List.mem_of_getElem? (i := 144) rfl)) rfl
theorem tw2_145 : (.code yX5_swap cX5_swap 4 none : Cond) ∈ wsL_law := tb_in (tbt2 (List.mem_of_getElem? (i := 145) rfl)) rfl
theorem tw2_146 : (.methodLink RX5 38 yX5_replace : Cond) ∈ wsL_law := tb_in (tbt2 (List.mem_of_getElem? (i := 146) rfl)) rfl
theorem tw2_147 : (.instanceMethod yX5_replace : Cond) ∈ wsL_law := tb_in (tbt2 (List.mem_of_getElem? (i := 147) rfl)) rfl
theorem tw2_148 : (.selects RX5 yX5_replace yX5_replace : Cond) ∈ wsL_law := tb_in (tbt2 (List.mem_of_getElem? (i := 148) rfl)) rfl
theorem tw2_149 : (.code yX5_replace cX5_replace 3 none : Cond) ∈ wsL_law := tb_in (tbt2 (List.mem_of_getElem? (i := 149) rfl)) rfl
theorem tw2_150 : (.methodLink RX7 209 yX5_append : Cond) ∈ wsL_law := tb_in (tbt2 (List.mem_of_getElem? (i := 150) rfl)) rfl
theorem tw2_151 : (.methodLink RX7 213 yX5_rise : Cond) ∈ wsL_law := tb_in (tbt2 (List.mem_of_getElem? (i := 151) rfl)) rfl
theorem tw2_152 : (.instanceMethod yX5_rise : Cond) ∈ wsL_law := tb_in (tbt2 (List.mem_of_getElem? (i := 152) rfl)) rfl
theorem tw2_153 : (.selects RX5 yX5_rise yX5_rise : Cond) ∈ wsL_law := tb_in (tbt2 (List.mem_of_getElem? (i := 153) rfl)) rfl
theorem tw2_154 : (.code yX5_rise cX5_rise 7 (some .int) : Cond) ∈ wsL_law := tb_in (tbt2 (List.mem_of_getElem? (i := 154) rfl)) rfl
theorem tw2_155 : (.methodLink RX7 129 yX7_keepDraft : Cond) ∈ wsL_law := tb_in (tbt2 (List.mem_of_getElem? (i := 155) rfl)) rfl
theorem tw2_157 : (.instanceMethod yX7_keepDraft : Cond) ∈ wsL_law := tb_in (tbt2 (List.mem_of_getElem? (i := 157) rfl)) rfl
theorem tw2_158 : (.code yX7_keepDraft cX7_keepDraft 3 (some .int) : Cond) ∈ wsL_law := tb_in (tbt2 (List.mem_of_getElem? (i := 158) rfl)) rfl
theorem tw2_159 : (.methodLink RL 49 yX7_take : Cond) ∈ wsL_law := tb_in (tbt2 (List.mem_of_getElem? (i := 159) rfl)) rfl
theorem tw2_160 : (.instanceMethod yX7_take : Cond) ∈ wsL_law := tb_in (tbt2 (List.mem_of_getElem? (i := 160) rfl)) rfl
theorem tw2_161 : (.selects RX7 yX7_take yX7_take : Cond) ∈ wsL_law := tb_in (tbt2 (List.mem_of_getElem? (i := 161) rfl)) rfl
theorem tw2_162 : (.code yX7_take cX7_take 3 (some .int) : Cond) ∈ wsL_law := tb_in (tbt2 (List.mem_of_getElem? (i := 162) rfl)) rfl
theorem tw2_163 : (.methodLink RX7 133 yX5_hasPlace : Cond) ∈ wsL_law := tb_in (tbt2 (List.mem_of_getElem? (i := 163) rfl)) rfl
theorem tw2_164 : (.methodLink RX7 136 yX7_removeOnDraft : Cond) ∈ wsL_law := tb_in (tbt2 (List.mem_of_getElem? (i := 164) rfl)) rfl
theorem tw2_166 : (.instanceMethod yX7_removeOnDraft : Cond) ∈ wsL_law := tb_in (tbt2 (List.mem_of_getElem? (i := 166) rfl)) rfl
theorem tw2_167 : (.code yX7_removeOnDraft cX7_removeOnDraft 5 (some .boolean) : Cond) ∈ wsL_law := tb_in (tbt2 (List.mem_of_getElem? (i := 167) rfl)) rfl
theorem tw2_168 : (.methodLink RX7 216 yX5_remove : Cond) ∈ wsL_law := tb_in (tbt2 (List.mem_of_getElem? (i := 168) rfl)) rfl
theorem tw2_169 : (.instanceMethod yX5_remove : Cond) ∈ wsL_law := tb_in (tbt2 (List.mem_of_getElem? (i := 169) rfl)) rfl
theorem tw2_170 : (.selects RX5 yX5_remove yX5_remove : Cond) ∈ wsL_law := tb_in (tbt2 (List.mem_of_getElem? (i := 170) rfl)) rfl
theorem tw2_171 : (.code yX5_remove cX5_remove 3 none : Cond) ∈ wsL_law := tb_in (tbt2 (List.mem_of_getElem? (i := 171) rfl)) rfl
theorem tw2_172 : (.methodLink RX7 219 yX5_swap : Cond) ∈ wsL_law := tb_in (tbt2 (List.mem_of_getElem? (i := 172) rfl)) rfl
theorem tw2_173 : (.methodLink RX7 222 yX5_sink : Cond) ∈ wsL_law := tb_in (tbt2 (List.mem_of_getElem? (i := 173) rfl)) rfl
theorem tw2_174 : (.instanceMethod yX5_sink : Cond) ∈ wsL_law := tb_in (tbt2 (List.mem_of_getElem? (i := 174) rfl)) rfl
theorem tw2_175 : (.selects RX5 yX5_sink yX5_sink : Cond) ∈ wsL_law := tb_in (tbt2 (List.mem_of_getElem? (i := 175) rfl)) rfl
theorem tw2_176 : (.code yX5_sink cX5_sink 7 (some .int) : Cond) ∈ wsL_law := tb_in (tbt2 (List.mem_of_getElem? (i := 176) rfl)) rfl
theorem tw2_177 : (.methodLink RL 53 yX7_first : Cond) ∈ wsL_law := tb_in (tbt2 (List.mem_of_getElem? (i := 177) rfl)) rfl
theorem tw2_178 : (.instanceMethod yX7_first : Cond) ∈ wsL_law := tb_in (tbt2 (List.mem_of_getElem? (i := 178) rfl)) rfl
theorem tw2_179 : (.selects RX7 yX7_first yX7_first : Cond) ∈ wsL_law := tb_in (tbt2 (List.mem_of_getElem? (i := 179) rfl)) rfl
theorem tw2_180 : (.code yX7_first cX7_first 4 (some .int) : Cond) ∈ wsL_law := tb_in (tbt2 (List.mem_of_getElem? (i := 180) rfl)) rfl
theorem tw2_181 : (.methodLink RX7 139 yX5_cardAt : Cond) ∈ wsL_law := tb_in (tbt2 (List.mem_of_getElem? (i := 181) rfl)) rfl
theorem tw2_182 : (.methodLink RL 58 yX7_find : Cond) ∈ wsL_law := tb_in (tbt2 (List.mem_of_getElem? (i := 182) rfl)) rfl
theorem tw2_183 : (.instanceMethod yX7_find : Cond) ∈ wsL_law := tb_in (tbt2 (List.mem_of_getElem? (i := 183) rfl)) rfl
theorem tw2_184 : (.selects RX7 yX7_find yX7_find : Cond) ∈ wsL_law := tb_in (tbt2 (List.mem_of_getElem? (i := 184) rfl)) rfl
theorem tw2_185 : (.code yX7_find cX7_find 4 (some .int) : Cond) ∈ wsL_law := tb_in (tbt2 (List.mem_of_getElem? (i := 185) rfl)) rfl
theorem tw2_186 : (.methodLink RL 62 yX7_sort : Cond) ∈ wsL_law := tb_in (tbt2 (List.mem_of_getElem? (i := 186) rfl)) rfl
theorem tw2_187 : (.instanceMethod yX7_sort : Cond) ∈ wsL_law := tb_in (tbt2 (List.mem_of_getElem? (i := 187) rfl)) rfl
theorem tw2_188 : (.selects RX7 yX7_sort yX7_sort : Cond) ∈ wsL_law := tb_in (tbt2 (List.mem_of_getElem? (i := 188) rfl)) rfl
theorem tw2_189 : (.code yX7_sort cX7_sort 4 (some .int) : Cond) ∈ wsL_law := tb_in (tbt2 (List.mem_of_getElem? (i := 189) rfl)) rfl
theorem tw2_190 : (.methodLink RX7 152 yX7_sortDraftAnew : Cond) ∈ wsL_law := tb_in (tbt2 (List.mem_of_getElem? (i := 190) rfl)) rfl
theorem tw2_192 : (.instanceMethod yX7_sortDraftAnew : Cond) ∈ wsL_law := tb_in (tbt2 (List.mem_of_getElem? (i := 192) rfl)) rfl
theorem tw2_193 : (.code yX7_sortDraftAnew cX7_sortDraftAnew 7 (some .boolean) : Cond) ∈ wsL_law := tb_in (tbt2 (List.mem_of_getElem? (i := 193) rfl)) rfl
theorem tw2_194 : (.methodLink RX7 159 yX5_clear : Cond) ∈ wsL_law := tb_in (tbt2 (List.mem_of_getElem? (i := 194) rfl)) rfl
theorem tw2_195 : (.methodLink RX7 225 Lib.Math.min.name : Cond) ∈ wsL_law := tb_in (tbt2 (List.mem_of_getElem? (i := 195) rfl)) rfl
theorem tw2_196 : (.static Lib.Math.min.name : Cond) ∈ wsL_law := tb_in (tbt2 (List.mem_of_getElem? (i := 196) rfl)) rfl
theorem tw2_197 : (.code Lib.Math.min.name Lib.Math.min.code 2 (some .int) : Cond) ∈ wsL_law := tb_in (tbt2 (List.mem_of_getElem? (i := 197) rfl)) rfl
theorem tw2_198 : (.methodLink RX7 230 yX5_appendMerged : Cond) ∈ wsL_law := tb_in (tbt2 (List.mem_of_getElem? (i := 198) rfl)) rfl
theorem tw2_199 : (.instanceMethod yX5_appendMerged : Cond) ∈ wsL_law := tb_in (tbt2 (List.mem_of_getElem? (i := 199) rfl)) rfl
theorem tw2_200 : (.selects RX5 yX5_appendMerged yX5_appendMerged : Cond) ∈ wsL_law := tb_in (tbt2 (List.mem_of_getElem? (i := 200) rfl)) rfl
theorem tw2_201 : (.code yX5_appendMerged cX5_appendMerged 10 (some .boolean) : Cond) ∈ wsL_law := tb_in (tbt2 (List.mem_of_getElem? (i := 201) rfl)) rfl
theorem tw2_202 : (.methodLink RL 66 yX7_filter : Cond) ∈ wsL_law := tb_in (tbt2 (List.mem_of_getElem? (i := 202) rfl)) rfl
theorem tw2_203 : (.instanceMethod yX7_filter : Cond) ∈ wsL_law := tb_in (tbt2 (List.mem_of_getElem? (i := 203) rfl)) rfl
theorem tw2_204 : (.selects RX7 yX7_filter yX7_filter : Cond) ∈ wsL_law := tb_in (tbt2 (List.mem_of_getElem? (i := 204) rfl)) rfl
theorem tw2_205 : (.code yX7_filter cX7_filter 5 (some .int) : Cond) ∈ wsL_law := tb_in (tbt2 (List.mem_of_getElem? (i := 205) rfl)) rfl
theorem tw2_206 : (.methodLink RX7 155 yX7_judgeOntoDraft : Cond) ∈ wsL_law := tb_in (tbt2 (List.mem_of_getElem? (i := 206) rfl)) rfl
theorem tw2_208 : (.instanceMethod yX7_judgeOntoDraft : Cond) ∈ wsL_law := tb_in (tbt2 (List.mem_of_getElem? (i := 208) rfl)) rfl
theorem tw2_209 : (.code yX7_judgeOntoDraft cX7_judgeOntoDraft 5 (some .boolean) : Cond) ∈ wsL_law := tb_in (tbt2 (List.mem_of_getElem? (i := 209) rfl)) rfl
theorem tw2_210 : (.methodLink RX7 234 yX1_askKeeping : Cond) ∈ wsL_law := tb_in (tbt2 (List.mem_of_getElem? (i := 210) rfl)) rfl
theorem tw2_211 : (.instanceMethod yX1_askKeeping : Cond) ∈ wsL_law := tb_in (tbt2 (List.mem_of_getElem? (i := 211) rfl)) rfl
theorem tw2_212 : (.selects RX1 yX1_askKeeping yX1_askKeeping : Cond) ∈ wsL_law := tb_in (tbt2 (List.mem_of_getElem? (i := 212) rfl)) rfl
theorem tw2_213 : (.code yX1_askKeeping cX1_askKeeping 5 (some .int) : Cond) ∈ wsL_law := tb_in (tbt2 (List.mem_of_getElem? (i := 213) rfl)) rfl
theorem tw2_214 : (.methodLink RX1 80 yX1_numberOf : Cond) ∈ wsL_law := tb_in (tbt2 (List.mem_of_getElem? (i := 214) rfl)) rfl
theorem tw2_216 : (.instanceMethod yX1_numberOf : Cond) ∈ wsL_law := tb_in (tbt2 (List.mem_of_getElem? (i := 216) rfl)) rfl
theorem tw2_217 : (.code yX1_numberOf cX1_numberOf 2 (some .int) : Cond) ∈ wsL_law := tb_in (tbt2 (List.mem_of_getElem? (i := 217) rfl)) rfl
theorem tw2_218 : (.methodLink RX7 237 yX5_appendPart : Cond) ∈ wsL_law := tb_in (tbt2 (List.mem_of_getElem? (i := 218) rfl)) rfl
theorem tw2_219 : (.methodLink RX7 161 yX7_placeAllOnDraft : Cond) ∈ wsL_law := tb_in (tbt2 (List.mem_of_getElem? (i := 219) rfl)) rfl
theorem tw2_221 : (.instanceMethod yX7_placeAllOnDraft : Cond) ∈ wsL_law := tb_in (tbt2 (List.mem_of_getElem? (i := 221) rfl)) rfl
theorem tw2_222 : (.code yX7_placeAllOnDraft cX7_placeAllOnDraft 4 (some .boolean) : Cond) ∈ wsL_law := tb_in (tbt2 (List.mem_of_getElem? (i := 222) rfl)) rfl
theorem tw2_223 : (.methodLink RL 70 yX7_change : Cond) ∈ wsL_law := tb_in (tbt2 (List.mem_of_getElem? (i := 223) rfl)) rfl
theorem tw2_224 : (.instanceMethod yX7_change : Cond) ∈ wsL_law := tb_in (tbt2 (List.mem_of_getElem? (i := 224) rfl)) rfl
theorem tw2_225 : (.selects RX7 yX7_change yX7_change : Cond) ∈ wsL_law := tb_in (tbt2 (List.mem_of_getElem? (i := 225) rfl)) rfl
theorem tw2_226 : (.code yX7_change cX7_change 4 (some .int) : Cond) ∈ wsL_law := tb_in (tbt2 (List.mem_of_getElem? (i := 226) rfl)) rfl
theorem tw2_227 : (.methodLink RX7 166 yX7_changeCards : Cond) ∈ wsL_law := tb_in (tbt2 (List.mem_of_getElem? (i := 227) rfl)) rfl
theorem tw2_229 : (.instanceMethod yX7_changeCards : Cond) ∈ wsL_law := tb_in (tbt2 (List.mem_of_getElem? (i := 229) rfl)) rfl
theorem tw2_230 : (.code yX7_changeCards cX7_changeCards 5 (some .boolean) : Cond) ∈ wsL_law := tb_in (tbt2 (List.mem_of_getElem? (i := 230) rfl)) rfl
theorem tw2_231 : (.methodLink RX7 241 yX1_askAdding : Cond) ∈ wsL_law := tb_in (tbt2 (List.mem_of_getElem? (i := 231) rfl)) rfl
theorem tw2_232 : (.instanceMethod yX1_askAdding : Cond) ∈ wsL_law := tb_in (tbt2 (List.mem_of_getElem? (i := 232) rfl)) rfl
theorem tw2_233 : (.selects RX1 yX1_askAdding yX1_askAdding : Cond) ∈ wsL_law := tb_in (tbt2 (List.mem_of_getElem? (i := 233) rfl)) rfl
theorem tw2_234 : (.code yX1_askAdding cX1_askAdding 6 (some .int) : Cond) ∈ wsL_law := tb_in (tbt2 (List.mem_of_getElem? (i := 234) rfl)) rfl
theorem tw2_235 : (.methodLink RX1 86 yX0_add : Cond) ∈ wsL_law := tb_in (tbt2 (List.mem_of_getElem? (i := 235) rfl)) rfl
theorem tw2_236 : (.methodLink RX7 244 yX5_replace : Cond) ∈ wsL_law := tb_in (tbt2 (List.mem_of_getElem? (i := 236) rfl)) rfl
theorem tw2_237 : (.methodLink RL 74 yX7_all : Cond) ∈ wsL_law := tb_in (tbt2 (List.mem_of_getElem? (i := 237) rfl)) rfl
theorem tw2_238 : (.instanceMethod yX7_all : Cond) ∈ wsL_law := tb_in (tbt2 (List.mem_of_getElem? (i := 238) rfl)) rfl
theorem tw2_239 : (.selects RX7 yX7_all yX7_all : Cond) ∈ wsL_law := tb_in (tbt2 (List.mem_of_getElem? (i := 239) rfl)) rfl
theorem tw3_0 : (.code yX7_all cX7_all 7 (some .int) : Cond) ∈ wsL_law := tb_in (tbt3 (List.mem_of_getElem? (i := 0) rfl)) rfl
theorem tw3_1 : (.methodLink RX7 169 yX7_mergeIntoDraft : Cond) ∈ wsL_law := tb_in (tbt3 (List.mem_of_getElem? (i := 1) rfl)) rfl
theorem tw3_3 : (.instanceMethod yX7_mergeIntoDraft : Cond) ∈ wsL_law := tb_in (tbt3 (List.mem_of_getElem? (i := 3) rfl)) rfl
theorem tw3_4 : (.code yX7_mergeIntoDraft cX7_mergeIntoDraft 4 (some .boolean) : Cond) ∈ wsL_law := tb_in (tbt3 (List.mem_of_getElem? (i := 4) rfl)) rfl
theorem tw3_5 : (.methodLink RL 78 yX7_at : Cond) ∈ wsL_law := tb_in (tbt3 (List.mem_of_getElem? (i := 5) rfl)) rfl
theorem tw3_6 : (.instanceMethod yX7_at : Cond) ∈ wsL_law := tb_in (tbt3 (List.mem_of_getElem? (i := 6) rfl)) rfl
theorem tw3_7 : (.selects RX7 yX7_at yX7_at : Cond) ∈ wsL_law := tb_in (tbt3 (List.mem_of_getElem? (i := 7) rfl)) rfl
theorem tw3_8 : (.code yX7_at cX7_at 3 (some .int) : Cond) ∈ wsL_law := tb_in (tbt3 (List.mem_of_getElem? (i := 8) rfl)) rfl
theorem tw3_9 : (.methodLink RL 82 yX7_whole : Cond) ∈ wsL_law := tb_in (tbt3 (List.mem_of_getElem? (i := 9) rfl)) rfl
theorem tw3_10 : (.instanceMethod yX7_whole : Cond) ∈ wsL_law := tb_in (tbt3 (List.mem_of_getElem? (i := 10) rfl)) rfl
theorem tw3_11 : (.selects RX7 yX7_whole yX7_whole : Cond) ∈ wsL_law := tb_in (tbt3 (List.mem_of_getElem? (i := 11) rfl)) rfl
theorem tw3_12 : (.code yX7_whole cX7_whole 4 (some .int) : Cond) ∈ wsL_law := tb_in (tbt3 (List.mem_of_getElem? (i := 12) rfl)) rfl
theorem tw3_13 : (.methodLink RX7 172 yX7_isWhole : Cond) ∈ wsL_law := tb_in (tbt3 (List.mem_of_getElem? (i := 13) rfl)) rfl
theorem tw3_15 : (.instanceMethod yX7_isWhole : Cond) ∈ wsL_law := tb_in (tbt3 (List.mem_of_getElem? (i := 15) rfl)) rfl
theorem tw3_16 : (.code yX7_isWhole cX7_isWhole 4 (some .boolean) : Cond) ∈ wsL_law := tb_in (tbt3 (List.mem_of_getElem? (i := 16) rfl)) rfl
theorem tw3_17 : (.methodLink RX7 247 yX1_compareTruly : Cond) ∈ wsL_law := tb_in (tbt3 (List.mem_of_getElem? (i := 17) rfl)) rfl
theorem tw3_18 : (.methodLink RL 86 yX7_same : Cond) ∈ wsL_law := tb_in (tbt3 (List.mem_of_getElem? (i := 18) rfl)) rfl
theorem tw3_19 : (.instanceMethod yX7_same : Cond) ∈ wsL_law := tb_in (tbt3 (List.mem_of_getElem? (i := 19) rfl)) rfl
theorem tw3_20 : (.selects RX7 yX7_same yX7_same : Cond) ∈ wsL_law := tb_in (tbt3 (List.mem_of_getElem? (i := 20) rfl)) rfl
theorem tw3_21 : (.code yX7_same cX7_same 3 (some .int) : Cond) ∈ wsL_law := tb_in (tbt3 (List.mem_of_getElem? (i := 21) rfl)) rfl
theorem tw3_22 : (.methodLink RX7 176 yX5_isLike : Cond) ∈ wsL_law := tb_in (tbt3 (List.mem_of_getElem? (i := 22) rfl)) rfl
theorem tw3_23 : (.instanceMethod yX5_isLike : Cond) ∈ wsL_law := tb_in (tbt3 (List.mem_of_getElem? (i := 23) rfl)) rfl
theorem tw3_24 : (.selects RX5 yX5_isLike yX5_isLike : Cond) ∈ wsL_law := tb_in (tbt3 (List.mem_of_getElem? (i := 24) rfl)) rfl
theorem tw3_25 : (.code yX5_isLike cX5_isLike 3 (some .boolean) : Cond) ∈ wsL_law := tb_in (tbt3 (List.mem_of_getElem? (i := 25) rfl)) rfl
theorem tw3_26 : (.methodLink RL 90 yX7_thrown : Cond) ∈ wsL_law := tb_in (tbt3 (List.mem_of_getElem? (i := 26) rfl)) rfl
theorem tw3_27 : (.instanceMethod yX7_thrown : Cond) ∈ wsL_law := tb_in (tbt3 (List.mem_of_getElem? (i := 27) rfl)) rfl
theorem tw3_28 : (.selects RX7 yX7_thrown yX7_thrown : Cond) ∈ wsL_law := tb_in (tbt3 (List.mem_of_getElem? (i := 28) rfl)) rfl
theorem tw3_29 : (.code yX7_thrown cX7_thrown 2 (some .int) : Cond) ∈ wsL_law := tb_in (tbt3 (List.mem_of_getElem? (i := 29) rfl)) rfl
theorem tw3_30 : (.methodLink RL 94 yX7_count : Cond) ∈ wsL_law := tb_in (tbt3 (List.mem_of_getElem? (i := 30) rfl)) rfl
theorem tw3_31 : (.instanceMethod yX7_count : Cond) ∈ wsL_law := tb_in (tbt3 (List.mem_of_getElem? (i := 31) rfl)) rfl
theorem tw3_32 : (.selects RX7 yX7_count yX7_count : Cond) ∈ wsL_law := tb_in (tbt3 (List.mem_of_getElem? (i := 32) rfl)) rfl
theorem tw3_33 : (.code yX7_count cX7_count 2 (some .int) : Cond) ∈ wsL_law := tb_in (tbt3 (List.mem_of_getElem? (i := 33) rfl)) rfl
theorem tw3_34 : (.classLink RL 10 RX8 : Cond) ∈ wsL_law := tb_in (tbt3 (List.mem_of_getElem? (i := 34) rfl)) rfl
theorem tw3_35 : (.instantiable RX8 29 : Cond) ∈ wsL_law := tb_in (tbt3 (List.mem_of_getElem? (i := 35) rfl)) rfl
theorem tw3_36 : (.methodLink RL 12 yX8_init : Cond) ∈ wsL_law := tb_in (tbt3 (List.mem_of_getElem? (i := 36) rfl)) rfl
theorem tw3_37 : (.instanceMethod yX8_init : Cond) ∈ wsL_law := tb_in (tbt3 (List.mem_of_getElem? (i := 37) rfl)) rfl
theorem tw3_38 : (.code yX8_init cX8_init 1 none : Cond) ∈ wsL_law := tb_in (tbt3 (List.mem_of_getElem? (i := 38) rfl)) rfl
theorem tw3_39 : (.methodLink RX8 1 objectInit : Cond) ∈ wsL_law := tb_in (tbt3 (List.mem_of_getElem? (i := 39) rfl)) rfl
theorem tw3_40 : (.fieldLink RX8 65 "HookTraysModel" "cards" "I" : Cond) ∈ wsL_law := tb_in (tbt3 (List.mem_of_getElem? (i := 40) rfl)) rfl
theorem tw3_41 : (.fieldLink RX8 7 "HookTraysModel" "weight" "[I" : Cond) ∈ wsL_law := tb_in (tbt3 (List.mem_of_getElem? (i := 41) rfl)) rfl
theorem tw3_42 : (.fieldLink RX8 13 "HookTraysModel" "mark" "[I" : Cond) ∈ wsL_law := tb_in (tbt3 (List.mem_of_getElem? (i := 42) rfl)) rfl
theorem tw3_43 : (.fieldLink RX8 72 "HookTraysModel" "hooks" "I" : Cond) ∈ wsL_law := tb_in (tbt3 (List.mem_of_getElem? (i := 43) rfl)) rfl
theorem tw3_44 : (.fieldLink RX8 16 "HookTraysModel" "hookKind" "[I" : Cond) ∈ wsL_law := tb_in (tbt3 (List.mem_of_getElem? (i := 44) rfl)) rfl
theorem tw3_45 : (.fieldLink RX8 19 "HookTraysModel" "hookA" "[I" : Cond) ∈ wsL_law := tb_in (tbt3 (List.mem_of_getElem? (i := 45) rfl)) rfl
theorem tw3_46 : (.fieldLink RX8 22 "HookTraysModel" "calls" "[I" : Cond) ∈ wsL_law := tb_in (tbt3 (List.mem_of_getElem? (i := 46) rfl)) rfl
theorem tw3_47 : (.fieldLink RX8 25 "HookTraysModel" "latest" "[I" : Cond) ∈ wsL_law := tb_in (tbt3 (List.mem_of_getElem? (i := 47) rfl)) rfl
theorem tw3_48 : (.fieldLink RX8 28 "HookTraysModel" "misuses" "[I" : Cond) ∈ wsL_law := tb_in (tbt3 (List.mem_of_getElem? (i := 48) rfl)) rfl
theorem tw3_49 : (.fieldLink RX8 88 "HookTraysModel" "plans" "I" : Cond) ∈ wsL_law := tb_in (tbt3 (List.mem_of_getElem? (i := 49) rfl)) rfl
theorem tw3_50 : (.fieldLink RX8 31 "HookTraysModel" "planHook" "[I" : Cond) ∈ wsL_law := tb_in (tbt3 (List.mem_of_getElem? (i := 50) rfl)) rfl
theorem tw3_51 : (.fieldLink RX8 34 "HookTraysModel" "planCall" "[I" : Cond) ∈ wsL_law := tb_in (tbt3 (List.mem_of_getElem? (i := 51) rfl)) rfl
theorem tw3_52 : (.fieldLink RX8 37 "HookTraysModel" "planWhat" "[I" : Cond) ∈ wsL_law := tb_in (tbt3 (List.mem_of_getElem? (i := 52) rfl)) rfl
theorem tw3_53 : (.fieldLink RX8 40 "HookTraysModel" "planF" "[I" : Cond) ∈ wsL_law := tb_in (tbt3 (List.mem_of_getElem? (i := 53) rfl)) rfl
theorem tw3_54 : (.fieldLink RX8 75 "HookTraysModel" "trays" "I" : Cond) ∈ wsL_law := tb_in (tbt3 (List.mem_of_getElem? (i := 54) rfl)) rfl
theorem tw3_55 : (.fieldLink RX8 43 "HookTraysModel" "trayKind" "[I" : Cond) ∈ wsL_law := tb_in (tbt3 (List.mem_of_getElem? (i := 55) rfl)) rfl
theorem tw3_56 : (.fieldLink RX8 46 "HookTraysModel" "trayHook" "[I" : Cond) ∈ wsL_law := tb_in (tbt3 (List.mem_of_getElem? (i := 56) rfl)) rfl
theorem tw3_57 : (.fieldLink RX8 49 "HookTraysModel" "many" "[I" : Cond) ∈ wsL_law := tb_in (tbt3 (List.mem_of_getElem? (i := 57) rfl)) rfl
theorem tw3_58 : (.fieldLink RX8 52 "HookTraysModel" "held" "[I" : Cond) ∈ wsL_law := tb_in (tbt3 (List.mem_of_getElem? (i := 58) rfl)) rfl
theorem tw3_59 : (.fieldLink RX8 129 "HookTraysModel" "acts" "I" : Cond) ∈ wsL_law := tb_in (tbt3 (List.mem_of_getElem? (i := 59) rfl)) rfl
theorem tw3_60 : (.fieldLink RX8 138 "HookTraysModel" "actsThrown" "I" : Cond) ∈ wsL_law := tb_in (tbt3 (List.mem_of_getElem? (i := 60) rfl)) rfl
theorem tw3_61 : (.fieldLink RX8 106 "HookTraysModel" "isThrown" "Z" : Cond) ∈ wsL_law := tb_in (tbt3 (List.mem_of_getElem? (i := 61) rfl)) rfl
theorem tw3_62 : (.fieldLink RX8 110 "HookTraysModel" "thrownBy" "I" : Cond) ∈ wsL_law := tb_in (tbt3 (List.mem_of_getElem? (i := 62) rfl)) rfl
theorem tw3_63 : (.fieldLink RX8 55 "HookTraysModel" "thrownHook" "I" : Cond) ∈ wsL_law := tb_in (tbt3 (List.mem_of_getElem? (i := 63) rfl)) rfl
theorem tw3_64 : (.fieldLink RX8 113 "HookTraysModel" "thrownCall" "I" : Cond) ∈ wsL_law := tb_in (tbt3 (List.mem_of_getElem? (i := 64) rfl)) rfl
theorem tw3_65 : (.fieldLink RX8 132 "HookTraysModel" "done" "I" : Cond) ∈ wsL_law := tb_in (tbt3 (List.mem_of_getElem? (i := 65) rfl)) rfl
theorem tw3_66 : (.fieldLink RX8 135 "HookTraysModel" "size" "I" : Cond) ∈ wsL_law := tb_in (tbt3 (List.mem_of_getElem? (i := 66) rfl)) rfl
theorem tw3_67 : (.fieldLink RX8 59 "HookTraysModel" "row" "[I" : Cond) ∈ wsL_law := tb_in (tbt3 (List.mem_of_getElem? (i := 67) rfl)) rfl
theorem tw3_68 : (.fieldLink RX8 62 "HookTraysModel" "other" "[I" : Cond) ∈ wsL_law := tb_in (tbt3 (List.mem_of_getElem? (i := 68) rfl)) rfl
theorem tw3_69 : (.lays RX8 "HookTraysModel" "cards" "I" : Cond) ∈ wsL_law := tb_in (tbt3 (List.mem_of_getElem? (i := 69) rfl)) rfl
theorem tw3_71 : (.laysFinal RX8 "HookTraysModel" "weight" "[I" : Cond) ∈ wsL_law := tb_in (tbt3 (List.mem_of_getElem? (i := 71) rfl)) rfl
theorem tw3_73 : (.laysFinal RX8 "HookTraysModel" "mark" "[I" : Cond) ∈ wsL_law := tb_in (tbt3 (List.mem_of_getElem? (i := 73) rfl)) rfl
theorem tw3_75 : (.lays RX8 "HookTraysModel" "hooks" "I" : Cond) ∈ wsL_law := tb_in (tbt3 (List.mem_of_getElem? (i := 75) rfl)) rfl
theorem tw3_77 : (.laysFinal RX8 "HookTraysModel" "hookKind" "[I" : Cond) ∈ wsL_law := tb_in (tbt3 (List.mem_of_getElem? (i := 77) rfl)) rfl
theorem tw3_79 : (.laysFinal RX8 "HookTraysModel" "hookA" "[I" : Cond) ∈ wsL_law := tb_in (tbt3 (List.mem_of_getElem? (i := 79) rfl)) rfl
theorem tw3_81 : (.laysFinal RX8 "HookTraysModel" "calls" "[I" : Cond) ∈ wsL_law := tb_in (tbt3 (List.mem_of_getElem? (i := 81) rfl)) rfl
theorem tw3_83 : (.laysFinal RX8 "HookTraysModel" "latest" "[I" : Cond) ∈ wsL_law := tb_in (tbt3 (List.mem_of_getElem? (i := 83) rfl)) rfl
theorem tw3_85 : (.laysFinal RX8 "HookTraysModel" "misuses" "[I" : Cond) ∈ wsL_law := tb_in (tbt3 (List.mem_of_getElem? (i := 85) rfl)) rfl
theorem tw3_87 : (.lays RX8 "HookTraysModel" "plans" "I" : Cond) ∈ wsL_law := tb_in (tbt3 (List.mem_of_getElem? (i := 87) rfl)) rfl
theorem tw3_89 : (.laysFinal RX8 "HookTraysModel" "planHook" "[I" : Cond) ∈ wsL_law := tb_in (tbt3 (List.mem_of_getElem? (i := 89) rfl)) rfl
theorem tw3_91 : (.laysFinal RX8 "HookTraysModel" "planCall" "[I" : Cond) ∈ wsL_law := tb_in (tbt3 (List.mem_of_getElem? (i := 91) rfl)) rfl
theorem tw3_93 : (.laysFinal RX8 "HookTraysModel" "planWhat" "[I" : Cond) ∈ wsL_law := tb_in (tbt3 (List.mem_of_getElem? (i := 93) rfl)) rfl
theorem tw3_95 : (.laysFinal RX8 "HookTraysModel" "planF" "[I" : Cond) ∈ wsL_law := tb_in (tbt3 (List.mem_of_getElem? (i := 95) rfl)) rfl
theorem tw3_97 : (.lays RX8 "HookTraysModel" "trays" "I" : Cond) ∈ wsL_law := tb_in (tbt3 (List.mem_of_getElem? (i := 97) rfl)) rfl
theorem tw3_99 : (.laysFinal RX8 "HookTraysModel" "trayKind" "[I" : Cond) ∈ wsL_law := tb_in (tbt3 (List.mem_of_getElem? (i := 99) rfl)) rfl
theorem tw3_101 : (.laysFinal RX8 "HookTraysModel" "trayHook" "[I" : Cond) ∈ wsL_law := tb_in (tbt3 (List.mem_of_getElem? (i := 101) rfl)) rfl
theorem tw3_103 : (.laysFinal RX8 "HookTraysModel" "many" "[I" : Cond) ∈ wsL_law := tb_in (tbt3 (List.mem_of_getElem? (i := 103) rfl)) rfl
theorem tw3_105 : (.laysFinal RX8 "HookTraysModel" "held" "[I" : Cond) ∈ wsL_law := tb_in (tbt3 (List.mem_of_getElem? (i := 105) rfl)) rfl
theorem tw3_107 : (.lays RX8 "HookTraysModel" "acts" "I" : Cond) ∈ wsL_law := tb_in (tbt3 (List.mem_of_getElem? (i := 107) rfl)) rfl
theorem tw3_109 : (.lays RX8 "HookTraysModel" "actsThrown" "I" : Cond) ∈ wsL_law := tb_in (tbt3 (List.mem_of_getElem? (i := 109) rfl)) rfl
theorem tw3_111 : (.lays RX8 "HookTraysModel" "isThrown" "Z" : Cond) ∈ wsL_law := tb_in (tbt3 (List.mem_of_getElem? (i := 111) rfl)) rfl
theorem tw3_113 : (.lays RX8 "HookTraysModel" "thrownBy" "I" : Cond) ∈ wsL_law := tb_in (tbt3 (List.mem_of_getElem? (i := 113) rfl)) rfl
theorem tw3_115 : (.lays RX8 "HookTraysModel" "thrownHook" "I" : Cond) ∈ wsL_law := tb_in (tbt3 (List.mem_of_getElem? (i := 115) rfl)) rfl
theorem tw3_117 : (.lays RX8 "HookTraysModel" "thrownCall" "I" : Cond) ∈ wsL_law := tb_in (tbt3 (List.mem_of_getElem? (i := 117) rfl)) rfl
theorem tw3_119 : (.lays RX8 "HookTraysModel" "done" "I" : Cond) ∈ wsL_law := tb_in (tbt3 (List.mem_of_getElem? (i := 119) rfl)) rfl
theorem tw3_121 : (.lays RX8 "HookTraysModel" "size" "I" : Cond) ∈ wsL_law := tb_in (tbt3 (List.mem_of_getElem? (i := 121) rfl)) rfl
theorem tw3_123 : (.laysFinal RX8 "HookTraysModel" "row" "[I" : Cond) ∈ wsL_law := tb_in (tbt3 (List.mem_of_getElem? (i := 123) rfl)) rfl
theorem tw3_125 : (.laysFinal RX8 "HookTraysModel" "other" "[I" : Cond) ∈ wsL_law := tb_in (tbt3 (List.mem_of_getElem? (i := 125) rfl)) rfl
theorem tw3_128 : (.methodLink RL 17 yX8_card : Cond) ∈ wsL_law := tb_in (tbt3 (List.mem_of_getElem? (i := 128) rfl)) rfl
theorem tw3_129 : (.instanceMethod yX8_card : Cond) ∈ wsL_law := tb_in (tbt3 (List.mem_of_getElem? (i := 129) rfl)) rfl
theorem tw3_130 : (.selects RX8 yX8_card yX8_card : Cond) ∈ wsL_law := tb_in (tbt3 (List.mem_of_getElem? (i := 130) rfl)) rfl
theorem tw3_131 : (.code yX8_card cX8_card 3 (some .int) : Cond) ∈ wsL_law := tb_in (tbt3 (List.mem_of_getElem? (i := 131) rfl)) rfl
theorem tw3_132 : (.constantLong RX8 78 (99) : Cond) ∈ wsL_law := tb_in (tbt3 (List.mem_of_getElem? (i := 132) rfl)) rfl
theorem tw3_133 : (.methodLink RX8 68 yX8_in : Cond) ∈ wsL_law := tb_in (tbt3 (List.mem_of_getElem? (i := 133) rfl)) rfl
theorem tw3_134 : (.static yX8_in : Cond) ∈ wsL_law := tb_in (tbt3 (List.mem_of_getElem? (i := 134) rfl)) rfl
theorem tw3_135 : (.code yX8_in cX8_in 6 (some .boolean) : Cond) ∈ wsL_law := tb_in (tbt3 (List.mem_of_getElem? (i := 135) rfl)) rfl
theorem tw3_136 : (.methodLink RL 22 yX8_told : Cond) ∈ wsL_law := tb_in (tbt3 (List.mem_of_getElem? (i := 136) rfl)) rfl
theorem tw3_137 : (.instanceMethod yX8_told : Cond) ∈ wsL_law := tb_in (tbt3 (List.mem_of_getElem? (i := 137) rfl)) rfl
theorem tw3_138 : (.selects RX8 yX8_told yX8_told : Cond) ∈ wsL_law := tb_in (tbt3 (List.mem_of_getElem? (i := 138) rfl)) rfl
theorem tw3_139 : (.code yX8_told cX8_told 3 (some .long) : Cond) ∈ wsL_law := tb_in (tbt3 (List.mem_of_getElem? (i := 139) rfl)) rfl
theorem tw3_140 : (.methodLink RX8 80 yX8_isCard : Cond) ∈ wsL_law := tb_in (tbt3 (List.mem_of_getElem? (i := 140) rfl)) rfl
theorem tw3_142 : (.instanceMethod yX8_isCard : Cond) ∈ wsL_law := tb_in (tbt3 (List.mem_of_getElem? (i := 142) rfl)) rfl
theorem tw3_143 : (.code yX8_isCard cX8_isCard 2 (some .boolean) : Cond) ∈ wsL_law := tb_in (tbt3 (List.mem_of_getElem? (i := 143) rfl)) rfl
theorem tw3_144 : (.constantLong RX8 84 (-10000000000) : Cond) ∈ wsL_law := tb_in (tbt3 (List.mem_of_getElem? (i := 144) rfl)) rfl
theorem tw3_145 : (.methodLink RL 26 yX8_hook : Cond) ∈ wsL_law := tb_in (tbt3 (List.mem_of_getElem? (i := 145) rfl)) rfl
theorem tw3_146 : (.instanceMethod yX8_hook : Cond) ∈ wsL_law := tb_in (tbt3 (List.mem_of_getElem? (i := 146) rfl)) rfl
theorem tw3_147 : (.selects RX8 yX8_hook yX8_hook : Cond) ∈ wsL_law := tb_in (tbt3 (List.mem_of_getElem? (i := 147) rfl)) rfl
theorem tw3_148 : (.code yX8_hook cX8_hook 3 (some .int) : Cond) ∈ wsL_law := tb_in (tbt3 (List.mem_of_getElem? (i := 148) rfl)) rfl
theorem tw3_149 : (.constantLong RX8 86 (4) : Cond) ∈ wsL_law := tb_in (tbt3 (List.mem_of_getElem? (i := 149) rfl)) rfl
theorem tw3_150 : (.methodLink RL 31 yX8_plan : Cond) ∈ wsL_law := tb_in (tbt3 (List.mem_of_getElem? (i := 150) rfl)) rfl
theorem tw3_151 : (.instanceMethod yX8_plan : Cond) ∈ wsL_law := tb_in (tbt3 (List.mem_of_getElem? (i := 151) rfl)) rfl
theorem tw3_152 : (.selects RX8 yX8_plan yX8_plan : Cond) ∈ wsL_law := tb_in (tbt3 (List.mem_of_getElem? (i := 152) rfl)) rfl
theorem tw3_153 : (.code yX8_plan cX8_plan 6 (some .int) : Cond) ∈ wsL_law := tb_in (tbt3 (List.mem_of_getElem? (i := 153) rfl)) rfl
theorem tw3_154 : (.methodLink RX8 91 yX8_isHook : Cond) ∈ wsL_law := tb_in (tbt3 (List.mem_of_getElem? (i := 154) rfl)) rfl
theorem tw3_156 : (.instanceMethod yX8_isHook : Cond) ∈ wsL_law := tb_in (tbt3 (List.mem_of_getElem? (i := 156) rfl)) rfl
theorem tw3_157 : (.code yX8_isHook cX8_isHook 2 (some .boolean) : Cond) ∈ wsL_law := tb_in (tbt3 (List.mem_of_getElem? (i := 157) rfl)) rfl
theorem tw3_158 : (.constantLong RX8 94 (1000) : Cond) ∈ wsL_law := tb_in (tbt3 (List.mem_of_getElem? (i := 158) rfl)) rfl
theorem tw3_159 : (.constantLong RX8 96 (2) : Cond) ∈ wsL_law := tb_in (tbt3 (List.mem_of_getElem? (i := 159) rfl)) rfl
theorem tw3_160 : (.methodLink RX8 98 yX8_planOf : Cond) ∈ wsL_law := tb_in (tbt3 (List.mem_of_getElem? (i := 160) rfl)) rfl
theorem tw3_162 : (.instanceMethod yX8_planOf : Cond) ∈ wsL_law := tb_in (tbt3 (List.mem_of_getElem? (i := 162) rfl)) rfl
theorem tw3_163 : (.code yX8_planOf cX8_planOf 5 (some .int) : Cond) ∈ wsL_law := tb_in (tbt3 (List.mem_of_getElem? (i := 163) rfl)) rfl
theorem tw3_164 : (.methodLink RX8 102 yX8_dropPlan : Cond) ∈ wsL_law := tb_in (tbt3 (List.mem_of_getElem? (i := 164) rfl)) rfl
theorem tw3_166 : (.instanceMethod yX8_dropPlan : Cond) ∈ wsL_law := tb_in (tbt3 (List.mem_of_getElem? (i := 166) rfl)) rfl
theorem tw3_167 : (.code yX8_dropPlan cX8_dropPlan 2 none : Cond) ∈ wsL_law := tb_in (tbt3 (List.mem_of_getElem? (i := 167) rfl)) rfl
theorem tw3_168 : (.methodLink RL 36 yX8_clearPlans : Cond) ∈ wsL_law := tb_in (tbt3 (List.mem_of_getElem? (i := 168) rfl)) rfl
theorem tw3_169 : (.instanceMethod yX8_clearPlans : Cond) ∈ wsL_law := tb_in (tbt3 (List.mem_of_getElem? (i := 169) rfl)) rfl
theorem tw3_170 : (.selects RX8 yX8_clearPlans yX8_clearPlans : Cond) ∈ wsL_law := tb_in (tbt3 (List.mem_of_getElem? (i := 170) rfl)) rfl
theorem tw3_171 : (.code yX8_clearPlans cX8_clearPlans 2 (some .int) : Cond) ∈ wsL_law := tb_in (tbt3 (List.mem_of_getElem? (i := 171) rfl)) rfl
theorem tw3_172 : (.methodLink RL 40 yX8_about : Cond) ∈ wsL_law := tb_in (tbt3 (List.mem_of_getElem? (i := 172) rfl)) rfl
theorem tw3_173 : (.instanceMethod yX8_about : Cond) ∈ wsL_law := tb_in (tbt3 (List.mem_of_getElem? (i := 173) rfl)) rfl
theorem tw3_174 : (.selects RX8 yX8_about yX8_about : Cond) ∈ wsL_law := tb_in (tbt3 (List.mem_of_getElem? (i := 174) rfl)) rfl
theorem tw3_175 : (.code yX8_about cX8_about 5 (some .int) : Cond) ∈ wsL_law := tb_in (tbt3 (List.mem_of_getElem? (i := 175) rfl)) rfl
theorem tw3_176 : (.methodLink RL 44 yX8_tray : Cond) ∈ wsL_law := tb_in (tbt3 (List.mem_of_getElem? (i := 176) rfl)) rfl
theorem tw3_177 : (.instanceMethod yX8_tray : Cond) ∈ wsL_law := tb_in (tbt3 (List.mem_of_getElem? (i := 177) rfl)) rfl
theorem tw3_178 : (.selects RX8 yX8_tray yX8_tray : Cond) ∈ wsL_law := tb_in (tbt3 (List.mem_of_getElem? (i := 178) rfl)) rfl
theorem tw3_179 : (.code yX8_tray cX8_tray 3 (some .int) : Cond) ∈ wsL_law := tb_in (tbt3 (List.mem_of_getElem? (i := 179) rfl)) rfl
theorem tw3_180 : (.methodLink RX8 126 yX8_compares : Cond) ∈ wsL_law := tb_in (tbt3 (List.mem_of_getElem? (i := 180) rfl)) rfl
theorem tw3_182 : (.instanceMethod yX8_compares : Cond) ∈ wsL_law := tb_in (tbt3 (List.mem_of_getElem? (i := 182) rfl)) rfl
theorem tw3_183 : (.code yX8_compares cX8_compares 2 (some .boolean) : Cond) ∈ wsL_law := tb_in (tbt3 (List.mem_of_getElem? (i := 183) rfl)) rfl
theorem tw3_184 : (.methodLink RL 48 yX8_put : Cond) ∈ wsL_law := tb_in (tbt3 (List.mem_of_getElem? (i := 184) rfl)) rfl
theorem tw3_185 : (.instanceMethod yX8_put : Cond) ∈ wsL_law := tb_in (tbt3 (List.mem_of_getElem? (i := 185) rfl)) rfl
theorem tw3_186 : (.selects RX8 yX8_put yX8_put : Cond) ∈ wsL_law := tb_in (tbt3 (List.mem_of_getElem? (i := 186) rfl)) rfl
theorem tw3_187 : (.code yX8_put cX8_put 3 (some .int) : Cond) ∈ wsL_law := tb_in (tbt3 (List.mem_of_getElem? (i := 187) rfl)) rfl
theorem tw3_188 : (.methodLink RX8 162 yX8_isTray : Cond) ∈ wsL_law := tb_in (tbt3 (List.mem_of_getElem? (i := 188) rfl)) rfl
theorem tw3_190 : (.instanceMethod yX8_isTray : Cond) ∈ wsL_law := tb_in (tbt3 (List.mem_of_getElem? (i := 190) rfl)) rfl
theorem tw3_191 : (.code yX8_isTray cX8_isTray 2 (some .boolean) : Cond) ∈ wsL_law := tb_in (tbt3 (List.mem_of_getElem? (i := 191) rfl)) rfl
theorem tw3_192 : (.methodLink RX8 165 yX8_beginAct : Cond) ∈ wsL_law := tb_in (tbt3 (List.mem_of_getElem? (i := 192) rfl)) rfl
theorem tw3_194 : (.instanceMethod yX8_beginAct : Cond) ∈ wsL_law := tb_in (tbt3 (List.mem_of_getElem? (i := 194) rfl)) rfl
theorem tw3_195 : (.code yX8_beginAct cX8_beginAct 2 none : Cond) ∈ wsL_law := tb_in (tbt3 (List.mem_of_getElem? (i := 195) rfl)) rfl
theorem tw3_196 : (.methodLink RX8 168 yX8_load : Cond) ∈ wsL_law := tb_in (tbt3 (List.mem_of_getElem? (i := 196) rfl)) rfl
theorem tw3_198 : (.instanceMethod yX8_load : Cond) ∈ wsL_law := tb_in (tbt3 (List.mem_of_getElem? (i := 198) rfl)) rfl
theorem tw3_199 : (.code yX8_load cX8_load 3 none : Cond) ∈ wsL_law := tb_in (tbt3 (List.mem_of_getElem? (i := 199) rfl)) rfl
theorem tw3_200 : (.methodLink RX8 171 yX8_comes : Cond) ∈ wsL_law := tb_in (tbt3 (List.mem_of_getElem? (i := 200) rfl)) rfl
theorem tw3_202 : (.instanceMethod yX8_comes : Cond) ∈ wsL_law := tb_in (tbt3 (List.mem_of_getElem? (i := 202) rfl)) rfl
theorem tw3_203 : (.code yX8_comes cX8_comes 5 none : Cond) ∈ wsL_law := tb_in (tbt3 (List.mem_of_getElem? (i := 203) rfl)) rfl
theorem tw3_204 : (.methodLink RX8 152 yX8_halving : Cond) ∈ wsL_law := tb_in (tbt3 (List.mem_of_getElem? (i := 204) rfl)) rfl
theorem tw3_206 : (.instanceMethod yX8_halving : Cond) ∈ wsL_law := tb_in (tbt3 (List.mem_of_getElem? (i := 206) rfl)) rfl
theorem tw3_207 : (.code yX8_halving cX8_halving 6 (some .int) : Cond) ∈ wsL_law := tb_in (tbt3 (List.mem_of_getElem? (i := 207) rfl)) rfl
theorem tw3_208 : (.methodLink RX8 144 yX8_isAhead : Cond) ∈ wsL_law := tb_in (tbt3 (List.mem_of_getElem? (i := 208) rfl)) rfl
theorem tw3_210 : (.instanceMethod yX8_isAhead : Cond) ∈ wsL_law := tb_in (tbt3 (List.mem_of_getElem? (i := 210) rfl)) rfl
theorem tw3_211 : (.code yX8_isAhead cX8_isAhead 6 (some .boolean) : Cond) ∈ wsL_law := tb_in (tbt3 (List.mem_of_getElem? (i := 211) rfl)) rfl
theorem tw3_212 : (.methodLink RX8 119 yX8_begins : Cond) ∈ wsL_law := tb_in (tbt3 (List.mem_of_getElem? (i := 212) rfl)) rfl
theorem tw3_214 : (.instanceMethod yX8_begins : Cond) ∈ wsL_law := tb_in (tbt3 (List.mem_of_getElem? (i := 214) rfl)) rfl
theorem tw3_215 : (.code yX8_begins cX8_begins 5 (some .boolean) : Cond) ∈ wsL_law := tb_in (tbt3 (List.mem_of_getElem? (i := 215) rfl)) rfl
theorem tw3_216 : (.methodLink RX8 122 yX8_truth : Cond) ∈ wsL_law := tb_in (tbt3 (List.mem_of_getElem? (i := 216) rfl)) rfl
theorem tw3_218 : (.instanceMethod yX8_truth : Cond) ∈ wsL_law := tb_in (tbt3 (List.mem_of_getElem? (i := 218) rfl)) rfl
theorem tw3_219 : (.code yX8_truth cX8_truth 5 (some .int) : Cond) ∈ wsL_law := tb_in (tbt3 (List.mem_of_getElem? (i := 219) rfl)) rfl
theorem tw3_220 : (.methodLink RX8 116 yX8_sign : Cond) ∈ wsL_law := tb_in (tbt3 (List.mem_of_getElem? (i := 220) rfl)) rfl
theorem tw3_221 : (.static yX8_sign : Cond) ∈ wsL_law := tb_in (tbt3 (List.mem_of_getElem? (i := 221) rfl)) rfl
theorem tw3_222 : (.code yX8_sign cX8_sign 2 (some .int) : Cond) ∈ wsL_law := tb_in (tbt3 (List.mem_of_getElem? (i := 222) rfl)) rfl
theorem tw3_223 : (.methodLink RX8 155 yX8_insert : Cond) ∈ wsL_law := tb_in (tbt3 (List.mem_of_getElem? (i := 223) rfl)) rfl
theorem tw3_225 : (.instanceMethod yX8_insert : Cond) ∈ wsL_law := tb_in (tbt3 (List.mem_of_getElem? (i := 225) rfl)) rfl
theorem tw3_226 : (.code yX8_insert cX8_insert 4 none : Cond) ∈ wsL_law := tb_in (tbt3 (List.mem_of_getElem? (i := 226) rfl)) rfl
theorem tw3_227 : (.methodLink RX8 158 yX8_up : Cond) ∈ wsL_law := tb_in (tbt3 (List.mem_of_getElem? (i := 227) rfl)) rfl
theorem tw3_229 : (.instanceMethod yX8_up : Cond) ∈ wsL_law := tb_in (tbt3 (List.mem_of_getElem? (i := 229) rfl)) rfl
theorem tw3_230 : (.code yX8_up cX8_up 6 (some .boolean) : Cond) ∈ wsL_law := tb_in (tbt3 (List.mem_of_getElem? (i := 230) rfl)) rfl
theorem tw3_231 : (.methodLink RX8 148 yX8_turn : Cond) ∈ wsL_law := tb_in (tbt3 (List.mem_of_getElem? (i := 231) rfl)) rfl
theorem tw3_233 : (.instanceMethod yX8_turn : Cond) ∈ wsL_law := tb_in (tbt3 (List.mem_of_getElem? (i := 233) rfl)) rfl
theorem tw3_234 : (.code yX8_turn cX8_turn 4 none : Cond) ∈ wsL_law := tb_in (tbt3 (List.mem_of_getElem? (i := 234) rfl)) rfl
theorem tw3_235 : (.methodLink RX8 175 yX8_ends : Cond) ∈ wsL_law := tb_in (tbt3 (List.mem_of_getElem? (i := 235) rfl)) rfl
theorem tw3_237 : (.instanceMethod yX8_ends : Cond) ∈ wsL_law := tb_in (tbt3 (List.mem_of_getElem? (i := 237) rfl)) rfl
theorem tw3_238 : (.code yX8_ends cX8_ends 2 (some .int) : Cond) ∈ wsL_law := tb_in (tbt3 (List.mem_of_getElem? (i := 238) rfl)) rfl
theorem tw3_239 : (.methodLink RX8 141 yX8_give : Cond) ∈ wsL_law := tb_in (tbt3 (List.mem_of_getElem? (i := 239) rfl)) rfl
theorem tw4_1 : (.instanceMethod yX8_give : Cond) ∈ wsL_law := tb_in (tbt4 (List.mem_of_getElem? (i := 1) rfl)) rfl
theorem tw4_2 : (.code yX8_give cX8_give 3 none : Cond) ∈ wsL_law := tb_in (tbt4 (List.mem_of_getElem? (i := 2) rfl)) rfl
theorem tw4_3 : (.methodLink RL 52 yX8_take : Cond) ∈ wsL_law := tb_in (tbt4 (List.mem_of_getElem? (i := 3) rfl)) rfl
theorem tw4_4 : (.instanceMethod yX8_take : Cond) ∈ wsL_law := tb_in (tbt4 (List.mem_of_getElem? (i := 4) rfl)) rfl
theorem tw4_5 : (.selects RX8 yX8_take yX8_take : Cond) ∈ wsL_law := tb_in (tbt4 (List.mem_of_getElem? (i := 5) rfl)) rfl
theorem tw4_6 : (.code yX8_take cX8_take 3 (some .int) : Cond) ∈ wsL_law := tb_in (tbt4 (List.mem_of_getElem? (i := 6) rfl)) rfl
theorem tw4_7 : (.methodLink RX8 185 yX8_goes : Cond) ∈ wsL_law := tb_in (tbt4 (List.mem_of_getElem? (i := 7) rfl)) rfl
theorem tw4_9 : (.instanceMethod yX8_goes : Cond) ∈ wsL_law := tb_in (tbt4 (List.mem_of_getElem? (i := 9) rfl)) rfl
theorem tw4_10 : (.code yX8_goes cX8_goes 3 none : Cond) ∈ wsL_law := tb_in (tbt4 (List.mem_of_getElem? (i := 10) rfl)) rfl
theorem tw4_11 : (.methodLink RX8 179 yX8_remove : Cond) ∈ wsL_law := tb_in (tbt4 (List.mem_of_getElem? (i := 11) rfl)) rfl
theorem tw4_13 : (.instanceMethod yX8_remove : Cond) ∈ wsL_law := tb_in (tbt4 (List.mem_of_getElem? (i := 13) rfl)) rfl
theorem tw4_14 : (.code yX8_remove cX8_remove 3 none : Cond) ∈ wsL_law := tb_in (tbt4 (List.mem_of_getElem? (i := 14) rfl)) rfl
theorem tw4_15 : (.methodLink RX8 182 yX8_down : Cond) ∈ wsL_law := tb_in (tbt4 (List.mem_of_getElem? (i := 15) rfl)) rfl
theorem tw4_17 : (.instanceMethod yX8_down : Cond) ∈ wsL_law := tb_in (tbt4 (List.mem_of_getElem? (i := 17) rfl)) rfl
theorem tw4_18 : (.code yX8_down cX8_down 6 none : Cond) ∈ wsL_law := tb_in (tbt4 (List.mem_of_getElem? (i := 18) rfl)) rfl
theorem tw4_19 : (.methodLink RL 57 yX8_first : Cond) ∈ wsL_law := tb_in (tbt4 (List.mem_of_getElem? (i := 19) rfl)) rfl
theorem tw4_20 : (.instanceMethod yX8_first : Cond) ∈ wsL_law := tb_in (tbt4 (List.mem_of_getElem? (i := 20) rfl)) rfl
theorem tw4_21 : (.selects RX8 yX8_first yX8_first : Cond) ∈ wsL_law := tb_in (tbt4 (List.mem_of_getElem? (i := 21) rfl)) rfl
theorem tw4_22 : (.code yX8_first cX8_first 3 (some .int) : Cond) ∈ wsL_law := tb_in (tbt4 (List.mem_of_getElem? (i := 22) rfl)) rfl
theorem tw4_23 : (.methodLink RL 61 yX8_find : Cond) ∈ wsL_law := tb_in (tbt4 (List.mem_of_getElem? (i := 23) rfl)) rfl
theorem tw4_24 : (.instanceMethod yX8_find : Cond) ∈ wsL_law := tb_in (tbt4 (List.mem_of_getElem? (i := 24) rfl)) rfl
theorem tw4_25 : (.selects RX8 yX8_find yX8_find : Cond) ∈ wsL_law := tb_in (tbt4 (List.mem_of_getElem? (i := 25) rfl)) rfl
theorem tw4_26 : (.code yX8_find cX8_find 4 (some .int) : Cond) ∈ wsL_law := tb_in (tbt4 (List.mem_of_getElem? (i := 26) rfl)) rfl
theorem tw4_27 : (.methodLink RL 65 yX8_sort : Cond) ∈ wsL_law := tb_in (tbt4 (List.mem_of_getElem? (i := 27) rfl)) rfl
theorem tw4_28 : (.instanceMethod yX8_sort : Cond) ∈ wsL_law := tb_in (tbt4 (List.mem_of_getElem? (i := 28) rfl)) rfl
theorem tw4_29 : (.selects RX8 yX8_sort yX8_sort : Cond) ∈ wsL_law := tb_in (tbt4 (List.mem_of_getElem? (i := 29) rfl)) rfl
theorem tw4_30 : (.code yX8_sort cX8_sort 5 (some .int) : Cond) ∈ wsL_law := tb_in (tbt4 (List.mem_of_getElem? (i := 30) rfl)) rfl
theorem tw4_31 : (.methodLink RX8 188 yX8_merge : Cond) ∈ wsL_law := tb_in (tbt4 (List.mem_of_getElem? (i := 31) rfl)) rfl
theorem tw4_33 : (.instanceMethod yX8_merge : Cond) ∈ wsL_law := tb_in (tbt4 (List.mem_of_getElem? (i := 33) rfl)) rfl
theorem tw4_34 : (.code yX8_merge cX8_merge 9 none : Cond) ∈ wsL_law := tb_in (tbt4 (List.mem_of_getElem? (i := 34) rfl)) rfl
theorem tw4_35 : (.methodLink RL 69 yX8_filter : Cond) ∈ wsL_law := tb_in (tbt4 (List.mem_of_getElem? (i := 35) rfl)) rfl
theorem tw4_36 : (.instanceMethod yX8_filter : Cond) ∈ wsL_law := tb_in (tbt4 (List.mem_of_getElem? (i := 36) rfl)) rfl
theorem tw4_37 : (.selects RX8 yX8_filter yX8_filter : Cond) ∈ wsL_law := tb_in (tbt4 (List.mem_of_getElem? (i := 37) rfl)) rfl
theorem tw4_38 : (.code yX8_filter cX8_filter 7 (some .int) : Cond) ∈ wsL_law := tb_in (tbt4 (List.mem_of_getElem? (i := 38) rfl)) rfl
theorem tw4_39 : (.methodLink RX8 192 yX8_isKept : Cond) ∈ wsL_law := tb_in (tbt4 (List.mem_of_getElem? (i := 39) rfl)) rfl
theorem tw4_41 : (.instanceMethod yX8_isKept : Cond) ∈ wsL_law := tb_in (tbt4 (List.mem_of_getElem? (i := 41) rfl)) rfl
theorem tw4_42 : (.code yX8_isKept cX8_isKept 4 (some .boolean) : Cond) ∈ wsL_law := tb_in (tbt4 (List.mem_of_getElem? (i := 42) rfl)) rfl
theorem tw4_43 : (.methodLink RL 73 yX8_change : Cond) ∈ wsL_law := tb_in (tbt4 (List.mem_of_getElem? (i := 43) rfl)) rfl
theorem tw4_44 : (.instanceMethod yX8_change : Cond) ∈ wsL_law := tb_in (tbt4 (List.mem_of_getElem? (i := 44) rfl)) rfl
theorem tw4_45 : (.selects RX8 yX8_change yX8_change : Cond) ∈ wsL_law := tb_in (tbt4 (List.mem_of_getElem? (i := 45) rfl)) rfl
theorem tw4_46 : (.code yX8_change cX8_change 6 (some .int) : Cond) ∈ wsL_law := tb_in (tbt4 (List.mem_of_getElem? (i := 46) rfl)) rfl
theorem tw4_47 : (.methodLink RL 77 yX8_all : Cond) ∈ wsL_law := tb_in (tbt4 (List.mem_of_getElem? (i := 47) rfl)) rfl
theorem tw4_48 : (.instanceMethod yX8_all : Cond) ∈ wsL_law := tb_in (tbt4 (List.mem_of_getElem? (i := 48) rfl)) rfl
theorem tw4_49 : (.selects RX8 yX8_all yX8_all : Cond) ∈ wsL_law := tb_in (tbt4 (List.mem_of_getElem? (i := 49) rfl)) rfl
theorem tw4_50 : (.code yX8_all cX8_all 6 (some .int) : Cond) ∈ wsL_law := tb_in (tbt4 (List.mem_of_getElem? (i := 50) rfl)) rfl
theorem tw4_51 : (.methodLink RL 81 yX8_at : Cond) ∈ wsL_law := tb_in (tbt4 (List.mem_of_getElem? (i := 51) rfl)) rfl
theorem tw4_52 : (.instanceMethod yX8_at : Cond) ∈ wsL_law := tb_in (tbt4 (List.mem_of_getElem? (i := 52) rfl)) rfl
theorem tw4_53 : (.selects RX8 yX8_at yX8_at : Cond) ∈ wsL_law := tb_in (tbt4 (List.mem_of_getElem? (i := 53) rfl)) rfl
theorem tw4_54 : (.code yX8_at cX8_at 3 (some .int) : Cond) ∈ wsL_law := tb_in (tbt4 (List.mem_of_getElem? (i := 54) rfl)) rfl
theorem tw4_55 : (.methodLink RL 85 yX8_whole : Cond) ∈ wsL_law := tb_in (tbt4 (List.mem_of_getElem? (i := 55) rfl)) rfl
theorem tw4_56 : (.instanceMethod yX8_whole : Cond) ∈ wsL_law := tb_in (tbt4 (List.mem_of_getElem? (i := 56) rfl)) rfl
theorem tw4_57 : (.selects RX8 yX8_whole yX8_whole : Cond) ∈ wsL_law := tb_in (tbt4 (List.mem_of_getElem? (i := 57) rfl)) rfl
theorem tw4_58 : (.code yX8_whole cX8_whole 6 (some .int) : Cond) ∈ wsL_law := tb_in (tbt4 (List.mem_of_getElem? (i := 58) rfl)) rfl
theorem tw4_59 : (.constantLong RX8 195 (3) : Cond) ∈ wsL_law := tb_in (tbt4 (List.mem_of_getElem? (i := 59) rfl)) rfl
theorem tw4_60 : (.methodLink RL 89 yX8_same : Cond) ∈ wsL_law := tb_in (tbt4 (List.mem_of_getElem? (i := 60) rfl)) rfl
theorem tw4_61 : (.instanceMethod yX8_same : Cond) ∈ wsL_law := tb_in (tbt4 (List.mem_of_getElem? (i := 61) rfl)) rfl
theorem tw4_62 : (.selects RX8 yX8_same yX8_same : Cond) ∈ wsL_law := tb_in (tbt4 (List.mem_of_getElem? (i := 62) rfl)) rfl
theorem tw4_63 : (.code yX8_same cX8_same 5 (some .int) : Cond) ∈ wsL_law := tb_in (tbt4 (List.mem_of_getElem? (i := 63) rfl)) rfl
theorem tw4_64 : (.methodLink RL 93 yX8_thrown : Cond) ∈ wsL_law := tb_in (tbt4 (List.mem_of_getElem? (i := 64) rfl)) rfl
theorem tw4_65 : (.instanceMethod yX8_thrown : Cond) ∈ wsL_law := tb_in (tbt4 (List.mem_of_getElem? (i := 65) rfl)) rfl
theorem tw4_66 : (.selects RX8 yX8_thrown yX8_thrown : Cond) ∈ wsL_law := tb_in (tbt4 (List.mem_of_getElem? (i := 66) rfl)) rfl
theorem tw4_67 : (.code yX8_thrown cX8_thrown 2 (some .int) : Cond) ∈ wsL_law := tb_in (tbt4 (List.mem_of_getElem? (i := 67) rfl)) rfl
theorem tw4_68 : (.methodLink RL 97 yX8_count : Cond) ∈ wsL_law := tb_in (tbt4 (List.mem_of_getElem? (i := 68) rfl)) rfl
theorem tw4_69 : (.instanceMethod yX8_count : Cond) ∈ wsL_law := tb_in (tbt4 (List.mem_of_getElem? (i := 69) rfl)) rfl
theorem tw4_70 : (.selects RX8 yX8_count yX8_count : Cond) ∈ wsL_law := tb_in (tbt4 (List.mem_of_getElem? (i := 70) rfl)) rfl
theorem tw4_71 : (.code yX8_count cX8_count 2 (some .int) : Cond) ∈ wsL_law := tb_in (tbt4 (List.mem_of_getElem? (i := 71) rfl)) rfl
theorem tw_obj : (.code objectInit ⟨#[0xb1]⟩ 1 none : Cond) ∈ wsL_law := tb_in (tbt1 (List.mem_of_getElem? (i := 19) rfl)) rfl
theorem tp1_0 : (.selects RX7 yX7_hasTray yX7_hasTray : Cond) ∈ wsL_law := tb_in (List.mem_append_left _ (List.mem_map.mpr ⟨(yX7_hasTray, 5), (List.mem_append_left _ (List.mem_of_getElem? (i := 0) rfl)), rfl⟩)) rfl
theorem tp1_1 : (.selects RX7 yX7_placeOnDraft yX7_placeOnDraft : Cond) ∈ wsL_law := tb_in (List.mem_append_left _ (List.mem_map.mpr ⟨(yX7_placeOnDraft, 5), (List.mem_append_left _ (List.mem_of_getElem? (i := 1) rfl)), rfl⟩)) rfl
theorem tp1_2 : (.selects RX1 yX1_beginCall yX1_beginCall : Cond) ∈ wsL_law := tb_in (List.mem_append_left _ (List.mem_map.mpr ⟨(yX1_beginCall, 5), (List.mem_append_left _ (List.mem_of_getElem? (i := 2) rfl)), rfl⟩)) rfl
theorem tp1_3 : (.selects RX7 yX7_keepDraft yX7_keepDraft : Cond) ∈ wsL_law := tb_in (List.mem_append_left _ (List.mem_map.mpr ⟨(yX7_keepDraft, 5), (List.mem_append_left _ (List.mem_of_getElem? (i := 3) rfl)), rfl⟩)) rfl
theorem tp1_4 : (.selects RX7 yX7_removeOnDraft yX7_removeOnDraft : Cond) ∈ wsL_law := tb_in (List.mem_append_left _ (List.mem_map.mpr ⟨(yX7_removeOnDraft, 5), (List.mem_append_left _ (List.mem_of_getElem? (i := 4) rfl)), rfl⟩)) rfl
theorem tp1_5 : (.selects RX7 yX7_sortDraftAnew yX7_sortDraftAnew : Cond) ∈ wsL_law := tb_in (List.mem_append_left _ (List.mem_map.mpr ⟨(yX7_sortDraftAnew, 5), (List.mem_append_left _ (List.mem_of_getElem? (i := 5) rfl)), rfl⟩)) rfl
theorem tp1_6 : (.selects RX7 yX7_judgeOntoDraft yX7_judgeOntoDraft : Cond) ∈ wsL_law := tb_in (List.mem_append_left _ (List.mem_map.mpr ⟨(yX7_judgeOntoDraft, 5), (List.mem_append_left _ (List.mem_of_getElem? (i := 6) rfl)), rfl⟩)) rfl
theorem tp1_7 : (.selects RX1 yX1_numberOf yX1_numberOf : Cond) ∈ wsL_law := tb_in (List.mem_append_left _ (List.mem_map.mpr ⟨(yX1_numberOf, 5), (List.mem_append_left _ (List.mem_of_getElem? (i := 7) rfl)), rfl⟩)) rfl
theorem tp1_8 : (.selects RX7 yX7_placeAllOnDraft yX7_placeAllOnDraft : Cond) ∈ wsL_law := tb_in (List.mem_append_left _ (List.mem_map.mpr ⟨(yX7_placeAllOnDraft, 5), (List.mem_append_left _ (List.mem_of_getElem? (i := 8) rfl)), rfl⟩)) rfl
theorem tp1_9 : (.selects RX7 yX7_changeCards yX7_changeCards : Cond) ∈ wsL_law := tb_in (List.mem_append_left _ (List.mem_map.mpr ⟨(yX7_changeCards, 5), (List.mem_append_left _ (List.mem_of_getElem? (i := 9) rfl)), rfl⟩)) rfl
theorem tp1_10 : (.selects RX7 yX7_mergeIntoDraft yX7_mergeIntoDraft : Cond) ∈ wsL_law := tb_in (List.mem_append_left _ (List.mem_map.mpr ⟨(yX7_mergeIntoDraft, 5), (List.mem_append_left _ (List.mem_of_getElem? (i := 10) rfl)), rfl⟩)) rfl
theorem tp1_11 : (.selects RX7 yX7_isWhole yX7_isWhole : Cond) ∈ wsL_law := tb_in (List.mem_append_left _ (List.mem_map.mpr ⟨(yX7_isWhole, 5), (List.mem_append_left _ (List.mem_of_getElem? (i := 11) rfl)), rfl⟩)) rfl
theorem tp1_12 : (.selects RX8 yX8_isCard yX8_isCard : Cond) ∈ wsL_law := tb_in (List.mem_append_left _ (List.mem_map.mpr ⟨(yX8_isCard, 29), (List.mem_append_left _ (List.mem_of_getElem? (i := 12) rfl)), rfl⟩)) rfl
theorem tp1_13 : (.selects RX8 yX8_isHook yX8_isHook : Cond) ∈ wsL_law := tb_in (List.mem_append_left _ (List.mem_map.mpr ⟨(yX8_isHook, 29), (List.mem_append_left _ (List.mem_of_getElem? (i := 13) rfl)), rfl⟩)) rfl
theorem tp1_14 : (.selects RX8 yX8_planOf yX8_planOf : Cond) ∈ wsL_law := tb_in (List.mem_append_left _ (List.mem_map.mpr ⟨(yX8_planOf, 29), (List.mem_append_left _ (List.mem_of_getElem? (i := 14) rfl)), rfl⟩)) rfl
theorem tp1_15 : (.selects RX8 yX8_dropPlan yX8_dropPlan : Cond) ∈ wsL_law := tb_in (List.mem_append_left _ (List.mem_map.mpr ⟨(yX8_dropPlan, 29), (List.mem_append_left _ (List.mem_of_getElem? (i := 15) rfl)), rfl⟩)) rfl
theorem tp2_0 : (.selects RX8 yX8_compares yX8_compares : Cond) ∈ wsL_law := tb_in (List.mem_append_left _ (List.mem_map.mpr ⟨(yX8_compares, 29), (List.mem_append_right _ (List.mem_append_left _ (List.mem_of_getElem? (i := 0) rfl))), rfl⟩)) rfl
theorem tp2_1 : (.selects RX8 yX8_isTray yX8_isTray : Cond) ∈ wsL_law := tb_in (List.mem_append_left _ (List.mem_map.mpr ⟨(yX8_isTray, 29), (List.mem_append_right _ (List.mem_append_left _ (List.mem_of_getElem? (i := 1) rfl))), rfl⟩)) rfl
theorem tp2_2 : (.selects RX8 yX8_beginAct yX8_beginAct : Cond) ∈ wsL_law := tb_in (List.mem_append_left _ (List.mem_map.mpr ⟨(yX8_beginAct, 29), (List.mem_append_right _ (List.mem_append_left _ (List.mem_of_getElem? (i := 2) rfl))), rfl⟩)) rfl
theorem tp2_3 : (.selects RX8 yX8_load yX8_load : Cond) ∈ wsL_law := tb_in (List.mem_append_left _ (List.mem_map.mpr ⟨(yX8_load, 29), (List.mem_append_right _ (List.mem_append_left _ (List.mem_of_getElem? (i := 3) rfl))), rfl⟩)) rfl
theorem tp2_4 : (.selects RX8 yX8_comes yX8_comes : Cond) ∈ wsL_law := tb_in (List.mem_append_left _ (List.mem_map.mpr ⟨(yX8_comes, 29), (List.mem_append_right _ (List.mem_append_left _ (List.mem_of_getElem? (i := 4) rfl))), rfl⟩)) rfl
theorem tp2_5 : (.selects RX8 yX8_halving yX8_halving : Cond) ∈ wsL_law := tb_in (List.mem_append_left _ (List.mem_map.mpr ⟨(yX8_halving, 29), (List.mem_append_right _ (List.mem_append_left _ (List.mem_of_getElem? (i := 5) rfl))), rfl⟩)) rfl
theorem tp2_6 : (.selects RX8 yX8_isAhead yX8_isAhead : Cond) ∈ wsL_law := tb_in (List.mem_append_left _ (List.mem_map.mpr ⟨(yX8_isAhead, 29), (List.mem_append_right _ (List.mem_append_left _ (List.mem_of_getElem? (i := 6) rfl))), rfl⟩)) rfl
theorem tp2_7 : (.selects RX8 yX8_begins yX8_begins : Cond) ∈ wsL_law := tb_in (List.mem_append_left _ (List.mem_map.mpr ⟨(yX8_begins, 29), (List.mem_append_right _ (List.mem_append_left _ (List.mem_of_getElem? (i := 7) rfl))), rfl⟩)) rfl
theorem tp2_8 : (.selects RX8 yX8_truth yX8_truth : Cond) ∈ wsL_law := tb_in (List.mem_append_left _ (List.mem_map.mpr ⟨(yX8_truth, 29), (List.mem_append_right _ (List.mem_append_left _ (List.mem_of_getElem? (i := 8) rfl))), rfl⟩)) rfl
theorem tp2_9 : (.selects RX8 yX8_insert yX8_insert : Cond) ∈ wsL_law := tb_in (List.mem_append_left _ (List.mem_map.mpr ⟨(yX8_insert, 29), (List.mem_append_right _ (List.mem_append_left _ (List.mem_of_getElem? (i := 9) rfl))), rfl⟩)) rfl
theorem tp2_10 : (.selects RX8 yX8_up yX8_up : Cond) ∈ wsL_law := tb_in (List.mem_append_left _ (List.mem_map.mpr ⟨(yX8_up, 29), (List.mem_append_right _ (List.mem_append_left _ (List.mem_of_getElem? (i := 10) rfl))), rfl⟩)) rfl
theorem tp2_11 : (.selects RX8 yX8_turn yX8_turn : Cond) ∈ wsL_law := tb_in (List.mem_append_left _ (List.mem_map.mpr ⟨(yX8_turn, 29), (List.mem_append_right _ (List.mem_append_left _ (List.mem_of_getElem? (i := 11) rfl))), rfl⟩)) rfl
theorem tp2_12 : (.selects RX8 yX8_ends yX8_ends : Cond) ∈ wsL_law := tb_in (List.mem_append_left _ (List.mem_map.mpr ⟨(yX8_ends, 29), (List.mem_append_right _ (List.mem_append_left _ (List.mem_of_getElem? (i := 12) rfl))), rfl⟩)) rfl
theorem tp2_13 : (.selects RX8 yX8_give yX8_give : Cond) ∈ wsL_law := tb_in (List.mem_append_left _ (List.mem_map.mpr ⟨(yX8_give, 29), (List.mem_append_right _ (List.mem_append_left _ (List.mem_of_getElem? (i := 13) rfl))), rfl⟩)) rfl
theorem tp2_14 : (.selects RX8 yX8_goes yX8_goes : Cond) ∈ wsL_law := tb_in (List.mem_append_left _ (List.mem_map.mpr ⟨(yX8_goes, 29), (List.mem_append_right _ (List.mem_append_left _ (List.mem_of_getElem? (i := 14) rfl))), rfl⟩)) rfl
theorem tp2_15 : (.selects RX8 yX8_remove yX8_remove : Cond) ∈ wsL_law := tb_in (List.mem_append_left _ (List.mem_map.mpr ⟨(yX8_remove, 29), (List.mem_append_right _ (List.mem_append_left _ (List.mem_of_getElem? (i := 15) rfl))), rfl⟩)) rfl
theorem tp3_0 : (.selects RX8 yX8_down yX8_down : Cond) ∈ wsL_law := tb_in (List.mem_append_left _ (List.mem_map.mpr ⟨(yX8_down, 29), (List.mem_append_right _ (List.mem_append_right _ (List.mem_of_getElem? (i := 0) rfl))), rfl⟩)) rfl
theorem tp3_1 : (.selects RX8 yX8_merge yX8_merge : Cond) ∈ wsL_law := tb_in (List.mem_append_left _ (List.mem_map.mpr ⟨(yX8_merge, 29), (List.mem_append_right _ (List.mem_append_right _ (List.mem_of_getElem? (i := 1) rfl))), rfl⟩)) rfl
theorem tp3_2 : (.selects RX8 yX8_isKept yX8_isKept : Cond) ∈ wsL_law := tb_in (List.mem_append_left _ (List.mem_map.mpr ⟨(yX8_isKept, 29), (List.mem_append_right _ (List.mem_append_right _ (List.mem_of_getElem? (i := 2) rfl))), rfl⟩)) rfl
theorem inlX0 : ∀ w ∈ wsX00, w ∈ wsL_law := by
  intro w hw
  obtain ⟨k, hk, rfl⟩ := List.mem_map.mp hw
  have hk := List.mem_range.mp hk
  match k, hk with
  | 0, _ => exact tw1_36
  | 1, _ => exact tw1_38
  | 2, _ => exact tw1_40
  | k + 3, hk => exact absurd hk (by omega)
theorem inlX1 : ∀ w ∈ wsX10, w ∈ wsL_law := by
  intro w hw
  obtain ⟨k, hk, rfl⟩ := List.mem_map.mp hw
  have hk := List.mem_range.mp hk
  match k, hk with
  | 0, _ => exact tw1_132
  | 1, _ => exact tw1_134
  | 2, _ => exact tw1_136
  | 3, _ => exact tw1_138
  | 4, _ => exact tw1_140
  | k + 5, hk => exact absurd hk (by omega)
theorem inlX2 : ∀ w ∈ wsX20, w ∈ wsL_law := by
  intro w hw
  obtain ⟨k, hk, rfl⟩ := List.mem_map.mp hw
  have hk := List.mem_range.mp hk
  match k, hk with
  | 0, _ => exact tw1_112
  | 1, _ => exact tw1_114
  | 2, _ => exact tw1_116
  | 3, _ => exact tw1_118
  | 4, _ => exact tw1_120
  | k + 5, hk => exact absurd hk (by omega)
theorem inlX3 : ∀ w ∈ wsX30, w ∈ wsL_law := by
  intro w hw
  obtain ⟨k, hk, rfl⟩ := List.mem_map.mp hw
  have hk := List.mem_range.mp hk
  match k, hk with
  | 0, _ => exact tw1_82
  | 1, _ => exact tw1_84
  | 2, _ => exact tw1_86
  | 3, _ => exact tw1_88
  | 4, _ => exact tw1_90
  | 5, _ => exact tw1_92
  | k + 6, hk => exact absurd hk (by omega)
theorem inlX4 : ∀ w ∈ wsX40, w ∈ wsL_law := by
  intro w hw
  obtain ⟨k, hk, rfl⟩ := List.mem_map.mp hw
  have hk := List.mem_range.mp hk
  match k, hk with
  | 0, _ => exact tw1_55
  | 1, _ => exact tw1_57
  | 2, _ => exact tw1_59
  | 3, _ => exact tw1_61
  | k + 4, hk => exact absurd hk (by omega)
theorem inlX5 : ∀ w ∈ wsX50, w ∈ wsL_law := by
  intro w hw
  obtain ⟨k, hk, rfl⟩ := List.mem_map.mp hw
  have hk := List.mem_range.mp hk
  match k, hk with
  | 0, _ => exact tw1_159
  | 1, _ => exact tw1_161
  | k + 2, hk => exact absurd hk (by omega)
theorem inlX6 : ∀ w ∈ wsX60, w ∈ wsL_law := by
  intro w hw
  obtain ⟨k, hk, rfl⟩ := List.mem_map.mp hw
  have hk := List.mem_range.mp hk
  match k, hk with
  | 0, _ => exact tw1_170
  | 1, _ => exact tw1_172
  | 2, _ => exact tw1_174
  | k + 3, hk => exact absurd hk (by omega)
theorem inlX7 : ∀ w ∈ wsX70, w ∈ wsL_law := by
  intro w hw
  obtain ⟨k, hk, rfl⟩ := List.mem_map.mp hw
  have hk := List.mem_range.mp hk
  match k, hk with
  | 0, _ => exact tw1_184
  | 1, _ => exact tw1_186
  | 2, _ => exact tw1_188
  | 3, _ => exact tw1_190
  | 4, _ => exact tw1_192
  | k + 5, hk => exact absurd hk (by omega)
theorem inlX8 : ∀ w ∈ wsX80, w ∈ wsL_law := by
  intro w hw
  obtain ⟨k, hk, rfl⟩ := List.mem_map.mp hw
  have hk := List.mem_range.mp hk
  match k, hk with
  | 0, _ => exact tw3_69
  | 1, _ => exact tw3_71
  | 2, _ => exact tw3_73
  | 3, _ => exact tw3_75
  | 4, _ => exact tw3_77
  | 5, _ => exact tw3_79
  | 6, _ => exact tw3_81
  | 7, _ => exact tw3_83
  | 8, _ => exact tw3_85
  | 9, _ => exact tw3_87
  | 10, _ => exact tw3_89
  | 11, _ => exact tw3_91
  | 12, _ => exact tw3_93
  | 13, _ => exact tw3_95
  | 14, _ => exact tw3_97
  | 15, _ => exact tw3_99
  | 16, _ => exact tw3_101
  | 17, _ => exact tw3_103
  | 18, _ => exact tw3_105
  | 19, _ => exact tw3_107
  | 20, _ => exact tw3_109
  | 21, _ => exact tw3_111
  | 22, _ => exact tw3_113
  | 23, _ => exact tw3_115
  | 24, _ => exact tw3_117
  | 25, _ => exact tw3_119
  | 26, _ => exact tw3_121
  | 27, _ => exact tw3_123
  | 28, _ => exact tw3_125
  | k + 29, hk => exact absurd hk (by omega)
/-- what the tables tell of nest mates -/
def tb_nest : List Cond := [
  .methodLinkNest "HookTrays$Desk" 11 ⟨"HookTrays$Deck", "<init>", "()V"⟩ "HookTrays",
  .fieldLinkNest "HookTrays" 165 "HookTrays$Deck" "size" "I" "HookTrays",
  .methodLinkNest "HookTrays$Desk" 20 ⟨"HookTrays$Plans", "<init>", "()V"⟩ "HookTrays",
  .fieldLinkNest "HookTrays" 199 "HookTrays$Plans" "size" "I" "HookTrays",
  .methodLinkNest "HookTrays$Desk" 27 ⟨"HookTrays$LatestAct", "<init>", "()V"⟩ "HookTrays",
  .fieldLinkNest "HookTrays" 184 "HookTrays$LatestAct" "failure" "I" "HookTrays",
  .fieldLinkNest "HookTrays" 189 "HookTrays$LatestAct" "hook" "I" "HookTrays",
  .fieldLinkNest "HookTrays" 190 "HookTrays$LatestAct" "call" "I" "HookTrays",
  .fieldLinkNest "HookTrays" 193 "HookTrays$LatestAct" "handled" "I" "HookTrays",
  .fieldLinkNest "HookTrays" 200 "HookTrays$LatestAct" "actsEver" "I" "HookTrays",
  .fieldLinkNest "HookTrays" 203 "HookTrays$LatestAct" "actsThrownAt" "I" "HookTrays",
  .methodLinkNest "HookTrays$Desk" 42 ⟨"HookTrays$Hook", "<init>", "()V"⟩ "HookTrays",
  .fieldLinkNest "HookTrays$Desk" 51 "HookTrays$Hook" "kind" "I" "HookTrays",
  .fieldLinkNest "HookTrays$Desk" 95 "HookTrays$Hook" "a" "I" "HookTrays",
  .fieldLinkNest "HookTrays$Desk" 58 "HookTrays$Hook" "calls" "I" "HookTrays",
  .fieldLinkNest "HookTrays$Desk" 61 "HookTrays$Hook" "latestCalls" "I" "HookTrays",
  .fieldLinkNest "HookTrays$Desk" 64 "HookTrays$Hook" "misuses" "I" "HookTrays",
  .fieldLinkNest "HookTrays" 41 "HookTrays$Desk" "deck" "LHookTrays$Deck;" "HookTrays",
  .fieldLinkNest "HookTrays" 70 "HookTrays$Desk" "plans" "LHookTrays$Plans;" "HookTrays",
  .fieldLinkNest "HookTrays" 180 "HookTrays$Desk" "latest" "LHookTrays$LatestAct;" "HookTrays",
  .fieldLinkNest "HookTrays" 196 "HookTrays$Desk" "hookCount" "I" "HookTrays",
  .methodLinkNest "HookTrays" 26 ⟨"HookTrays$Tray", "<init>", "()V"⟩ "HookTrays",
  .methodLinkNest "HookTrays$Tray" 11 ⟨"HookTrays$Row", "<init>", "()V"⟩ "HookTrays",
  .fieldLinkNest "HookTrays" 115 "HookTrays$Row" "size" "I" "HookTrays",
  .fieldLinkNest "HookTrays" 112 "HookTrays$Tray" "row" "LHookTrays$Row;" "HookTrays",
  .fieldLinkNest "HookTrays" 142 "HookTrays$Tray" "kind" "I" "HookTrays",
  .fieldLinkNest "HookTrays" 145 "HookTrays$Tray" "hook" "I" "HookTrays",
  .methodLinkNest "HookTrays" 29 ⟨"HookTrays$Row", "<init>", "()V"⟩ "HookTrays"]
theorem tb_nest_in : ∀ w ∈ tb_nest, w ∈ lw_tbl := by
  intro w hw
  simp only [tb_nest, List.mem_cons, List.not_mem_nil, or_false] at hw
  rcases hw with rfl | rfl | rfl | rfl | rfl | rfl | rfl | rfl | rfl | rfl | rfl | rfl | rfl | rfl | rfl | rfl | rfl | rfl | rfl | rfl | rfl | rfl | rfl | rfl | rfl | rfl | rfl | rfl
  · exact tbt1 (List.mem_of_getElem? (i := 28) rfl)
  · exact tbt1 (List.mem_of_getElem? (i := 35) rfl)
  · exact tbt1 (List.mem_of_getElem? (i := 46) rfl)
  · exact tbt1 (List.mem_of_getElem? (i := 54) rfl)
  · exact tbt1 (List.mem_of_getElem? (i := 66) rfl)
  · exact tbt1 (List.mem_of_getElem? (i := 71) rfl)
  · exact tbt1 (List.mem_of_getElem? (i := 73) rfl)
  · exact tbt1 (List.mem_of_getElem? (i := 75) rfl)
  · exact tbt1 (List.mem_of_getElem? (i := 77) rfl)
  · exact tbt1 (List.mem_of_getElem? (i := 79) rfl)
  · exact tbt1 (List.mem_of_getElem? (i := 81) rfl)
  · exact tbt1 (List.mem_of_getElem? (i := 98) rfl)
  · exact tbt1 (List.mem_of_getElem? (i := 103) rfl)
  · exact tbt1 (List.mem_of_getElem? (i := 105) rfl)
  · exact tbt1 (List.mem_of_getElem? (i := 107) rfl)
  · exact tbt1 (List.mem_of_getElem? (i := 109) rfl)
  · exact tbt1 (List.mem_of_getElem? (i := 111) rfl)
  · exact tbt1 (List.mem_of_getElem? (i := 124) rfl)
  · exact tbt1 (List.mem_of_getElem? (i := 126) rfl)
  · exact tbt1 (List.mem_of_getElem? (i := 128) rfl)
  · exact tbt1 (List.mem_of_getElem? (i := 131) rfl)
  · exact tbt1 (List.mem_of_getElem? (i := 146) rfl)
  · exact tbt1 (List.mem_of_getElem? (i := 152) rfl)
  · exact tbt1 (List.mem_of_getElem? (i := 158) rfl)
  · exact tbt1 (List.mem_of_getElem? (i := 165) rfl)
  · exact tbt1 (List.mem_of_getElem? (i := 167) rfl)
  · exact tbt1 (List.mem_of_getElem? (i := 169) rfl)
  · exact tbt1 (List.mem_of_getElem? (i := 178) rfl)
def tb_isNest : Cond → Bool
  | .fieldLinkNest .. => true
  | .methodLinkNest .. => true
  | _ => false
theorem tb_nest_ok : tb_nest.all tb_isNest = true := by decide +kernel
theorem tn_0 : (.methodLinkNest "HookTrays$Desk" 11 ⟨"HookTrays$Deck", "<init>", "()V"⟩ "HookTrays" : Cond) ∈ tb_nest := List.mem_of_getElem? (i := 0) rfl
theorem tn_1 : (.fieldLinkNest "HookTrays" 165 "HookTrays$Deck" "size" "I" "HookTrays" : Cond) ∈ tb_nest := List.mem_of_getElem? (i := 1) rfl
theorem tn_2 : (.methodLinkNest "HookTrays$Desk" 20 ⟨"HookTrays$Plans", "<init>", "()V"⟩ "HookTrays" : Cond) ∈ tb_nest := List.mem_of_getElem? (i := 2) rfl
theorem tn_3 : (.fieldLinkNest "HookTrays" 199 "HookTrays$Plans" "size" "I" "HookTrays" : Cond) ∈ tb_nest := List.mem_of_getElem? (i := 3) rfl
theorem tn_4 : (.methodLinkNest "HookTrays$Desk" 27 ⟨"HookTrays$LatestAct", "<init>", "()V"⟩ "HookTrays" : Cond) ∈ tb_nest := List.mem_of_getElem? (i := 4) rfl
theorem tn_5 : (.fieldLinkNest "HookTrays" 184 "HookTrays$LatestAct" "failure" "I" "HookTrays" : Cond) ∈ tb_nest := List.mem_of_getElem? (i := 5) rfl
theorem tn_6 : (.fieldLinkNest "HookTrays" 189 "HookTrays$LatestAct" "hook" "I" "HookTrays" : Cond) ∈ tb_nest := List.mem_of_getElem? (i := 6) rfl
theorem tn_7 : (.fieldLinkNest "HookTrays" 190 "HookTrays$LatestAct" "call" "I" "HookTrays" : Cond) ∈ tb_nest := List.mem_of_getElem? (i := 7) rfl
theorem tn_8 : (.fieldLinkNest "HookTrays" 193 "HookTrays$LatestAct" "handled" "I" "HookTrays" : Cond) ∈ tb_nest := List.mem_of_getElem? (i := 8) rfl
theorem tn_9 : (.fieldLinkNest "HookTrays" 200 "HookTrays$LatestAct" "actsEver" "I" "HookTrays" : Cond) ∈ tb_nest := List.mem_of_getElem? (i := 9) rfl
theorem tn_10 : (.fieldLinkNest "HookTrays" 203 "HookTrays$LatestAct" "actsThrownAt" "I" "HookTrays" : Cond) ∈ tb_nest := List.mem_of_getElem? (i := 10) rfl
theorem tn_11 : (.methodLinkNest "HookTrays$Desk" 42 ⟨"HookTrays$Hook", "<init>", "()V"⟩ "HookTrays" : Cond) ∈ tb_nest := List.mem_of_getElem? (i := 11) rfl
theorem tn_12 : (.fieldLinkNest "HookTrays$Desk" 51 "HookTrays$Hook" "kind" "I" "HookTrays" : Cond) ∈ tb_nest := List.mem_of_getElem? (i := 12) rfl
theorem tn_13 : (.fieldLinkNest "HookTrays$Desk" 95 "HookTrays$Hook" "a" "I" "HookTrays" : Cond) ∈ tb_nest := List.mem_of_getElem? (i := 13) rfl
theorem tn_14 : (.fieldLinkNest "HookTrays$Desk" 58 "HookTrays$Hook" "calls" "I" "HookTrays" : Cond) ∈ tb_nest := List.mem_of_getElem? (i := 14) rfl
theorem tn_15 : (.fieldLinkNest "HookTrays$Desk" 61 "HookTrays$Hook" "latestCalls" "I" "HookTrays" : Cond) ∈ tb_nest := List.mem_of_getElem? (i := 15) rfl
theorem tn_16 : (.fieldLinkNest "HookTrays$Desk" 64 "HookTrays$Hook" "misuses" "I" "HookTrays" : Cond) ∈ tb_nest := List.mem_of_getElem? (i := 16) rfl
theorem tn_17 : (.fieldLinkNest "HookTrays" 41 "HookTrays$Desk" "deck" "LHookTrays$Deck;" "HookTrays" : Cond) ∈ tb_nest := List.mem_of_getElem? (i := 17) rfl
theorem tn_18 : (.fieldLinkNest "HookTrays" 70 "HookTrays$Desk" "plans" "LHookTrays$Plans;" "HookTrays" : Cond) ∈ tb_nest := List.mem_of_getElem? (i := 18) rfl
theorem tn_19 : (.fieldLinkNest "HookTrays" 180 "HookTrays$Desk" "latest" "LHookTrays$LatestAct;" "HookTrays" : Cond) ∈ tb_nest := List.mem_of_getElem? (i := 19) rfl
theorem tn_20 : (.fieldLinkNest "HookTrays" 196 "HookTrays$Desk" "hookCount" "I" "HookTrays" : Cond) ∈ tb_nest := List.mem_of_getElem? (i := 20) rfl
theorem tn_21 : (.methodLinkNest "HookTrays" 26 ⟨"HookTrays$Tray", "<init>", "()V"⟩ "HookTrays" : Cond) ∈ tb_nest := List.mem_of_getElem? (i := 21) rfl
theorem tn_22 : (.methodLinkNest "HookTrays$Tray" 11 ⟨"HookTrays$Row", "<init>", "()V"⟩ "HookTrays" : Cond) ∈ tb_nest := List.mem_of_getElem? (i := 22) rfl
theorem tn_23 : (.fieldLinkNest "HookTrays" 115 "HookTrays$Row" "size" "I" "HookTrays" : Cond) ∈ tb_nest := List.mem_of_getElem? (i := 23) rfl
theorem tn_24 : (.fieldLinkNest "HookTrays" 112 "HookTrays$Tray" "row" "LHookTrays$Row;" "HookTrays" : Cond) ∈ tb_nest := List.mem_of_getElem? (i := 24) rfl
theorem tn_25 : (.fieldLinkNest "HookTrays" 142 "HookTrays$Tray" "kind" "I" "HookTrays" : Cond) ∈ tb_nest := List.mem_of_getElem? (i := 25) rfl
theorem tn_26 : (.fieldLinkNest "HookTrays" 145 "HookTrays$Tray" "hook" "I" "HookTrays" : Cond) ∈ tb_nest := List.mem_of_getElem? (i := 26) rfl
theorem tn_27 : (.methodLinkNest "HookTrays" 29 ⟨"HookTrays$Row", "<init>", "()V"⟩ "HookTrays" : Cond) ∈ tb_nest := List.mem_of_getElem? (i := 27) rfl
end
section
/-! The judgement V: where the machine is, in words of a memory (kind of cell, which one, slot), locals and stack; the heap is hidden. -/
abbrev Mu : Type := Nat → Nat → Nat → Int32
def mu_up (μ : Mu) (c k : Nat) (g : Nat → Int32) : Mu := fun c' k' => if c' = c ∧ k' = k then g else μ c' k'
def mu_st (μ : Mu) (c k j : Nat) (x : Int32) : Mu := mu_up μ c k (upd (μ c k) j x)
/-- a memory gets a name -/
def mst {α : Type} (x : Mu) (f : Mu → α) : α := f x
theorem mst_at {α : Type} {x y : Mu} {f : Mu → α} {r : α} (e : y = x) (h : mst x f = r) : f y = r := by subst e; exact h
theorem ite_some {α : Type} {c : Prop} [Decidable c] {A : Option α} {r : α} (h : (if c then A else none) = some r) : c ∧ A = some r := by
  by_cases hc : c
  · rw [if_pos hc] at h; exact ⟨hc, h⟩
  · rw [if_neg hc] at h; cases h
theorem bind_ex {α β : Type} {x : Option α} {f : α → Option β} {r : β} (h : x.bind f = some r) : ∃ a, x = some a ∧ f a = some r := by
  cases x with
  | none => cases h
  | some a => exact ⟨a, rfl, h⟩
theorem ite_t {α : Type} {c : Prop} [Decidable c] {A B r : α} (hc : c) (h : (if c then A else B) = r) : A = r := by rw [if_pos hc] at h; exact h
theorem ite_f {α : Type} {c : Prop} [Decidable c] {A B r : α} (hc : ¬ c) (h : (if c then A else B) = r) : B = r := by rw [if_neg hc] at h; exact h
theorem none_no {α : Type} {r : α} {P : Prop} (h : (none : Option α) = some r) : P := by cases h
def inb (i : Int32) (n : Nat) : Bool := decide (¬ (i < 0 ∨ n ≤ i.toNatClampNeg))
theorem inb_in {i : Int32} {n : Nat} (h : inb i n = true) : vp_in i n := by
  have h2 : ¬ (i < 0 ∨ n ≤ i.toNatClampNeg) := of_decide_eq_true h
  exact h2
theorem inb_lt {i : Int32} {n : Nat} (h : inb i n = true) : i.toNatClampNeg < n := Nat.not_le.mp fun q => (of_decide_eq_true h) (Or.inr q)
/-- loops: so many turns at most -/
def fuel : Nat := 2000
abbrev Gx : Type := Launch × va_G × List (ClassId × FieldType) × List (Nat × Nat) × (Nat → Nat → Nat) × (Nat → Nat → (Nat → Int32) → va_E) × va_W
def wd (G : Gx) (μ : Mu) : va_W := G.2.2.2.1.map (fun q => (G.2.2.2.2.1 q.1 q.2, G.2.2.2.2.2.1 q.1 q.2 (μ q.1 q.2))) ++ G.2.2.2.2.2.2
abbrev Cx : Type := Program × Env × Room × State × MethodId × Array Value × List Frame × Method × Code × (Nat → Prop) × (State → Prop) × Nat × Nat
def V (G : Gx) (X : Cx) (nL : Nat) (μ : Mu) (pc : Nat) (lv : List (Nat × Value)) (st : List Value) : Prop := match X with
  | (p, e, R, s, m, args, below, meth, c, A, Q, cells, slots) => ∀ (H : Heap) (locs : List Loc) (ls : Array Slot), va_P G.2.1 vwCl (wd G μ) H → va_S A s.heap H locs → lv_has ls nL lv → W p G.1 e R s m args below meth c H locs cells slots Q (F0 m pc ls st)
def KK (D : va_G) (tys : List (ClassId × FieldType)) (U : State) : Prop := va_K D vwCl tys U ∧ ∀ w ∈ tb_nest, va_Nw w U
def HX (G : Gx) (X : Cx) (cc : ByteArray) (nL : Nat) (own : String) (rm : Room) (ret : Option FieldType) : Prop := match X with
  | (p, _, R, s, m, args, _, meth, c, A, _, cells, slots) => p.tables.exec = Jvm.exec ∧ c.code = cc ∧ c.maxLocals = nL ∧ s.vm.findClass own = some m.cls ∧ (∀ w ∈ wsL_law, w.before args s = true) ∧ R = rm ∧ meth.sig.returnType = ret ∧ meth.locks = false ∧ KK G.2.1 G.2.2.1 s ∧ (∀ ν : Mu, va_D A (wd G ν)) ∧ cells + 0 ≤ R.cells ∧ slots + 0 ≤ R.slots
def QC (G : Gx) (A : Nat → Prop) (res : Option Value) (μ' : Mu) : Array Value → State → Outcome → State → Prop := fun _ st oc t => oc = .returned res ∧ va_P G.2.1 vwCl (wd G μ') t.heap ∧ va_F A st t
def HQ (G : Gx) (X : Cx) (res : Option Value) (μ' : Mu) : Prop := match X with
  | (_, _, _, s, _, args, below, _, _, A, Q, cells, slots) => Q = MQ below (QC G A res μ') args s 0 0 A ∧ cells = 0 ∧ slots = 0
def PC (G : Gx) (A : Nat → Prop) (μ : Mu) (U : State) : Prop := va_P G.2.1 vwCl (wd G μ) U.heap ∧ KK G.2.1 G.2.2.1 U ∧ ∀ ν : Mu, va_D A (wd G ν)
/-- a method's contract: with these arguments, from this memory, it answers so, and the memory is that -/
def CT (G : Gx) (y : MethodName) (ws : List Cond) (rm : Room) (av : List Value) (μ : Mu) (res : Option Value) (μ' : Mu) : Prop :=
  ∀ A : Nat → Prop, Met G.1 y ws rm (va_Pc av (PC G A μ)) (QC G A res μ') 0 0 A
theorem nest_tab {w : Cond} (h : tb_isNest w = true) : w.onTables = true := by
  cases w <;> first | rfl | (simp [tb_isNest] at h; done)
theorem nest_warm {w : Cond} (h : tb_isNest w = true) {s U : State} (hW : s.WarmedH U.vm) (hZ : va_Nw w s) : va_Nw w U := by
  cases w <;> first | (simp [tb_isNest] at h; done) | exact va_Nw.warmF hW hZ | exact va_Nw.warmM hW hZ
theorem KK.warm {D : va_G} {tys : List (ClassId × FieldType)} {s U : State} (hW : s.WarmedH U.vm) (h : KK D tys s) : KK D tys U :=
  ⟨va_K.moved hW.alike h.1, fun w hw => nest_warm (List.all_eq_true.mp tb_nest_ok w hw) hW (h.2 w hw)⟩
theorem KK.call {D : va_G} {tys : List (ClassId × FieldType)} {U : State} {g : JFrame} {mk : MethodId} {a : Array Value} (h : KK D tys U) : KK D tys (U.calling g mk a) :=
  ⟨va_K.moved (u := U) (U := U.calling g mk a) (Vm.Alike.refl U.vm) h.1, fun w hw => va_Nw.same (nest_tab (List.all_eq_true.mp tb_nest_ok w hw)) (u := U) (U := U.calling g mk a) rfl (h.2 w hw)⟩
theorem PC.blind {G : Gx} {A : Nat → Prop} {μ : Mu} {av : List Value} : FrameBlind (va_Pc av (PC G A μ)) := fun a U g mk q => ⟨q.1, q.2.1, q.2.2.1.call, q.2.2.2⟩
theorem wd_at {G : Gx} {μ : Mu} {q0 c k : Nat} (h : G.2.2.2.1[q0]? = some (c, k)) : (wd G μ)[q0]? = some (G.2.2.2.2.1 c k, G.2.2.2.2.2.1 c k (μ c k)) := by
  have hlt : q0 < G.2.2.2.1.length := (List.getElem?_eq_some_iff.mp h).1
  unfold wd
  rw [List.getElem?_append_left (by simpa using hlt), List.getElem?_map, h]
  rfl
theorem wd_len {G : Gx} {μ ν : Mu} {i : Nat} : (wd G μ)[i]?.map Prod.fst = (wd G ν)[i]?.map Prod.fst := by
  unfold wd
  by_cases h : i < G.2.2.2.1.length
  · rw [List.getElem?_append_left (by simpa using h), List.getElem?_append_left (by simpa using h), List.getElem?_map, List.getElem?_map, Option.map_map, Option.map_map]
    rfl
  · rw [List.getElem?_append_right (by simpa using h), List.getElem?_append_right (by simpa using h)]
    simp
theorem wd_set {G : Gx} {μ : Mu} {A : Nat → Prop} {q0 c k : Nat} (hD : va_D A (wd G μ)) (h : G.2.2.2.1[q0]? = some (c, k)) (g : Nat → Int32) : (wd G μ).set q0 (G.2.2.2.2.1 c k, G.2.2.2.2.2.1 c k g) = wd G (mu_up μ c k g) := by
  apply List.ext_getElem?
  intro i
  by_cases hi : i = q0
  · subst hi
    have hlt : i < (wd G μ).length := (List.getElem?_eq_some_iff.mp (wd_at (μ := μ) h)).1
    rw [wd_at (μ := mu_up μ c k g) h, List.getElem?_set_self hlt]
    simp [mu_up]
  · rw [List.getElem?_set_ne (Ne.symm hi)]
    by_cases hlt : i < G.2.2.2.1.length
    · obtain ⟨⟨c', k'⟩, hk'⟩ : ∃ q, G.2.2.2.1[i]? = some q := ⟨_, List.getElem?_eq_getElem hlt⟩
      have hne : ¬ (c' = c ∧ k' = k) := by
        rintro ⟨rfl, rfl⟩
        exact hi (hD.1 i q0 _ _ (wd_at hk') (wd_at h) rfl)
      rw [wd_at hk', wd_at hk']
      simp [mu_up, hne]
    · unfold wd
      rw [List.getElem?_append_right (by simpa using hlt), List.getElem?_append_right (by simpa using hlt)]
      simp

theorem r_iconst {G : Gx} {X : Cx} {nL : Nat} {μ : Mu} {pc : Nat} {lv : List (Nat × Value)} {st : List Value} {cc : ByteArray} {own : String} {rm : Room} {ret : Option FieldType} (h : HX G X cc nL own rm ret) {n : Int} {v : Int32} (d : decode cc pc = .ok (.iconst n, 1)) (hv : Int32.ofInt n = v) (k : V G X nL μ (pc + 1) lv (.int v :: st)) : V G X nL μ pc lv (st) := by
  obtain ⟨p, e, R, s, m, args, below, meth, c, A, Q, cells, slots⟩ := X
  obtain ⟨hx, hb, hml, hown, hts, hR, hr, hlk, hKK, hD, hcl⟩ := h
  exact fun H locs ls hP hS hl => lv_iconst hx hb d hv (k H locs ls hP hS hl)
theorem r_bipush {G : Gx} {X : Cx} {nL : Nat} {μ : Mu} {pc : Nat} {lv : List (Nat × Value)} {st : List Value} {cc : ByteArray} {own : String} {rm : Room} {ret : Option FieldType} (h : HX G X cc nL own rm ret) {n : Int} {v : Int32} (d : decode cc pc = .ok (.bipush n, 2)) (hv : (Int8.ofInt n).toInt32 = v) (k : V G X nL μ (pc + 2) lv (.int v :: st)) : V G X nL μ pc lv (st) := by
  obtain ⟨p, e, R, s, m, args, below, meth, c, A, Q, cells, slots⟩ := X
  obtain ⟨hx, hb, hml, hown, hts, hR, hr, hlk, hKK, hD, hcl⟩ := h
  exact fun H locs ls hP hS hl => lv_bipush hx hb d hv (k H locs ls hP hS hl)
theorem r_sipush {G : Gx} {X : Cx} {nL : Nat} {μ : Mu} {pc : Nat} {lv : List (Nat × Value)} {st : List Value} {cc : ByteArray} {own : String} {rm : Room} {ret : Option FieldType} (h : HX G X cc nL own rm ret) {n : Int} {v : Int32} (d : decode cc pc = .ok (.sipush n, 3)) (hv : (Int16.ofInt n).toInt32 = v) (k : V G X nL μ (pc + 3) lv (.int v :: st)) : V G X nL μ pc lv (st) := by
  obtain ⟨p, e, R, s, m, args, below, meth, c, A, Q, cells, slots⟩ := X
  obtain ⟨hx, hb, hml, hown, hts, hR, hr, hlk, hKK, hD, hcl⟩ := h
  exact fun H locs ls hP hS hl => lv_sipush hx hb d hv (k H locs ls hP hS hl)
theorem r_lconst {G : Gx} {X : Cx} {nL : Nat} {μ : Mu} {pc : Nat} {lv : List (Nat × Value)} {st : List Value} {cc : ByteArray} {own : String} {rm : Room} {ret : Option FieldType} (h : HX G X cc nL own rm ret) {n : Fin 2} {v : Int64} (d : decode cc pc = .ok (.lconst n, 1)) (hv : Int64.ofNat (n : Nat) = v) (k : V G X nL μ (pc + 1) lv (.long v :: st)) : V G X nL μ pc lv (st) := by
  obtain ⟨p, e, R, s, m, args, below, meth, c, A, Q, cells, slots⟩ := X
  obtain ⟨hx, hb, hml, hown, hts, hR, hr, hlk, hKK, hD, hcl⟩ := h
  exact fun H locs ls hP hS hl => lv_lconst hx hb d hv (k H locs ls hP hS hl)
theorem r_ldc2 {G : Gx} {X : Cx} {nL : Nat} {μ : Mu} {pc : Nat} {lv : List (Nat × Value)} {st : List Value} {cc : ByteArray} {own : String} {rm : Room} {ret : Option FieldType} (h : HX G X cc nL own rm ret) {i : Nat} {v : Int64} (d : decode cc pc = .ok (.ldc2_w i, 3)) (hw : Cond.constantLong own i v ∈ wsL_law) (k : V G X nL μ (pc + 3) lv (.long v :: st)) : V G X nL μ pc lv (st) := by
  obtain ⟨p, e, R, s, m, args, below, meth, c, A, Q, cells, slots⟩ := X
  obtain ⟨hx, hb, hml, hown, hts, hR, hr, hlk, hKK, hD, hcl⟩ := h
  exact fun H locs ls hP hS hl => lv_ldc2 hx hb hown (hts _ hw) d (k H locs ls hP hS hl)
theorem r_iload_n {G : Gx} {X : Cx} {nL : Nat} {μ : Mu} {pc : Nat} {lv : List (Nat × Value)} {st : List Value} {cc : ByteArray} {own : String} {rm : Room} {ret : Option FieldType} (h : HX G X cc nL own rm ret) {kk : Fin 4} {x : Int32} (d : decode cc pc = .ok (.iload_n kk, 1)) (j : Nat) (hj : lv[j]? = some ((kk : Nat), .int x)) (k : V G X nL μ (pc + 1) lv (.int x :: st)) : V G X nL μ pc lv (st) := by
  obtain ⟨p, e, R, s, m, args, below, meth, c, A, Q, cells, slots⟩ := X
  obtain ⟨hx, hb, hml, hown, hts, hR, hr, hlk, hKK, hD, hcl⟩ := h
  exact fun H locs ls hP hS hl => lv_iload_n hx hb d rfl (lv_at hl j hj) (k H locs ls hP hS hl)
theorem r_iload {G : Gx} {X : Cx} {nL : Nat} {μ : Mu} {pc : Nat} {lv : List (Nat × Value)} {st : List Value} {cc : ByteArray} {own : String} {rm : Room} {ret : Option FieldType} (h : HX G X cc nL own rm ret) {i : Nat} {x : Int32} (d : decode cc pc = .ok (.iload i, 2)) (j : Nat) (hj : lv[j]? = some (i, .int x)) (k : V G X nL μ (pc + 2) lv (.int x :: st)) : V G X nL μ pc lv (st) := by
  obtain ⟨p, e, R, s, m, args, below, meth, c, A, Q, cells, slots⟩ := X
  obtain ⟨hx, hb, hml, hown, hts, hR, hr, hlk, hKK, hD, hcl⟩ := h
  exact fun H locs ls hP hS hl => lv_iload hx hb d (lv_at hl j hj) (k H locs ls hP hS hl)
theorem r_lload_n {G : Gx} {X : Cx} {nL : Nat} {μ : Mu} {pc : Nat} {lv : List (Nat × Value)} {st : List Value} {cc : ByteArray} {own : String} {rm : Room} {ret : Option FieldType} (h : HX G X cc nL own rm ret) {kk : Fin 4} {x : Int64} (d : decode cc pc = .ok (.lload_n kk, 1)) (j : Nat) (hj : lv[j]? = some ((kk : Nat), .long x)) (k : V G X nL μ (pc + 1) lv (.long x :: st)) : V G X nL μ pc lv (st) := by
  obtain ⟨p, e, R, s, m, args, below, meth, c, A, Q, cells, slots⟩ := X
  obtain ⟨hx, hb, hml, hown, hts, hR, hr, hlk, hKK, hD, hcl⟩ := h
  exact fun H locs ls hP hS hl => lv_lload_n hx hb d rfl (lv_at hl j hj) (k H locs ls hP hS hl)
theorem r_lload {G : Gx} {X : Cx} {nL : Nat} {μ : Mu} {pc : Nat} {lv : List (Nat × Value)} {st : List Value} {cc : ByteArray} {own : String} {rm : Room} {ret : Option FieldType} (h : HX G X cc nL own rm ret) {i : Nat} {x : Int64} (d : decode cc pc = .ok (.lload i, 2)) (j : Nat) (hj : lv[j]? = some (i, .long x)) (k : V G X nL μ (pc + 2) lv (.long x :: st)) : V G X nL μ pc lv (st) := by
  obtain ⟨p, e, R, s, m, args, below, meth, c, A, Q, cells, slots⟩ := X
  obtain ⟨hx, hb, hml, hown, hts, hR, hr, hlk, hKK, hD, hcl⟩ := h
  exact fun H locs ls hP hS hl => lv_lload hx hb d (lv_at hl j hj) (k H locs ls hP hS hl)
theorem r_aload_n {G : Gx} {X : Cx} {nL : Nat} {μ : Mu} {pc : Nat} {lv : List (Nat × Value)} {st : List Value} {cc : ByteArray} {own : String} {rm : Room} {ret : Option FieldType} (h : HX G X cc nL own rm ret) {kk : Fin 4} {x : Nat} (d : decode cc pc = .ok (.aload_n kk, 1)) (j : Nat) (hj : lv[j]? = some ((kk : Nat), .ref x)) (k : V G X nL μ (pc + 1) lv (.ref x :: st)) : V G X nL μ pc lv (st) := by
  obtain ⟨p, e, R, s, m, args, below, meth, c, A, Q, cells, slots⟩ := X
  obtain ⟨hx, hb, hml, hown, hts, hR, hr, hlk, hKK, hD, hcl⟩ := h
  exact fun H locs ls hP hS hl => lv_aload_n hx hb d rfl (lv_at hl j hj) (k H locs ls hP hS hl)
theorem r_aload {G : Gx} {X : Cx} {nL : Nat} {μ : Mu} {pc : Nat} {lv : List (Nat × Value)} {st : List Value} {cc : ByteArray} {own : String} {rm : Room} {ret : Option FieldType} (h : HX G X cc nL own rm ret) {i : Nat} {x : Nat} (d : decode cc pc = .ok (.aload i, 2)) (j : Nat) (hj : lv[j]? = some (i, .ref x)) (k : V G X nL μ (pc + 2) lv (.ref x :: st)) : V G X nL μ pc lv (st) := by
  obtain ⟨p, e, R, s, m, args, below, meth, c, A, Q, cells, slots⟩ := X
  obtain ⟨hx, hb, hml, hown, hts, hR, hr, hlk, hKK, hD, hcl⟩ := h
  exact fun H locs ls hP hS hl => lv_aload hx hb d (lv_at hl j hj) (k H locs ls hP hS hl)
theorem r_iadd {G : Gx} {X : Cx} {nL : Nat} {μ : Mu} {pc : Nat} {lv : List (Nat × Value)} {st : List Value} {cc : ByteArray} {own : String} {rm : Room} {ret : Option FieldType} (h : HX G X cc nL own rm ret) {x y : Int32} (d : decode cc pc = .ok (.iadd, 1)) (k : V G X nL μ (pc + 1) lv (.int (x + y) :: st)) : V G X nL μ pc lv (.int y :: .int x :: st) := by
  obtain ⟨p, e, R, s, m, args, below, meth, c, A, Q, cells, slots⟩ := X
  obtain ⟨hx, hb, hml, hown, hts, hR, hr, hlk, hKK, hD, hcl⟩ := h
  exact fun H locs ls hP hS hl => lv_iadd hx hb d (k H locs ls hP hS hl)
theorem r_isub {G : Gx} {X : Cx} {nL : Nat} {μ : Mu} {pc : Nat} {lv : List (Nat × Value)} {st : List Value} {cc : ByteArray} {own : String} {rm : Room} {ret : Option FieldType} (h : HX G X cc nL own rm ret) {x y : Int32} (d : decode cc pc = .ok (.isub, 1)) (k : V G X nL μ (pc + 1) lv (.int (x - y) :: st)) : V G X nL μ pc lv (.int y :: .int x :: st) := by
  obtain ⟨p, e, R, s, m, args, below, meth, c, A, Q, cells, slots⟩ := X
  obtain ⟨hx, hb, hml, hown, hts, hR, hr, hlk, hKK, hD, hcl⟩ := h
  exact fun H locs ls hP hS hl => lv_isub hx hb d (k H locs ls hP hS hl)
theorem r_imul {G : Gx} {X : Cx} {nL : Nat} {μ : Mu} {pc : Nat} {lv : List (Nat × Value)} {st : List Value} {cc : ByteArray} {own : String} {rm : Room} {ret : Option FieldType} (h : HX G X cc nL own rm ret) {x y : Int32} (d : decode cc pc = .ok (.imul, 1)) (k : V G X nL μ (pc + 1) lv (.int (x * y) :: st)) : V G X nL μ pc lv (.int y :: .int x :: st) := by
  obtain ⟨p, e, R, s, m, args, below, meth, c, A, Q, cells, slots⟩ := X
  obtain ⟨hx, hb, hml, hown, hts, hR, hr, hlk, hKK, hD, hcl⟩ := h
  exact fun H locs ls hP hS hl => lv_imul hx hb d (k H locs ls hP hS hl)
theorem r_iand {G : Gx} {X : Cx} {nL : Nat} {μ : Mu} {pc : Nat} {lv : List (Nat × Value)} {st : List Value} {cc : ByteArray} {own : String} {rm : Room} {ret : Option FieldType} (h : HX G X cc nL own rm ret) {x y : Int32} (d : decode cc pc = .ok (.iand, 1)) (k : V G X nL μ (pc + 1) lv (.int (x &&& y) :: st)) : V G X nL μ pc lv (.int y :: .int x :: st) := by
  obtain ⟨p, e, R, s, m, args, below, meth, c, A, Q, cells, slots⟩ := X
  obtain ⟨hx, hb, hml, hown, hts, hR, hr, hlk, hKK, hD, hcl⟩ := h
  exact fun H locs ls hP hS hl => lv_iand hx hb d (k H locs ls hP hS hl)
theorem r_idiv {G : Gx} {X : Cx} {nL : Nat} {μ : Mu} {pc : Nat} {lv : List (Nat × Value)} {st : List Value} {cc : ByteArray} {own : String} {rm : Room} {ret : Option FieldType} (h : HX G X cc nL own rm ret) {x y : Int32} (d : decode cc pc = .ok (.idiv, 1)) (hne : ¬ y = 0) (k : V G X nL μ (pc + 1) lv (.int (x / y) :: st)) : V G X nL μ pc lv (.int y :: .int x :: st) := by
  obtain ⟨p, e, R, s, m, args, below, meth, c, A, Q, cells, slots⟩ := X
  obtain ⟨hx, hb, hml, hown, hts, hR, hr, hlk, hKK, hD, hcl⟩ := h
  exact fun H locs ls hP hS hl => lv_idiv hx hb d hne (k H locs ls hP hS hl)
theorem r_ineg {G : Gx} {X : Cx} {nL : Nat} {μ : Mu} {pc : Nat} {lv : List (Nat × Value)} {st : List Value} {cc : ByteArray} {own : String} {rm : Room} {ret : Option FieldType} (h : HX G X cc nL own rm ret) {x : Int32} (d : decode cc pc = .ok (.ineg, 1)) (k : V G X nL μ (pc + 1) lv (.int (-x) :: st)) : V G X nL μ pc lv (.int x :: st) := by
  obtain ⟨p, e, R, s, m, args, below, meth, c, A, Q, cells, slots⟩ := X
  obtain ⟨hx, hb, hml, hown, hts, hR, hr, hlk, hKK, hD, hcl⟩ := h
  exact fun H locs ls hP hS hl => lv_ineg hx hb d (k H locs ls hP hS hl)
theorem r_i2l {G : Gx} {X : Cx} {nL : Nat} {μ : Mu} {pc : Nat} {lv : List (Nat × Value)} {st : List Value} {cc : ByteArray} {own : String} {rm : Room} {ret : Option FieldType} (h : HX G X cc nL own rm ret) {x : Int32} (d : decode cc pc = .ok (.i2l, 1)) (k : V G X nL μ (pc + 1) lv (.long x.toInt64 :: st)) : V G X nL μ pc lv (.int x :: st) := by
  obtain ⟨p, e, R, s, m, args, below, meth, c, A, Q, cells, slots⟩ := X
  obtain ⟨hx, hb, hml, hown, hts, hR, hr, hlk, hKK, hD, hcl⟩ := h
  exact fun H locs ls hP hS hl => lv_i2l hx hb d rfl (k H locs ls hP hS hl)
theorem r_lcmp {G : Gx} {X : Cx} {nL : Nat} {μ : Mu} {pc : Nat} {lv : List (Nat × Value)} {st : List Value} {cc : ByteArray} {own : String} {rm : Room} {ret : Option FieldType} (h : HX G X cc nL own rm ret) {x y : Int64} (d : decode cc pc = .ok (.lcmp, 1)) (k : V G X nL μ (pc + 1) lv (.int (lg_cmp x y) :: st)) : V G X nL μ pc lv (.long y :: .long x :: st) := by
  obtain ⟨p, e, R, s, m, args, below, meth, c, A, Q, cells, slots⟩ := X
  obtain ⟨hx, hb, hml, hown, hts, hR, hr, hlk, hKK, hD, hcl⟩ := h
  exact fun H locs ls hP hS hl => W.lcmp hx hb d (k H locs ls hP hS hl)
theorem r_dup {G : Gx} {X : Cx} {nL : Nat} {μ : Mu} {pc : Nat} {lv : List (Nat × Value)} {st : List Value} {cc : ByteArray} {own : String} {rm : Room} {ret : Option FieldType} (h : HX G X cc nL own rm ret) {va : Value} (d : decode cc pc = .ok (.dup, 1)) (hva : va.category = 1) (k : V G X nL μ (pc + 1) lv (va :: va :: st)) : V G X nL μ pc lv (va :: st) := by
  obtain ⟨p, e, R, s, m, args, below, meth, c, A, Q, cells, slots⟩ := X
  obtain ⟨hx, hb, hml, hown, hts, hR, hr, hlk, hKK, hD, hcl⟩ := h
  exact fun H locs ls hP hS hl => lv_dup hx hb d hva (k H locs ls hP hS hl)
theorem r_pop {G : Gx} {X : Cx} {nL : Nat} {μ : Mu} {pc : Nat} {lv : List (Nat × Value)} {st : List Value} {cc : ByteArray} {own : String} {rm : Room} {ret : Option FieldType} (h : HX G X cc nL own rm ret) {va : Value} (d : decode cc pc = .ok (.pop, 1)) (hva : va.category = 1) (k : V G X nL μ (pc + 1) lv (st)) : V G X nL μ pc lv (va :: st) := by
  obtain ⟨p, e, R, s, m, args, below, meth, c, A, Q, cells, slots⟩ := X
  obtain ⟨hx, hb, hml, hown, hts, hR, hr, hlk, hKK, hD, hcl⟩ := h
  exact fun H locs ls hP hS hl => lv_pop hx hb d hva (k H locs ls hP hS hl)
theorem r_dup2 {G : Gx} {X : Cx} {nL : Nat} {μ : Mu} {pc : Nat} {lv : List (Nat × Value)} {st : List Value} {cc : ByteArray} {own : String} {rm : Room} {ret : Option FieldType} (h : HX G X cc nL own rm ret) {va vb : Value} (d : decode cc pc = .ok (.dup2, 1)) (hva : va.category = 1) (hvb : vb.category = 1) (k : V G X nL μ (pc + 1) lv (va :: vb :: va :: vb :: st)) : V G X nL μ pc lv (va :: vb :: st) := by
  obtain ⟨p, e, R, s, m, args, below, meth, c, A, Q, cells, slots⟩ := X
  obtain ⟨hx, hb, hml, hown, hts, hR, hr, hlk, hKK, hD, hcl⟩ := h
  exact fun H locs ls hP hS hl => lv_dup2_11 hx hb d hva hvb (k H locs ls hP hS hl)
theorem r_istore_n {G : Gx} {X : Cx} {nL : Nat} {μ : Mu} {pc : Nat} {lv : List (Nat × Value)} {st : List Value} {cc : ByteArray} {own : String} {rm : Room} {ret : Option FieldType} (h : HX G X cc nL own rm ret) {kk : Fin 4} {x : Int32} {lv' : List (Nat × Value)} (d : decode cc pc = .ok (.istore_n kk, 1)) (hn : (kk : Nat) < nL) (hl' : ((kk : Nat), Value.int x) :: lv.filter (fun q => !(q.1 == (kk : Nat)) && !(q.1 + 1 == (kk : Nat) && q.2.category == 2)) = lv') (k : V G X nL μ (pc + 1) lv' st) : V G X nL μ pc lv (.int x :: st) := by
  obtain ⟨p, e, R, s, m, args, below, meth, c, A, Q, cells, slots⟩ := X
  obtain ⟨hx, hb, hml, hown, hts, hR, hr, hlk, hKK, hD, hcl⟩ := h
  exact fun H locs ls hP hS hl => lv_istore_n hx hb d rfl hl hn hl' (fun ls hl => k H locs ls hP hS hl)
theorem r_istore {G : Gx} {X : Cx} {nL : Nat} {μ : Mu} {pc : Nat} {lv : List (Nat × Value)} {st : List Value} {cc : ByteArray} {own : String} {rm : Room} {ret : Option FieldType} (h : HX G X cc nL own rm ret) {i : Nat} {x : Int32} {lv' : List (Nat × Value)} (d : decode cc pc = .ok (.istore i, 2)) (hn : i < nL) (hl' : (i, Value.int x) :: lv.filter (fun q => !(q.1 == i) && !(q.1 + 1 == i && q.2.category == 2)) = lv') (k : V G X nL μ (pc + 2) lv' st) : V G X nL μ pc lv (.int x :: st) := by
  obtain ⟨p, e, R, s, m, args, below, meth, c, A, Q, cells, slots⟩ := X
  obtain ⟨hx, hb, hml, hown, hts, hR, hr, hlk, hKK, hD, hcl⟩ := h
  exact fun H locs ls hP hS hl => lv_istore hx hb d hl hn hl' (fun ls hl => k H locs ls hP hS hl)
theorem r_astore_n {G : Gx} {X : Cx} {nL : Nat} {μ : Mu} {pc : Nat} {lv : List (Nat × Value)} {st : List Value} {cc : ByteArray} {own : String} {rm : Room} {ret : Option FieldType} (h : HX G X cc nL own rm ret) {kk : Fin 4} {x : Nat} {lv' : List (Nat × Value)} (d : decode cc pc = .ok (.astore_n kk, 1)) (hn : (kk : Nat) < nL) (hl' : ((kk : Nat), Value.ref x) :: lv.filter (fun q => !(q.1 == (kk : Nat)) && !(q.1 + 1 == (kk : Nat) && q.2.category == 2)) = lv') (k : V G X nL μ (pc + 1) lv' st) : V G X nL μ pc lv (.ref x :: st) := by
  obtain ⟨p, e, R, s, m, args, below, meth, c, A, Q, cells, slots⟩ := X
  obtain ⟨hx, hb, hml, hown, hts, hR, hr, hlk, hKK, hD, hcl⟩ := h
  exact fun H locs ls hP hS hl => lv_astore_n hx hb d rfl hl hn hl' (fun ls hl => k H locs ls hP hS hl)
theorem r_astore {G : Gx} {X : Cx} {nL : Nat} {μ : Mu} {pc : Nat} {lv : List (Nat × Value)} {st : List Value} {cc : ByteArray} {own : String} {rm : Room} {ret : Option FieldType} (h : HX G X cc nL own rm ret) {i : Nat} {x : Nat} {lv' : List (Nat × Value)} (d : decode cc pc = .ok (.astore i, 2)) (hn : i < nL) (hl' : (i, Value.ref x) :: lv.filter (fun q => !(q.1 == i) && !(q.1 + 1 == i && q.2.category == 2)) = lv') (k : V G X nL μ (pc + 2) lv' st) : V G X nL μ pc lv (.ref x :: st) := by
  obtain ⟨p, e, R, s, m, args, below, meth, c, A, Q, cells, slots⟩ := X
  obtain ⟨hx, hb, hml, hown, hts, hR, hr, hlk, hKK, hD, hcl⟩ := h
  exact fun H locs ls hP hS hl => lv_astore hx hb d hl hn hl' (fun ls hl => k H locs ls hP hS hl)
theorem r_iinc {G : Gx} {X : Cx} {nL : Nat} {μ : Mu} {pc : Nat} {lv : List (Nat × Value)} {st : List Value} {cc : ByteArray} {own : String} {rm : Room} {ret : Option FieldType} (h : HX G X cc nL own rm ret) {i j : Nat} {n : Int} {x v : Int32} {lv' : List (Nat × Value)} (d : decode cc pc = .ok (.iinc i n, 3)) (hj : lv[j]? = some (i, .int x)) (hv : x + Int32.ofInt n = v) (hn : i < nL) (hl' : (i, Value.int v) :: lv.filter (fun q => !(q.1 == i) && !(q.1 + 1 == i && q.2.category == 2)) = lv') (k : V G X nL μ (pc + 3) lv' st) : V G X nL μ pc lv st := by
  obtain ⟨p, e, R, s, m, args, below, meth, c, A, Q, cells, slots⟩ := X
  obtain ⟨hx, hb, hml, hown, hts, hR, hr, hlk, hKK, hD, hcl⟩ := h
  exact fun H locs ls hP hS hl => lv_iinc hx hb d hl hj hv hn hl' (fun ls hl => k H locs ls hP hS hl)
theorem r_if_eq {G : Gx} {X : Cx} {nL : Nat} {μ : Mu} {pc : Nat} {lv : List (Nat × Value)} {st : List Value} {cc : ByteArray} {own : String} {rm : Room} {ret : Option FieldType} (h : HX G X cc nL own rm ret) {x : Int32} {off : Int} {tgt : Nat} (d : decode cc pc = .ok (.ifCond .eq off, 3)) (ht : (pc : Int) + off = (tgt : Int)) (kt : x = 0 → V G X nL μ tgt lv st) (kf : ¬ x = 0 → V G X nL μ (pc + 3) lv st) : V G X nL μ pc lv (.int x :: st) := by
  obtain ⟨p, e, R, s, m, args, below, meth, c, A, Q, cells, slots⟩ := X
  obtain ⟨hx, hb, hml, hown, hts, hR, hr, hlk, hKK, hD, hcl⟩ := h
  exact fun H locs ls hP hS hl => lv_if_eq hx hb d ht (fun q => kt q H locs ls hP hS hl) (fun q => kf q H locs ls hP hS hl)
theorem r_if_ne {G : Gx} {X : Cx} {nL : Nat} {μ : Mu} {pc : Nat} {lv : List (Nat × Value)} {st : List Value} {cc : ByteArray} {own : String} {rm : Room} {ret : Option FieldType} (h : HX G X cc nL own rm ret) {x : Int32} {off : Int} {tgt : Nat} (d : decode cc pc = .ok (.ifCond .ne off, 3)) (ht : (pc : Int) + off = (tgt : Int)) (kt : ¬ x = 0 → V G X nL μ tgt lv st) (kf : x = 0 → V G X nL μ (pc + 3) lv st) : V G X nL μ pc lv (.int x :: st) := by
  obtain ⟨p, e, R, s, m, args, below, meth, c, A, Q, cells, slots⟩ := X
  obtain ⟨hx, hb, hml, hown, hts, hR, hr, hlk, hKK, hD, hcl⟩ := h
  exact fun H locs ls hP hS hl => lv_if_ne hx hb d ht (fun q => kt q H locs ls hP hS hl) (fun q => kf q H locs ls hP hS hl)
theorem r_if_lt {G : Gx} {X : Cx} {nL : Nat} {μ : Mu} {pc : Nat} {lv : List (Nat × Value)} {st : List Value} {cc : ByteArray} {own : String} {rm : Room} {ret : Option FieldType} (h : HX G X cc nL own rm ret) {x : Int32} {off : Int} {tgt : Nat} (d : decode cc pc = .ok (.ifCond .lt off, 3)) (ht : (pc : Int) + off = (tgt : Int)) (kt : x < 0 → V G X nL μ tgt lv st) (kf : ¬ x < 0 → V G X nL μ (pc + 3) lv st) : V G X nL μ pc lv (.int x :: st) := by
  obtain ⟨p, e, R, s, m, args, below, meth, c, A, Q, cells, slots⟩ := X
  obtain ⟨hx, hb, hml, hown, hts, hR, hr, hlk, hKK, hD, hcl⟩ := h
  exact fun H locs ls hP hS hl => lv_if_lt hx hb d ht (fun q => kt q H locs ls hP hS hl) (fun q => kf q H locs ls hP hS hl)
theorem r_if_ge {G : Gx} {X : Cx} {nL : Nat} {μ : Mu} {pc : Nat} {lv : List (Nat × Value)} {st : List Value} {cc : ByteArray} {own : String} {rm : Room} {ret : Option FieldType} (h : HX G X cc nL own rm ret) {x : Int32} {off : Int} {tgt : Nat} (d : decode cc pc = .ok (.ifCond .ge off, 3)) (ht : (pc : Int) + off = (tgt : Int)) (kt : 0 ≤ x → V G X nL μ tgt lv st) (kf : ¬ 0 ≤ x → V G X nL μ (pc + 3) lv st) : V G X nL μ pc lv (.int x :: st) := by
  obtain ⟨p, e, R, s, m, args, below, meth, c, A, Q, cells, slots⟩ := X
  obtain ⟨hx, hb, hml, hown, hts, hR, hr, hlk, hKK, hD, hcl⟩ := h
  exact fun H locs ls hP hS hl => lv_if_ge hx hb d ht (fun q => kt q H locs ls hP hS hl) (fun q => kf q H locs ls hP hS hl)
theorem r_if_gt {G : Gx} {X : Cx} {nL : Nat} {μ : Mu} {pc : Nat} {lv : List (Nat × Value)} {st : List Value} {cc : ByteArray} {own : String} {rm : Room} {ret : Option FieldType} (h : HX G X cc nL own rm ret) {x : Int32} {off : Int} {tgt : Nat} (d : decode cc pc = .ok (.ifCond .gt off, 3)) (ht : (pc : Int) + off = (tgt : Int)) (kt : 0 < x → V G X nL μ tgt lv st) (kf : ¬ 0 < x → V G X nL μ (pc + 3) lv st) : V G X nL μ pc lv (.int x :: st) := by
  obtain ⟨p, e, R, s, m, args, below, meth, c, A, Q, cells, slots⟩ := X
  obtain ⟨hx, hb, hml, hown, hts, hR, hr, hlk, hKK, hD, hcl⟩ := h
  exact fun H locs ls hP hS hl => lv_if_gt hx hb d ht (fun q => kt q H locs ls hP hS hl) (fun q => kf q H locs ls hP hS hl)
theorem r_if_le {G : Gx} {X : Cx} {nL : Nat} {μ : Mu} {pc : Nat} {lv : List (Nat × Value)} {st : List Value} {cc : ByteArray} {own : String} {rm : Room} {ret : Option FieldType} (h : HX G X cc nL own rm ret) {x : Int32} {off : Int} {tgt : Nat} (d : decode cc pc = .ok (.ifCond .le off, 3)) (ht : (pc : Int) + off = (tgt : Int)) (kt : x ≤ 0 → V G X nL μ tgt lv st) (kf : ¬ x ≤ 0 → V G X nL μ (pc + 3) lv st) : V G X nL μ pc lv (.int x :: st) := by
  obtain ⟨p, e, R, s, m, args, below, meth, c, A, Q, cells, slots⟩ := X
  obtain ⟨hx, hb, hml, hown, hts, hR, hr, hlk, hKK, hD, hcl⟩ := h
  exact fun H locs ls hP hS hl => lv_if_le hx hb d ht (fun q => kt q H locs ls hP hS hl) (fun q => kf q H locs ls hP hS hl)
theorem r_icmp_eq {G : Gx} {X : Cx} {nL : Nat} {μ : Mu} {pc : Nat} {lv : List (Nat × Value)} {st : List Value} {cc : ByteArray} {own : String} {rm : Room} {ret : Option FieldType} (h : HX G X cc nL own rm ret) {x y : Int32} {off : Int} {tgt : Nat} (d : decode cc pc = .ok (.if_icmp .eq off, 3)) (ht : (pc : Int) + off = (tgt : Int)) (kt : x = y → V G X nL μ tgt lv st) (kf : ¬ x = y → V G X nL μ (pc + 3) lv st) : V G X nL μ pc lv (.int y :: .int x :: st) := by
  obtain ⟨p, e, R, s, m, args, below, meth, c, A, Q, cells, slots⟩ := X
  obtain ⟨hx, hb, hml, hown, hts, hR, hr, hlk, hKK, hD, hcl⟩ := h
  exact fun H locs ls hP hS hl => lv_icmp_eq hx hb d ht (fun q => kt q H locs ls hP hS hl) (fun q => kf q H locs ls hP hS hl)
theorem r_icmp_ne {G : Gx} {X : Cx} {nL : Nat} {μ : Mu} {pc : Nat} {lv : List (Nat × Value)} {st : List Value} {cc : ByteArray} {own : String} {rm : Room} {ret : Option FieldType} (h : HX G X cc nL own rm ret) {x y : Int32} {off : Int} {tgt : Nat} (d : decode cc pc = .ok (.if_icmp .ne off, 3)) (ht : (pc : Int) + off = (tgt : Int)) (kt : ¬ x = y → V G X nL μ tgt lv st) (kf : x = y → V G X nL μ (pc + 3) lv st) : V G X nL μ pc lv (.int y :: .int x :: st) := by
  obtain ⟨p, e, R, s, m, args, below, meth, c, A, Q, cells, slots⟩ := X
  obtain ⟨hx, hb, hml, hown, hts, hR, hr, hlk, hKK, hD, hcl⟩ := h
  exact fun H locs ls hP hS hl => lv_icmp_ne hx hb d ht (fun q => kt q H locs ls hP hS hl) (fun q => kf q H locs ls hP hS hl)
theorem r_icmp_lt {G : Gx} {X : Cx} {nL : Nat} {μ : Mu} {pc : Nat} {lv : List (Nat × Value)} {st : List Value} {cc : ByteArray} {own : String} {rm : Room} {ret : Option FieldType} (h : HX G X cc nL own rm ret) {x y : Int32} {off : Int} {tgt : Nat} (d : decode cc pc = .ok (.if_icmp .lt off, 3)) (ht : (pc : Int) + off = (tgt : Int)) (kt : x < y → V G X nL μ tgt lv st) (kf : ¬ x < y → V G X nL μ (pc + 3) lv st) : V G X nL μ pc lv (.int y :: .int x :: st) := by
  obtain ⟨p, e, R, s, m, args, below, meth, c, A, Q, cells, slots⟩ := X
  obtain ⟨hx, hb, hml, hown, hts, hR, hr, hlk, hKK, hD, hcl⟩ := h
  exact fun H locs ls hP hS hl => lv_icmp_lt hx hb d ht (fun q => kt q H locs ls hP hS hl) (fun q => kf q H locs ls hP hS hl)
theorem r_icmp_ge {G : Gx} {X : Cx} {nL : Nat} {μ : Mu} {pc : Nat} {lv : List (Nat × Value)} {st : List Value} {cc : ByteArray} {own : String} {rm : Room} {ret : Option FieldType} (h : HX G X cc nL own rm ret) {x y : Int32} {off : Int} {tgt : Nat} (d : decode cc pc = .ok (.if_icmp .ge off, 3)) (ht : (pc : Int) + off = (tgt : Int)) (kt : y ≤ x → V G X nL μ tgt lv st) (kf : ¬ y ≤ x → V G X nL μ (pc + 3) lv st) : V G X nL μ pc lv (.int y :: .int x :: st) := by
  obtain ⟨p, e, R, s, m, args, below, meth, c, A, Q, cells, slots⟩ := X
  obtain ⟨hx, hb, hml, hown, hts, hR, hr, hlk, hKK, hD, hcl⟩ := h
  exact fun H locs ls hP hS hl => lv_icmp_ge hx hb d ht (fun q => kt q H locs ls hP hS hl) (fun q => kf q H locs ls hP hS hl)
theorem r_icmp_gt {G : Gx} {X : Cx} {nL : Nat} {μ : Mu} {pc : Nat} {lv : List (Nat × Value)} {st : List Value} {cc : ByteArray} {own : String} {rm : Room} {ret : Option FieldType} (h : HX G X cc nL own rm ret) {x y : Int32} {off : Int} {tgt : Nat} (d : decode cc pc = .ok (.if_icmp .gt off, 3)) (ht : (pc : Int) + off = (tgt : Int)) (kt : y < x → V G X nL μ tgt lv st) (kf : ¬ y < x → V G X nL μ (pc + 3) lv st) : V G X nL μ pc lv (.int y :: .int x :: st) := by
  obtain ⟨p, e, R, s, m, args, below, meth, c, A, Q, cells, slots⟩ := X
  obtain ⟨hx, hb, hml, hown, hts, hR, hr, hlk, hKK, hD, hcl⟩ := h
  exact fun H locs ls hP hS hl => lv_icmp_gt hx hb d ht (fun q => kt q H locs ls hP hS hl) (fun q => kf q H locs ls hP hS hl)
theorem r_icmp_le {G : Gx} {X : Cx} {nL : Nat} {μ : Mu} {pc : Nat} {lv : List (Nat × Value)} {st : List Value} {cc : ByteArray} {own : String} {rm : Room} {ret : Option FieldType} (h : HX G X cc nL own rm ret) {x y : Int32} {off : Int} {tgt : Nat} (d : decode cc pc = .ok (.if_icmp .le off, 3)) (ht : (pc : Int) + off = (tgt : Int)) (kt : x ≤ y → V G X nL μ tgt lv st) (kf : ¬ x ≤ y → V G X nL μ (pc + 3) lv st) : V G X nL μ pc lv (.int y :: .int x :: st) := by
  obtain ⟨p, e, R, s, m, args, below, meth, c, A, Q, cells, slots⟩ := X
  obtain ⟨hx, hb, hml, hown, hts, hR, hr, hlk, hKK, hD, hcl⟩ := h
  exact fun H locs ls hP hS hl => lv_icmp_le hx hb d ht (fun q => kt q H locs ls hP hS hl) (fun q => kf q H locs ls hP hS hl)
theorem r_goto {G : Gx} {X : Cx} {nL : Nat} {μ : Mu} {pc : Nat} {lv : List (Nat × Value)} {st : List Value} {cc : ByteArray} {own : String} {rm : Room} {ret : Option FieldType} (h : HX G X cc nL own rm ret) {off : Int} {tgt : Nat} (d : decode cc pc = .ok (.goto off, 3)) (ht : (pc : Int) + off = (tgt : Int)) (k : V G X nL μ tgt lv st) : V G X nL μ pc lv st := by
  obtain ⟨p, e, R, s, m, args, below, meth, c, A, Q, cells, slots⟩ := X
  obtain ⟨hx, hb, hml, hown, hts, hR, hr, hlk, hKK, hD, hcl⟩ := h
  exact fun H locs ls hP hS hl => lv_goto hx hb d ht (k H locs ls hP hS hl)
theorem r_tsw {G : Gx} {X : Cx} {nL : Nat} {μ : Mu} {pc : Nat} {lv : List (Nat × Value)} {st : List Value} {cc : ByteArray} {own : String} {rm : Room} {ret : Option FieldType} (h : HX G X cc nL own rm ret) {dflt lo hi : Int} {offs : Array Int} {len : Nat} {x : Int32} {off : Int} {tgt : Nat} (d : decode cc pc = .ok (.tableswitch dflt lo hi offs, len)) (v : Int32) (hv : x = v) (h1 : ¬ v.toInt < lo) (h2 : ¬ hi < v.toInt) (ho : offs[(v.toInt - lo).toNat]? = some off) (ht : (pc : Int) + off = (tgt : Int)) (k : V G X nL μ tgt lv st) : V G X nL μ pc lv (.int x :: st) := by
  subst hv
  obtain ⟨p, e, R, s, m, args, below, meth, c, A, Q, cells, slots⟩ := X
  obtain ⟨hx, hb, hml, hown, hts, hR, hr, hlk, hKK, hD, hcl⟩ := h
  exact fun H locs ls hP hS hl => lv_tableIn hx hb d h1 h2 ho ht (k H locs ls hP hS hl)
theorem r_tswo {G : Gx} {X : Cx} {nL : Nat} {μ : Mu} {pc : Nat} {lv : List (Nat × Value)} {st : List Value} {cc : ByteArray} {own : String} {rm : Room} {ret : Option FieldType} (h : HX G X cc nL own rm ret) {dflt lo hi : Int} {offs : Array Int} {len : Nat} {x : Int32} {tgt : Nat} (d : decode cc pc = .ok (.tableswitch dflt lo hi offs, len)) (ho : x.toInt < lo ∨ hi < x.toInt) (ht : (pc : Int) + dflt = (tgt : Int)) (k : V G X nL μ tgt lv st) : V G X nL μ pc lv (.int x :: st) := by
  obtain ⟨p, e, R, s, m, args, below, meth, c, A, Q, cells, slots⟩ := X
  obtain ⟨hx, hb, hml, hown, hts, hR, hr, hlk, hKK, hD, hcl⟩ := h
  exact fun H locs ls hP hS hl => lv_tableOut hx hb d ho ht (k H locs ls hP hS hl)
theorem r_lsw {G : Gx} {X : Cx} {nL : Nat} {μ : Mu} {pc : Nat} {lv : List (Nat × Value)} {st : List Value} {cc : ByteArray} {own : String} {rm : Room} {ret : Option FieldType} (h : HX G X cc nL own rm ret) {dflt : Int} {ps : Array (Int × Int)} {len : Nat} {x : Int32} {off : Int} {tgt : Nat} (d : decode cc pc = .ok (.lookupswitch dflt ps, len)) (hp : (ps.toList.zip (ps.toList.drop 1)).all (fun (a, next) => a.1 < next.1) = true) (ho : Op.lookupswitch.offset ps.toList dflt x.toInt = off) (ht : (pc : Int) + off = (tgt : Int)) (k : V G X nL μ tgt lv st) : V G X nL μ pc lv (.int x :: st) := by
  obtain ⟨p, e, R, s, m, args, below, meth, c, A, Q, cells, slots⟩ := X
  obtain ⟨hx, hb, hml, hown, hts, hR, hr, hlk, hKK, hD, hcl⟩ := h
  exact fun H locs ls hP hS hl => lv_lookup hx hb d hp ho ht (k H locs ls hP hS hl)
/-- a number that is none of 0 .. n-1 lies outside -/
theorem sw_out {x : Int32} (n : Nat) (hn : n < 100) (hx : ∀ j : Nat, j < n → ¬ x = Int32.ofNat j) : x.toInt < 0 ∨ (n : Int) - 1 < x.toInt := by
  by_cases h : x.toInt < 0
  · exact Or.inl h
  · refine Or.inr ?_
    apply Int.not_le.mp
    intro hle
    obtain ⟨j, hj⟩ := Int.eq_ofNat_of_zero_le (Int.not_lt.mp h)
    refine hx j (by omega) ?_
    apply Int32.toInt_inj.mp
    rw [hj, Int32.toInt_ofNat_of_lt (by omega)]

theorem r_sub {G : Gx} {X : Cx} {nL : Nat} {μ : Mu} {pc : Nat} {lv lv' : List (Nat × Value)} {st : List Value} (ks : List Nat) (hp : lv_pick lv ks = lv') (k : V G X nL μ pc lv' st) : V G X nL μ pc lv st := by
  obtain ⟨p, e, R, s, m, args, below, meth, c, A, Q, cells, slots⟩ := X
  exact fun H locs ls hP hS hl => k H locs ls hP hS (lv_sub hl ks hp)
theorem r_get {l : Launch} {D : va_G} {tys : List (ClassId × FieldType)} {keys : List (Nat × Nat)} {ad : Nat → Nat → Nat} {cE : Nat → Nat → (Nat → Int32) → va_E} {Z : va_W} {X : Cx} {nL : Nat} {μ : Mu} {pc : Nat} {lv : List (Nat × Value)} {st : List Value} {cc : ByteArray} {own : String} {rm : Room} {ret : Option FieldType} (h : HX (l, D, tys, keys, ad, cE, Z) X cc nL own rm ret) {C : String} {T : u_T} {N ci index : Nat} {fs : List Value} {v : Value} (c k : Nat) (hkey : (c, k) ∈ keys) (he : cE c k (μ c k) = .inr (ci, fs)) (hc : vwCl[ci]? = some (C, T, N)) (hin : ∀ w ∈ u_ws C T N, w ∈ wsL_law) (j : Nat) (hj : j < N) (hw : Cond.fieldLink own index (T j).1 (T j).2.1 (T j).2.2.1 ∈ wsL_law) (hv : fs[j]? = some v) (d : decode cc pc = .ok (.getfield index, 3)) (kk : V (l, D, tys, keys, ad, cE, Z) X nL μ (pc + 3) lv (v :: st)) : V (l, D, tys, keys, ad, cE, Z) X nL μ pc lv (.ref (ad c k) :: st) := by
  obtain ⟨q0, hq0⟩ := List.getElem?_of_mem hkey
  obtain ⟨p, e, R, s, m, args, below, meth, c', A, Q, cells, slots⟩ := X
  obtain ⟨hx, hb, hml, hown, hts, hR, hr, hlk, hKK, hD, hcl⟩ := h
  intro H locs ls hP hS hl
  have hat : (wd (l, D, tys, keys, ad, cE, Z) μ)[q0]? = some (ad c k, cE c k (μ c k)) := wd_at (G := (l, D, tys, keys, ad, cE, Z)) (μ := μ) hq0
  rw [he] at hat
  exact va_get (D := D) (C := C) (T := T) (N := N) hx hb hts hin hown hKK.1 hP q0 hat hc j hj (hts _ hw) (fun _ h9 => h9) hv d (kk H locs ls hP hS hl)
theorem r_put {l : Launch} {D : va_G} {tys : List (ClassId × FieldType)} {keys : List (Nat × Nat)} {ad : Nat → Nat → Nat} {cE : Nat → Nat → (Nat → Int32) → va_E} {Z : va_W} {X : Cx} {nL : Nat} {μ : Mu} {pc : Nat} {lv : List (Nat × Value)} {st : List Value} {cc : ByteArray} {own : String} {rm : Room} {ret : Option FieldType} (h : HX (l, D, tys, keys, ad, cE, Z) X cc nL own rm ret) {C : String} {T : u_T} {N ci index : Nat} {fs : List Value} {x : Int32} {ty : FieldType} (c k : Nat) (hkey : (c, k) ∈ keys) (he : cE c k (μ c k) = .inr (ci, fs)) (hc : vwCl[ci]? = some (C, T, N)) (hin : ∀ w ∈ u_ws C T N, w ∈ wsL_law) (ty0 : Nat → FieldType) (hty : ∀ k, k < N → parseFieldDescriptor (T k).2.2.1 = some (ty0 k)) (hnm : ∀ a, a < N → ∀ b, b < N → a ≠ b → (T a).2.1 ≠ (T b).2.1) (j : Nat) (hj : j < N) (hw : Cond.fieldLink own index (T j).1 (T j).2.1 (T j).2.2.1 ∈ wsL_law) (hfin : (T j).2.2.2 = false) (hd : parseFieldDescriptor (T j).2.2.1 = some ty) (hn : narrow ty (.int x) = .int x) (hfit : fits ty (.int x) = true) (hl' : j < fs.length) (he' : cE c k (upd (μ c k) j x) = .inr (ci, fs.set j (.int x))) (d : decode cc pc = .ok (.putfield index, 3)) (kk : ∀ μ1 : Mu, μ1 = mu_st μ c k j x → V (l, D, tys, keys, ad, cE, Z) X nL μ1 (pc + 3) lv st) : V (l, D, tys, keys, ad, cE, Z) X nL μ pc lv (.int x :: .ref (ad c k) :: st) := by
  obtain ⟨q0, hq0⟩ := List.getElem?_of_mem hkey
  have kk := kk _ rfl
  obtain ⟨p, e, R, s, m, args, below, meth, c', A, Q, cells, slots⟩ := X
  obtain ⟨hx, hb, hml, hown, hts, hR, hr, hlk, hKK, hD, hcl⟩ := h
  intro H locs ls hP hS hl
  have hat : (wd (l, D, tys, keys, ad, cE, Z) μ)[q0]? = some (ad c k, cE c k (μ c k)) := wd_at (G := (l, D, tys, keys, ad, cE, Z)) (μ := μ) hq0
  rw [he] at hat
  refine va_put (D := D) (C := C) (T := T) (N := N) hx hb hts hin ty0 hty hnm hown hKK.1 hP (hD μ) hS q0 hat hc j hj (hts _ hw) (fun _ h9 => h9) hfin hd hn hfit hl' d (fun H1 locs1 hP1 hD1 hS1 => ?_)
  refine kk H1 locs1 ls ?_ hS1 hl
  have e1 : (wd (l, D, tys, keys, ad, cE, Z) μ).set q0 (ad c k, cE c k (upd (μ c k) j x)) = wd (l, D, tys, keys, ad, cE, Z) (mu_st μ c k j x) := wd_set (G := (l, D, tys, keys, ad, cE, Z)) (hD μ) hq0 (upd (μ c k) j x)
  rw [he'] at e1
  rw [← e1]
  exact hP1
theorem r_getN {l : Launch} {D : va_G} {tys : List (ClassId × FieldType)} {keys : List (Nat × Nat)} {ad : Nat → Nat → Nat} {cE : Nat → Nat → (Nat → Int32) → va_E} {Z : va_W} {X : Cx} {nL : Nat} {μ : Mu} {pc : Nat} {lv : List (Nat × Value)} {st : List Value} {cc : ByteArray} {own : String} {rm : Room} {ret : Option FieldType} (h : HX (l, D, tys, keys, ad, cE, Z) X cc nL own rm ret) {host : String} {C : String} {T : u_T} {N ci index : Nat} {fs : List Value} {v : Value} (c k : Nat) (hkey : (c, k) ∈ keys) (he : cE c k (μ c k) = .inr (ci, fs)) (hc : vwCl[ci]? = some (C, T, N)) (hin : ∀ w ∈ u_ws C T N, w ∈ wsL_law) (j : Nat) (hj : j < N) (hw : Cond.fieldLinkNest own index (T j).1 (T j).2.1 (T j).2.2.1 host ∈ tb_nest) (hv : fs[j]? = some v) (d : decode cc pc = .ok (.getfield index, 3)) (kk : V (l, D, tys, keys, ad, cE, Z) X nL μ (pc + 3) lv (v :: st)) : V (l, D, tys, keys, ad, cE, Z) X nL μ pc lv (.ref (ad c k) :: st) := by
  obtain ⟨q0, hq0⟩ := List.getElem?_of_mem hkey
  obtain ⟨p, e, R, s, m, args, below, meth, c', A, Q, cells, slots⟩ := X
  obtain ⟨hx, hb, hml, hown, hts, hR, hr, hlk, hKK, hD, hcl⟩ := h
  intro H locs ls hP hS hl
  have hat : (wd (l, D, tys, keys, ad, cE, Z) μ)[q0]? = some (ad c k, cE c k (μ c k)) := wd_at (G := (l, D, tys, keys, ad, cE, Z)) (μ := μ) hq0
  rw [he] at hat
  exact va_getN (D := D) (C := C) (T := T) (N := N) hx hb hts hin hown hKK.1 hP q0 hat hc j hj (va_Nw.use rfl (hKK.2 _ hw)) (fun _ h9 => h9) hv d (kk H locs ls hP hS hl)
theorem r_putN {l : Launch} {D : va_G} {tys : List (ClassId × FieldType)} {keys : List (Nat × Nat)} {ad : Nat → Nat → Nat} {cE : Nat → Nat → (Nat → Int32) → va_E} {Z : va_W} {X : Cx} {nL : Nat} {μ : Mu} {pc : Nat} {lv : List (Nat × Value)} {st : List Value} {cc : ByteArray} {own : String} {rm : Room} {ret : Option FieldType} (h : HX (l, D, tys, keys, ad, cE, Z) X cc nL own rm ret) {host : String} {C : String} {T : u_T} {N ci index : Nat} {fs : List Value} {x : Int32} {ty : FieldType} (c k : Nat) (hkey : (c, k) ∈ keys) (he : cE c k (μ c k) = .inr (ci, fs)) (hc : vwCl[ci]? = some (C, T, N)) (hin : ∀ w ∈ u_ws C T N, w ∈ wsL_law) (ty0 : Nat → FieldType) (hty : ∀ k, k < N → parseFieldDescriptor (T k).2.2.1 = some (ty0 k)) (hnm : ∀ a, a < N → ∀ b, b < N → a ≠ b → (T a).2.1 ≠ (T b).2.1) (j : Nat) (hj : j < N) (hw : Cond.fieldLinkNest own index (T j).1 (T j).2.1 (T j).2.2.1 host ∈ tb_nest) (hfin : (T j).2.2.2 = false) (hd : parseFieldDescriptor (T j).2.2.1 = some ty) (hn : narrow ty (.int x) = .int x) (hfit : fits ty (.int x) = true) (hl' : j < fs.length) (he' : cE c k (upd (μ c k) j x) = .inr (ci, fs.set j (.int x))) (d : decode cc pc = .ok (.putfield index, 3)) (kk : ∀ μ1 : Mu, μ1 = mu_st μ c k j x → V (l, D, tys, keys, ad, cE, Z) X nL μ1 (pc + 3) lv st) : V (l, D, tys, keys, ad, cE, Z) X nL μ pc lv (.int x :: .ref (ad c k) :: st) := by
  obtain ⟨q0, hq0⟩ := List.getElem?_of_mem hkey
  have kk := kk _ rfl
  obtain ⟨p, e, R, s, m, args, below, meth, c', A, Q, cells, slots⟩ := X
  obtain ⟨hx, hb, hml, hown, hts, hR, hr, hlk, hKK, hD, hcl⟩ := h
  intro H locs ls hP hS hl
  have hat : (wd (l, D, tys, keys, ad, cE, Z) μ)[q0]? = some (ad c k, cE c k (μ c k)) := wd_at (G := (l, D, tys, keys, ad, cE, Z)) (μ := μ) hq0
  rw [he] at hat
  refine va_putN (D := D) (C := C) (T := T) (N := N) hx hb hts hin ty0 hty hnm hown hKK.1 hP (hD μ) hS q0 hat hc j hj (va_Nw.use rfl (hKK.2 _ hw)) (fun _ h9 => h9) hfin hd hn hfit hl' d (fun H1 locs1 hP1 hD1 hS1 => ?_)
  refine kk H1 locs1 ls ?_ hS1 hl
  have e1 : (wd (l, D, tys, keys, ad, cE, Z) μ).set q0 (ad c k, cE c k (upd (μ c k) j x)) = wd (l, D, tys, keys, ad, cE, Z) (mu_st μ c k j x) := wd_set (G := (l, D, tys, keys, ad, cE, Z)) (hD μ) hq0 (upd (μ c k) j x)
  rw [he'] at e1
  rw [← e1]
  exact hP1
theorem r_iald {l : Launch} {D : va_G} {tys : List (ClassId × FieldType)} {keys : List (Nat × Nat)} {ad : Nat → Nat → Nat} {cE : Nat → Nat → (Nat → Int32) → va_E} {Z : va_W} {X : Cx} {nL : Nat} {μ : Mu} {pc : Nat} {lv : List (Nat × Value)} {st : List Value} {cc : ByteArray} {own : String} {rm : Room} {ret : Option FieldType} (h : HX (l, D, tys, keys, ad, cE, Z) X cc nL own rm ret) {cA : ClassId} {n t0 : Nat} {i : Int32} (c k : Nat) (hkey : (c, k) ∈ keys) (he : cE c k (μ c k) = .inl (cA, n, .inl (μ c k))) (ht : tys[t0]? = some (cA, .int)) (hi : inb i n = true) (d : decode cc pc = .ok (.iaload, 1)) (kk : V (l, D, tys, keys, ad, cE, Z) X nL μ (pc + 1) lv (.int (μ c k i.toNatClampNeg) :: st)) : V (l, D, tys, keys, ad, cE, Z) X nL μ pc lv (.int i :: .ref (ad c k) :: st) := by
  obtain ⟨q0, hq0⟩ := List.getElem?_of_mem hkey
  obtain ⟨p, e, R, s, m, args, below, meth, c', A, Q, cells, slots⟩ := X
  obtain ⟨hx, hb, hml, hown, hts, hR, hr, hlk, hKK, hD, hcl⟩ := h
  intro H locs ls hP hS hl
  have hat : (wd (l, D, tys, keys, ad, cE, Z) μ)[q0]? = some (ad c k, cE c k (μ c k)) := wd_at (G := (l, D, tys, keys, ad, cE, Z)) (μ := μ) hq0
  rw [he] at hat
  exact va_iald hx hb hKK.1 hP q0 t0 hat ht (inb_in hi) d (kk H locs ls hP hS hl)
theorem r_aald {l : Launch} {D : va_G} {tys : List (ClassId × FieldType)} {keys : List (Nat × Nat)} {ad : Nat → Nat → Nat} {cE : Nat → Nat → (Nat → Int32) → va_E} {Z : va_W} {X : Cx} {nL : Nat} {μ : Mu} {pc : Nat} {lv : List (Nat × Value)} {st : List Value} {cc : ByteArray} {own : String} {rm : Room} {ret : Option FieldType} (h : HX (l, D, tys, keys, ad, cE, Z) X cc nL own rm ret) {cA : ClassId} {C : String} {n t0 : Nat} {f : Nat → Option Nat} {i : Int32} {a : Nat} (c k : Nat) (hkey : (c, k) ∈ keys) (he : cE c k (μ c k) = .inl (cA, n, .inr (.inr (.inr (.inr f))))) (ht : tys[t0]? = some (cA, .object C)) (hi : inb i n = true) (ha : f i.toNatClampNeg = some a) (d : decode cc pc = .ok (.aaload, 1)) (kk : V (l, D, tys, keys, ad, cE, Z) X nL μ (pc + 1) lv (.ref a :: st)) : V (l, D, tys, keys, ad, cE, Z) X nL μ pc lv (.int i :: .ref (ad c k) :: st) := by
  obtain ⟨q0, hq0⟩ := List.getElem?_of_mem hkey
  obtain ⟨p, e, R, s, m, args, below, meth, c', A, Q, cells, slots⟩ := X
  obtain ⟨hx, hb, hml, hown, hts, hR, hr, hlk, hKK, hD, hcl⟩ := h
  intro H locs ls hP hS hl
  have hat : (wd (l, D, tys, keys, ad, cE, Z) μ)[q0]? = some (ad c k, cE c k (μ c k)) := wd_at (G := (l, D, tys, keys, ad, cE, Z)) (μ := μ) hq0
  rw [he] at hat
  exact va_aldq hx hb hKK.1 hP q0 t0 hat ht (inb_in hi) d (by rw [ha]; exact kk H locs ls hP hS hl)
theorem r_iast {l : Launch} {D : va_G} {tys : List (ClassId × FieldType)} {keys : List (Nat × Nat)} {ad : Nat → Nat → Nat} {cE : Nat → Nat → (Nat → Int32) → va_E} {Z : va_W} {X : Cx} {nL : Nat} {μ : Mu} {pc : Nat} {lv : List (Nat × Value)} {st : List Value} {cc : ByteArray} {own : String} {rm : Room} {ret : Option FieldType} (h : HX (l, D, tys, keys, ad, cE, Z) X cc nL own rm ret) {cA : ClassId} {n t0 : Nat} {i x : Int32} (c k : Nat) (hkey : (c, k) ∈ keys) (he : ∀ g : Nat → Int32, cE c k g = .inl (cA, n, .inl g)) (ht : tys[t0]? = some (cA, .int)) (hi : inb i n = true) (d : decode cc pc = .ok (.iastore, 1)) (kk : ∀ μ1 : Mu, μ1 = mu_st μ c k i.toNatClampNeg x → V (l, D, tys, keys, ad, cE, Z) X nL μ1 (pc + 1) lv st) : V (l, D, tys, keys, ad, cE, Z) X nL μ pc lv (.int x :: .int i :: .ref (ad c k) :: st) := by
  obtain ⟨q0, hq0⟩ := List.getElem?_of_mem hkey
  have kk := kk _ rfl
  obtain ⟨p, e, R, s, m, args, below, meth, c', A, Q, cells, slots⟩ := X
  obtain ⟨hx, hb, hml, hown, hts, hR, hr, hlk, hKK, hD, hcl⟩ := h
  intro H locs ls hP hS hl
  have hat : (wd (l, D, tys, keys, ad, cE, Z) μ)[q0]? = some (ad c k, cE c k (μ c k)) := wd_at (G := (l, D, tys, keys, ad, cE, Z)) (μ := μ) hq0
  rw [he] at hat
  refine va_iast hx hb hKK.1 hP (hD μ) hS q0 t0 hat ht (inb_in hi) d (fun H1 locs1 hP1 hD1 hS1 => ?_)
  refine kk H1 locs1 ls ?_ hS1 hl
  have e1 : (wd (l, D, tys, keys, ad, cE, Z) μ).set q0 (ad c k, cE c k (upd (μ c k) i.toNatClampNeg x)) = wd (l, D, tys, keys, ad, cE, Z) (mu_st μ c k i.toNatClampNeg x) := wd_set (G := (l, D, tys, keys, ad, cE, Z)) (hD μ) hq0 (upd (μ c k) i.toNatClampNeg x)
  rw [he] at e1
  rw [← e1]
  exact hP1
theorem run_go {p : Program} {e : Env} {R : Room} {s : State} {m : MethodId} {args : Array Value} {below : List Frame} {meth : Method} {c : Code} {H : Heap} {locs : List Loc} {cells slots : Nat} {Q : State → Prop} {G : Gx} {A : Nat → Prop} {res : Option Value} {μ' : Mu} {a : Array Value} {pc : Nat} {ls : Array Slot} {st0 rest : List Value} {ws : va_W}
    (hr : va_Run p G.1 e R s m args below meth c H locs cells slots 0 0 (F0 m pc ls st0) rest (QC G A res μ' a) A) (hS : va_S A s.heap H locs)
    (kk : ∀ (H1 : Heap) (locs1 : List Loc), va_P G.2.1 vwCl (wd G μ') H1 → va_S A s.heap H1 locs1 → W p G.1 e R s m args below meth c H1 locs1 cells slots Q (F0 m (pc + 3) ls (res.toList ++ rest))) : W p G.1 e R s m args below meth c H locs cells slots Q (F0 m pc ls st0) := by
  intro T hT X
  obtain ⟨v, st₀, t, T', L, h0, X', hL, e1, e2, ⟨hv, hP, hz, hk⟩, st⟩ := hr T hT X
  cases hv
  rw [h0] at hz hk
  obtain ⟨t2, a1, b1⟩ := kk T'.heap (locs ++ L) (by rw [e1]; exact hP)
    ⟨Nat.le_trans hS.1 (by rw [e1]; exact hz), fun q h1 h2 => by rw [e1, hk q (Nat.lt_of_lt_of_le h1 hS.1) h2]; exact hS.2.1 q h1 h2, fun q hq => (List.mem_append.mp hq).elim (fun h => hS.2.2 q h) (fun h => hL q h)⟩ T' rfl X'
  exact ⟨t2, st t2 a1, b1⟩
/-- what the tables tell of a call of an instance method -/
def ckV (own : String) (index : Nat) (C : String) (y : MethodName) (b : ByteArray) (nl : Nat) (ret : Option FieldType) (n : Nat) : Prop :=
  Cond.methodLink own index y ∈ wsL_law ∧ Cond.instanceMethod y ∈ wsL_law ∧ Cond.selects C y y ∈ wsL_law ∧ Cond.initialized C ∈ wsL_law ∧ Cond.code y b nl ret ∈ wsL_law ∧ (y.cls = C ∧ y.cls ≠ "java/lang/invoke/MethodHandle" ∧ y.cls ≠ "java/lang/invoke/VarHandle" ∧ (parseMethodDescriptor y.desc).map (fun d => d.parameters.length) = some n)
def ckS (own : String) (index : Nat) (y : MethodName) (b : ByteArray) (nl : Nat) (ret : Option FieldType) (n : Nat) : Prop :=
  Cond.methodLink own index y ∈ wsL_law ∧ Cond.static y ∈ wsL_law ∧ Cond.initialized y.cls ∈ wsL_law ∧ Cond.code y b nl ret ∈ wsL_law ∧ (y.cls ≠ "java/lang/invoke/MethodHandle" ∧ y.cls ≠ "java/lang/invoke/VarHandle" ∧ (parseMethodDescriptor y.desc).map (fun d => d.parameters.length) = some n)
def rmOk (rm' rm : Room) (nl : Nat) : Prop := rm'.cells = 0 ∧ rm'.slots = 0 ∧ rm'.frames + 1 ≤ rm.frames ∧ 8 + (nl + 11) + rm'.locals ≤ rm.locals
theorem gi_V {own : String} {index : Nat} {C : String} {y : MethodName} {b : ByteArray} {nl : Nat} {ret : Option FieldType} {n : Nat} (h : ckV own index C y b nl ret n) : GoodIn wsL_law (wsV own index C y (.code y b nl ret :: wsL_law)) := by
  obtain ⟨h1, h2, h3, h4, h5, -⟩ := h
  intro w hw
  unfold wsV at hw
  simp only [List.mem_append, List.mem_cons, List.not_mem_nil, or_false] at hw
  rcases hw with (rfl | rfl | rfl | rfl) | rfl | hw
  · exact tb_gi _ h1
  · exact tb_gi _ h2
  · exact tb_gi _ h3
  · exact tb_gi _ h4
  · exact tb_gi _ h5
  · exact tb_gi _ hw
theorem gi_C {c : Cond} (h : c ∈ wsL_law) : GoodIn wsL_law (c :: wsL_law) := by
  intro w hw
  rcases List.mem_cons.mp hw with rfl | hw
  · exact tb_gi _ h
  · exact tb_gi _ hw
theorem r_callV {l : Launch} {D : va_G} {tys : List (ClassId × FieldType)} {keys : List (Nat × Nat)} {ad : Nat → Nat → Nat} {cE : Nat → Nat → (Nat → Int32) → va_E} {Z : va_W} {X : Cx} {nL : Nat} {μ : Mu} {pc : Nat} {lv : List (Nat × Value)} {st : List Value} {cc : ByteArray} {own : String} {rm : Room} {ret : Option FieldType} (h : HX (l, D, tys, keys, ad, cE, Z) X cc nL own rm ret) {C : String} {T : u_T} {N ci index n nl : Nat} {fs : List Value} {y : MethodName} {b : ByteArray} {rt : Option FieldType} {rm' : Room} {As rest st' : List Value} {res : Option Value} {μ' : Mu} (c k : Nat) (hM : CT (l, D, tys, keys, ad, cE, Z) y (.code y b nl rt :: wsL_law) rm' (.ref (ad c k) :: As) μ res μ') (ck : ckV own index C y b nl rt n) (hrm : rmOk rm' rm nl) (hkey : (c, k) ∈ keys) (he : cE c k (μ c k) = .inr (ci, fs)) (hc : vwCl[ci]? = some (C, T, N)) (hn : As.length = n) (hst : st = As.reverse ++ .ref (ad c k) :: rest) (hw : (rest.map fun v => v.category).sum ≤ 8) (d : decode cc pc = .ok (.invokevirtual index, 3)) (hst' : st' = res.toList ++ rest) (kk : V (l, D, tys, keys, ad, cE, Z) X nL μ' (pc + 3) lv st') : V (l, D, tys, keys, ad, cE, Z) X nL μ pc lv st := by
  subst hst; subst hst'
  obtain ⟨q0, hq0⟩ := List.getElem?_of_mem hkey
  obtain ⟨p, e, R, s, m, args, below, meth, c', A, Q, cells, slots⟩ := X
  obtain ⟨hx, hb, hml, hown, hts, rfl, hr, hlk, hKK, hD, hcl⟩ := h
  intro H locs ls hP hS hl
  have hat : (wd (l, D, tys, keys, ad, cE, Z) μ)[q0]? = some (ad c k, cE c k (μ c k)) := wd_at (G := (l, D, tys, keys, ad, cE, Z)) (μ := μ) hq0
  rw [he] at hat
  refine run_go (G := (l, D, tys, keys, ad, cE, Z)) (ws := []) (va_runV (As := As) (rest := rest) ⟨hx, hb, hml, hown, hts⟩ (hM A) (cwV n hts (gi_V ck) rfl hrm.1 hrm.2.1 ck.2.2.2.2.2 ⟨hrm.2.2.1, hrm.2.2.2⟩) ⟨PC.blind, va_recv hKK.1 hP (ci := ci) (q0 := q0) hc hat, fun U hU hW => ⟨rfl, by rw [hU]; exact hP, hKK.warm hW, hD⟩⟩ rfl hn hl.1 rfl (lv_room hw) d ⟨?_, ?_⟩) hS (fun H1 locs1 hP1 hS1 => kk H1 locs1 ls hP1 hS1 hl)
  · exact hcl.1
  · exact hcl.2
theorem r_callS {G : Gx} {X : Cx} {nL : Nat} {μ : Mu} {pc : Nat} {lv : List (Nat × Value)} {st : List Value} {cc : ByteArray} {own : String} {rm : Room} {ret : Option FieldType} (h : HX G X cc nL own rm ret) {index n nl : Nat} {y : MethodName} {b : ByteArray} {rt : Option FieldType} {rm' : Room} {As rest st' : List Value} {res : Option Value} {μ' : Mu} (hM : CT G y (.code y b nl rt :: wsL_law) rm' As μ res μ') (ck : ckS own index y b nl rt n) (hrm : rmOk rm' rm nl) (hn : As.length = n) (hst : st = As.reverse ++ rest) (hw : (rest.map fun v => v.category).sum ≤ 8) (d : decode cc pc = .ok (.invokestatic index, 3)) (hst' : st' = res.toList ++ rest) (kk : V G X nL μ' (pc + 3) lv st') : V G X nL μ pc lv st := by
  subst hst; subst hst'
  obtain ⟨p, e, R, s, m, args, below, meth, c', A, Q, cells, slots⟩ := X
  obtain ⟨hx, hb, hml, hown, hts, rfl, hr, hlk, hKK, hD, hcl⟩ := h
  intro H locs ls hP hS hl
  refine run_go (ws := []) (va_runS (As := As) (rest := rest) ⟨hx, hb, hml, hown, hts⟩ (hM A) ⟨callB_of n hts (gi_C ck.2.2.2.1) rfl hrm.1 hrm.2.1 (hts _ ck.2.2.1) (hts _ ck.1) ck.2.2.2.2 ⟨hrm.2.2.1, hrm.2.2.2⟩, hts _ ck.2.1⟩ ⟨PC.blind, fun U hU hW => ⟨rfl, by rw [hU]; exact hP, hKK.warm hW, hD⟩⟩ rfl hn hl.1 rfl (lv_room hw) d ⟨?_, ?_⟩) hS (fun H1 locs1 hP1 hS1 => kk H1 locs1 ls hP1 hS1 hl)
  · exact hcl.1
  · exact hcl.2
theorem r_mmin {G : Gx} {X : Cx} {nL : Nat} {μ : Mu} {pc : Nat} {lv : List (Nat × Value)} {st : List Value} {cc : ByteArray} {own : String} {rm : Room} {ret : Option FieldType} (h : HX G X cc nL own rm ret) {x y : Int32} {index : Nat} (h1 : Cond.methodLink own index Lib.Math.min.name ∈ wsL_law) (h2 : Cond.static Lib.Math.min.name ∈ wsL_law) (h3 : Cond.initialized "java/lang/Math" ∈ wsL_law) (h4 : Cond.code Lib.Math.min.name Lib.Math.min.code 2 (some .int) ∈ wsL_law) (hf : 1 ≤ rm.frames) (hlo : (st.map fun v => v.category).sum + 13 ≤ rm.locals) (d : decode cc pc = .ok (.invokestatic index, 3)) (k : V G X nL μ (pc + 3) lv (.int (if y < x then y else x) :: st)) : V G X nL μ pc lv (.int y :: .int x :: st) := by
  obtain ⟨p, e, R, s, m, args, below, meth, c, A, Q, cells, slots⟩ := X
  obtain ⟨hx, hb, hml, hown, hts, rfl, hr, hlk, hKK, hD, hcl⟩ := h
  exact fun H locs ls hP hS hl => va_mmin hx hb (hml.trans hl.1.symm) hown (hts _ h1) (hts _ h2) (hts _ h3) (hts _ h4) hf hlo hcl.1 hcl.2 d (k H locs ls hP hS hl)
theorem r_iret {G : Gx} {X : Cx} {nL : Nat} {μ μ' : Mu} {pc : Nat} {lv : List (Nat × Value)} {cc : ByteArray} {own : String} {rm : Room} (h : HX G X cc nL own rm (some .int)) {x r : Int32} (hQ : HQ G X (some (.int r)) μ') (e : x = r) (eμ : μ = μ') (d : decode cc pc = .ok (.ireturn, 1)) : V G X nL μ pc lv [.int x] := by
  subst e; subst eμ
  obtain ⟨p, e, R, s, m, args, below, meth, c, A, Q, cells, slots⟩ := X
  obtain ⟨hx, hb, hml, hown, hts, hR, hr, hlk, hKK, hD, hcl⟩ := h
  obtain ⟨rfl, rfl, rfl⟩ := hQ
  exact fun H locs ls hP hS hl => W.iret hx hb hr (fun t ht hW => ⟨rfl, by rw [ht]; exact hP, hS.F ht⟩) hS.2.2 d hlk
theorem r_lret {G : Gx} {X : Cx} {nL : Nat} {μ μ' : Mu} {pc : Nat} {lv : List (Nat × Value)} {cc : ByteArray} {own : String} {rm : Room} (h : HX G X cc nL own rm (some .long)) {x r : Int64} (hQ : HQ G X (some (.long r)) μ') (e : x = r) (eμ : μ = μ') (d : decode cc pc = .ok (.lreturn, 1)) : V G X nL μ pc lv [.long x] := by
  subst e; subst eμ
  obtain ⟨p, e, R, s, m, args, below, meth, c, A, Q, cells, slots⟩ := X
  obtain ⟨hx, hb, hml, hown, hts, hR, hr, hlk, hKK, hD, hcl⟩ := h
  obtain ⟨rfl, rfl, rfl⟩ := hQ
  exact fun H locs ls hP hS hl => W.lret hx hb hr (fun t ht hW => ⟨rfl, by rw [ht]; exact hP, hS.F ht⟩) hS.2.2 d hlk
theorem r_zret {G : Gx} {X : Cx} {nL : Nat} {μ μ' : Mu} {pc : Nat} {lv : List (Nat × Value)} {cc : ByteArray} {own : String} {rm : Room} (h : HX G X cc nL own rm (some .boolean)) {x r : Int32} (hz : x = 0 ∨ x = 1) (hQ : HQ G X (some (.int r)) μ') (e : x = r) (eμ : μ = μ') (d : decode cc pc = .ok (.ireturn, 1)) : V G X nL μ pc lv [.int x] := by
  subst e; subst eμ
  obtain ⟨p, e, R, s, m, args, below, meth, c, A, Q, cells, slots⟩ := X
  obtain ⟨hx, hb, hml, hown, hts, hR, hr, hlk, hKK, hD, hcl⟩ := h
  obtain ⟨rfl, rfl, rfl⟩ := hQ
  have hnz : narrow .boolean (.int x) = .int x := by rcases hz with rfl | rfl <;> rfl
  exact fun H locs ls hP hS hl => W.zret hx hb hr hnz (fun t ht hW => ⟨rfl, by rw [ht]; exact hP, hS.F ht⟩) hS.2.2 d hlk
theorem r_vret {G : Gx} {X : Cx} {nL : Nat} {μ μ' : Mu} {pc : Nat} {lv : List (Nat × Value)} {cc : ByteArray} {own : String} {rm : Room} (h : HX G X cc nL own rm none) (hQ : HQ G X none μ') (eμ : μ = μ') (d : decode cc pc = .ok (.return_, 1)) : V G X nL μ pc lv [] := by
  subst eμ
  obtain ⟨p, e, R, s, m, args, below, meth, c, A, Q, cells, slots⟩ := X
  obtain ⟨hx, hb, hml, hown, hts, hR, hr, hlk, hKK, hD, hcl⟩ := h
  obtain ⟨rfl, rfl, rfl⟩ := hQ
  exact fun H locs ls hP hS hl => W.vret hx hb hr (fun t ht hW => ⟨rfl, by rw [ht]; exact hP, hS.F ht⟩) hS.2.2 d hlk
theorem pr1 {α β : Type} {a a' : α} {b b' : β} (h : some (a, b) = some (a', b')) : a = a' := by cases h; rfl
theorem pr2 {α β : Type} {a a' : α} {b b' : β} (h : some (a, b) = some (a', b')) : b = b' := by cases h; rfl
theorem ct_of {G : Gx} {y : MethodName} {cc : ByteArray} {nL : Nat} {ret : Option FieldType} {rm : Room} {av : List Value} {μ : Mu} {res : Option Value} {μ' : Mu} (hy : plainName y.cls = true) (hrm : rm.cells = 0 ∧ rm.slots = 0) (hlen : (lg_sl av).length ≤ nL) {own : String} (ho : y.cls = own)
    (body : ∀ X : Cx, HX G X cc nL own rm ret → HQ G X res μ' → V G X nL μ 0 (lv_args 0 av) []) : CT G y (.code y cc nL ret :: wsL_law) rm av μ res μ' := by
  subst ho
  intro A
  refine Met.ofW (cc := cc) (maxL := nL) (ret := ret) hy rfl ?_
  intro p e s m args below meth c s₁ B hml hv
  obtain ⟨rfl, hP, hK, hD⟩ := hv
  have hts := atoms_spec (ws := .code y cc nL ret :: wsL_law) B.pre
  rw [lg_entry_eq]
  exact body (p, e, rm, s, m, _, below, meth, c, A, _, 0, 0) ⟨B.exec, B.bytes, hml, findClass_of_methodNamed B.named, fun w hw => hts w (List.mem_cons_of_mem _ hw), rfl, B.returns, B.notSynchronized, hK, hD, Nat.zero_le _, Nat.zero_le _⟩ ⟨rfl, rfl, rfl⟩ s.heap [] _ hP va_S.rf (lv_entry av hlen)
end
