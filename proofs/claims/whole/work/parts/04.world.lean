/-! The two worlds: the class's cells (kinds 0 to 15), the reference's (its object, an array by its field's slot). -/
theorem lt68 {k : Nat} (h : k < 6) : k < 8 := Nat.lt_trans h (by decide)
def cEC (cI cH cT : ClassId) (ad : Nat → Nat → Nat) (c k : Nat) (g : Nat → Int32) : va_E := match c with
  | 0 => .inr (7, [.ref (ad 1 0), .ref (ad 12 0), .int (g 2), .ref (ad 14 6), .ref (ad 14 7)])
  | 1 => .inr (1, [.ref (ad 2 0), .ref (ad 5 0), .ref (ad 9 0), .ref (ad 10 0), .int (g 4)])
  | 2 => .inr (0, [.ref (ad 3 0), .ref (ad 4 0), .int (g 2)])
  | 3 => .inl (cI, 120, .inl g)
  | 4 => .inl (cI, 120, .inl g)
  | 5 => .inr (4, [.ref (ad 6 0), .ref (ad 7 0), .ref (ad 8 0), .int (g 3)])
  | 6 => .inl (cI, 12, .inl g)
  | 7 => .inl (cI, 12, .inl g)
  | 8 => .inl (cI, 12, .inl g)
  | 9 => .inr (3, [.int (g 0), .int (g 1), .int (g 2), .int (g 3), .int (g 4), .int (g 5)])
  | 10 => .inl (cH, 8, .inr (.inr (.inr (.inr (fun i => some (ad 11 i))))))
  | 11 => .inr (2, [.int (g 0), .int (g 1), .int (g 2), .int (g 3), .int (g 4)])
  | 12 => .inl (cT, 6, .inr (.inr (.inr (.inr (fun i => some (ad 13 i))))))
  | 13 => .inr (6, [.ref (ad 14 k), .int (g 1), .int (g 2)])
  | 14 => .inr (5, [.ref (ad 15 k), .int (g 1)])
  | _ => .inl (cI, 40, .inl g)
def keysC : List (Nat × Nat) := [(0, 0), (1, 0), (2, 0), (3, 0), (4, 0), (5, 0), (6, 0), (7, 0), (8, 0), (9, 0), (10, 0), (12, 0)] ++ ((List.range 8).map (fun k => (11, k)) ++ ((List.range 6).map (fun k => (13, k)) ++ ((List.range 8).map (fun k => (14, k)) ++ (List.range 8).map (fun k => (15, k)))))
abbrev gC (l : Launch) (D : va_G) (cI cH cT : ClassId) (ad : Nat → Nat → Nat) (Z : va_W) : Gx := (l, D, [(cI, .int), (cH, .object "HookTrays$Hook"), (cT, .object "HookTrays$Tray")], keysC, ad, cEC cI cH cT ad, Z)
theorem kyC0 : (0, 0) ∈ keysC := List.mem_append_left _ (List.mem_of_getElem? (i := 0) rfl)
theorem kyC1 : (1, 0) ∈ keysC := List.mem_append_left _ (List.mem_of_getElem? (i := 1) rfl)
theorem kyC2 : (2, 0) ∈ keysC := List.mem_append_left _ (List.mem_of_getElem? (i := 2) rfl)
theorem kyC3 : (3, 0) ∈ keysC := List.mem_append_left _ (List.mem_of_getElem? (i := 3) rfl)
theorem kyC4 : (4, 0) ∈ keysC := List.mem_append_left _ (List.mem_of_getElem? (i := 4) rfl)
theorem kyC5 : (5, 0) ∈ keysC := List.mem_append_left _ (List.mem_of_getElem? (i := 5) rfl)
theorem kyC6 : (6, 0) ∈ keysC := List.mem_append_left _ (List.mem_of_getElem? (i := 6) rfl)
theorem kyC7 : (7, 0) ∈ keysC := List.mem_append_left _ (List.mem_of_getElem? (i := 7) rfl)
theorem kyC8 : (8, 0) ∈ keysC := List.mem_append_left _ (List.mem_of_getElem? (i := 8) rfl)
theorem kyC9 : (9, 0) ∈ keysC := List.mem_append_left _ (List.mem_of_getElem? (i := 9) rfl)
theorem kyC10 : (10, 0) ∈ keysC := List.mem_append_left _ (List.mem_of_getElem? (i := 10) rfl)
theorem kyC12 : (12, 0) ∈ keysC := List.mem_append_left _ (List.mem_of_getElem? (i := 11) rfl)
theorem kyC11 {k : Nat} (h : k < 8) : (11, k) ∈ keysC := List.mem_append_right _ (List.mem_append_left _ (List.mem_map.mpr ⟨k, List.mem_range.mpr h, rfl⟩))
theorem kyC13 {k : Nat} (h : k < 6) : (13, k) ∈ keysC := List.mem_append_right _ (List.mem_append_right _ (List.mem_append_left _ (List.mem_map.mpr ⟨k, List.mem_range.mpr h, rfl⟩)))
theorem kyC14 {k : Nat} (h : k < 8) : (14, k) ∈ keysC := List.mem_append_right _ (List.mem_append_right _ (List.mem_append_right _ (List.mem_append_left _ (List.mem_map.mpr ⟨k, List.mem_range.mpr h, rfl⟩))))
theorem kyC15 {k : Nat} (h : k < 8) : (15, k) ∈ keysC := List.mem_append_right _ (List.mem_append_right _ (List.mem_append_right _ (List.mem_append_right _ (List.mem_map.mpr ⟨k, List.mem_range.mpr h, rfl⟩))))
def lenR (c : Nat) : Nat := match c with
  | 1 => 120
  | 2 => 120
  | 4 => 8
  | 5 => 8
  | 6 => 8
  | 7 => 8
  | 8 => 8
  | 10 => 12
  | 11 => 12
  | 12 => 12
  | 13 => 12
  | 15 => 6
  | 16 => 6
  | 17 => 6
  | 18 => 240
  | 27 => 41
  | _ => 41
def cER (cI : ClassId) (ad : Nat → Nat → Nat) (c k : Nat) (g : Nat → Int32) : va_E := match c with
  | 0 => .inr (8, [.int (g 0), .ref (ad 1 0), .ref (ad 2 0), .int (g 3), .ref (ad 4 0), .ref (ad 5 0), .ref (ad 6 0), .ref (ad 7 0), .ref (ad 8 0), .int (g 9), .ref (ad 10 0), .ref (ad 11 0), .ref (ad 12 0), .ref (ad 13 0), .int (g 14), .ref (ad 15 0), .ref (ad 16 0), .ref (ad 17 0), .ref (ad 18 0), .int (g 19), .int (g 20), .int (g 21), .int (g 22), .int (g 23), .int (g 24), .int (g 25), .int (g 26), .ref (ad 27 0), .ref (ad 28 0)])
  | c + 1 => .inl (cI, lenR (c + 1), .inl g)
def keysR : List (Nat × Nat) := [(0, 0), (1, 0), (2, 0), (4, 0), (5, 0), (6, 0), (7, 0), (8, 0), (10, 0), (11, 0), (12, 0), (13, 0), (15, 0), (16, 0), (17, 0), (18, 0), (27, 0), (28, 0)]
abbrev gR (l : Launch) (D : va_G) (cI cH cT : ClassId) (ad : Nat → Nat → Nat) (Z : va_W) : Gx := (l, D, [(cI, .int), (cH, .object "HookTrays$Hook"), (cT, .object "HookTrays$Tray")], keysR, ad, cER cI ad, Z)
theorem kyR0 : (0, 0) ∈ keysR := List.mem_of_getElem? (i := 0) rfl
theorem kyR1 : (1, 0) ∈ keysR := List.mem_of_getElem? (i := 1) rfl
theorem kyR2 : (2, 0) ∈ keysR := List.mem_of_getElem? (i := 2) rfl
theorem kyR4 : (4, 0) ∈ keysR := List.mem_of_getElem? (i := 3) rfl
theorem kyR5 : (5, 0) ∈ keysR := List.mem_of_getElem? (i := 4) rfl
theorem kyR6 : (6, 0) ∈ keysR := List.mem_of_getElem? (i := 5) rfl
theorem kyR7 : (7, 0) ∈ keysR := List.mem_of_getElem? (i := 6) rfl
theorem kyR8 : (8, 0) ∈ keysR := List.mem_of_getElem? (i := 7) rfl
theorem kyR10 : (10, 0) ∈ keysR := List.mem_of_getElem? (i := 8) rfl
theorem kyR11 : (11, 0) ∈ keysR := List.mem_of_getElem? (i := 9) rfl
theorem kyR12 : (12, 0) ∈ keysR := List.mem_of_getElem? (i := 10) rfl
theorem kyR13 : (13, 0) ∈ keysR := List.mem_of_getElem? (i := 11) rfl
theorem kyR15 : (15, 0) ∈ keysR := List.mem_of_getElem? (i := 12) rfl
theorem kyR16 : (16, 0) ∈ keysR := List.mem_of_getElem? (i := 13) rfl
theorem kyR17 : (17, 0) ∈ keysR := List.mem_of_getElem? (i := 14) rfl
theorem kyR18 : (18, 0) ∈ keysR := List.mem_of_getElem? (i := 15) rfl
theorem kyR27 : (27, 0) ∈ keysR := List.mem_of_getElem? (i := 16) rfl
theorem kyR28 : (28, 0) ∈ keysR := List.mem_of_getElem? (i := 17) rfl
theorem ckV_X1_43 : ckV RX1 43 RX2 yX2_become cX2_become 3 none 2 := ⟨tw1_231, tw1_232, tw1_233, tw1_6, tw1_234, by decide +kernel⟩
theorem ckV_X1_47 : ckV RX1 47 RX1 yX1_hasHook cX1_hasHook 2 (some .boolean) 1 := ⟨tw2_7, tw2_0, tw2_1, tw1_2, tw2_2, by decide +kernel⟩
theorem ckV_X1_54 : ckV RX1 54 RX1 yX1_kindOf cX1_kindOf 2 (some .int) 1 := ⟨tw2_55, tw2_32, tw2_33, tw1_2, tw2_34, by decide +kernel⟩
theorem ckV_X1_67 : ckV RX1 67 RX3 yX3_begin cX3_begin 1 none 0 := ⟨tw2_72, tw2_73, tw2_74, tw1_5, tw2_75, by decide +kernel⟩
theorem ckV_X1_70 : ckV RX1 70 RX1 yX1_beginCall cX1_beginCall 5 (some .int) 1 := ⟨tw2_112, tw2_114, tp1_2, tw1_2, tw2_115, by decide +kernel⟩
theorem ckV_X1_73 : ckV RX1 73 RX1 yX1_compareTruly cX1_compareTruly 6 (some .int) 3 := ⟨tw2_129, tw2_130, tw2_131, tw1_2, tw2_132, by decide +kernel⟩
theorem ckV_X1_77 : ckV RX1 77 RX0 yX0_weightOf cX0_weightOf 2 (some .int) 1 := ⟨tw2_133, tw1_216, tw1_217, tw1_3, tw1_218, by decide +kernel⟩
theorem ckV_X1_80 : ckV RX1 80 RX1 yX1_numberOf cX1_numberOf 2 (some .int) 1 := ⟨tw2_214, tw2_216, tp1_7, tw1_2, tw2_217, by decide +kernel⟩
theorem ckV_X1_83 : ckV RX1 83 RX0 yX0_markOf cX0_markOf 2 (some .int) 1 := ⟨tw2_137, tw1_220, tw1_221, tw1_3, tw1_222, by decide +kernel⟩
theorem ckV_X1_86 : ckV RX1 86 RX0 yX0_add cX0_add 3 (some .int) 2 := ⟨tw2_235, tw1_203, tw1_204, tw1_3, tw1_205, by decide +kernel⟩
theorem ckV_X1_98 : ckV RX1 98 RX4 yX4_indexOf cX4_indexOf 4 (some .int) 2 := ⟨tw2_116, tw2_16, tw2_17, tw1_4, tw2_18, by decide +kernel⟩
theorem ckV_X1_101 : ckV RX1 101 RX4 yX4_effectOf cX4_effectOf 2 (some .int) 1 := ⟨tw2_117, tw2_118, tw2_119, tw1_4, tw2_120, by decide +kernel⟩
theorem ckV_X1_104 : ckV RX1 104 RX4 yX4_drop cX4_drop 2 none 1 := ⟨tw2_121, tw2_122, tw2_123, tw1_4, tw2_124, by decide +kernel⟩
theorem ckV_X1_108 : ckV RX1 108 RX3 yX3_fail cX3_fail 4 none 3 := ⟨tw2_125, tw2_126, tw2_127, tw1_5, tw2_128, by decide +kernel⟩
theorem ckV_X4_25 : ckV RX4 25 RX4 yX4_indexOf cX4_indexOf 4 (some .int) 2 := ⟨tw2_15, tw2_16, tw2_17, tw1_4, tw2_18, by decide +kernel⟩
theorem ckV_X5_19 : ckV RX5 19 RX5 yX5_hasPlace cX5_hasPlace 2 (some .boolean) 1 := ⟨tw2_92, tw2_93, tw2_94, tw1_8, tw2_95, by decide +kernel⟩
theorem ckV_X5_23 : ckV RX5 23 RX5 yX5_clear cX5_clear 1 none 0 := ⟨tw2_80, tw2_81, tw2_82, tw1_8, tw2_83, by decide +kernel⟩
theorem ckV_X5_26 : ckV RX5 26 RX5 yX5_appendPart cX5_appendPart 5 none 3 := ⟨tw2_84, tw2_85, tw2_86, tw1_8, tw2_87, by decide +kernel⟩
theorem ckV_X5_30 : ckV RX5 30 RX5 yX5_cardAt cX5_cardAt 2 (some .int) 1 := ⟨tw2_88, tw2_89, tw2_90, tw1_8, tw2_91, by decide +kernel⟩
theorem ckV_X5_34 : ckV RX5 34 RX5 yX5_append cX5_append 2 none 1 := ⟨tw2_96, tw2_97, tw2_98, tw1_8, tw2_99, by decide +kernel⟩
theorem ckV_X5_38 : ckV RX5 38 RX5 yX5_replace cX5_replace 3 none 2 := ⟨tw2_146, tw2_147, tw2_148, tw1_8, tw2_149, by decide +kernel⟩
theorem ckV_X5_42 : ckV RX5 42 RX5 yX5_swap cX5_swap 4 none 2 := ⟨tw2_142, tw2_143, tw2_144, tw1_8, tw2_145, by decide +kernel⟩
theorem ckV_X5_45 : ckV RX5 45 RX1 yX1_askComparing cX1_askComparing 6 (some .int) 3 := ⟨tw2_108, tw2_109, tw2_110, tw1_2, tw2_111, by decide +kernel⟩
theorem ckV_X7_45 : ckV RX7 45 RX0 yX0_add cX0_add 3 (some .int) 2 := ⟨tw1_202, tw1_203, tw1_204, tw1_3, tw1_205, by decide +kernel⟩
theorem ckV_X7_51 : ckV RX7 51 RX0 yX0_has cX0_has 2 (some .boolean) 1 := ⟨tw1_210, tw1_211, tw1_212, tw1_3, tw1_213, by decide +kernel⟩
theorem ckV_X7_57 : ckV RX7 57 RX0 yX0_weightOf cX0_weightOf 2 (some .int) 1 := ⟨tw1_215, tw1_216, tw1_217, tw1_3, tw1_218, by decide +kernel⟩
theorem ckV_X7_61 : ckV RX7 61 RX0 yX0_markOf cX0_markOf 2 (some .int) 1 := ⟨tw1_219, tw1_220, tw1_221, tw1_3, tw1_222, by decide +kernel⟩
theorem ckV_X7_64 : ckV RX7 64 RX1 yX1_addHook cX1_addHook 3 (some .int) 2 := ⟨tw1_227, tw1_228, tw1_229, tw1_2, tw1_230, by decide +kernel⟩
theorem ckV_X7_67 : ckV RX7 67 RX1 yX1_hasHook cX1_hasHook 2 (some .boolean) 1 := ⟨tw1_239, tw2_0, tw2_1, tw1_2, tw2_2, by decide +kernel⟩
theorem ckV_X7_74 : ckV RX7 74 RX1 yX1_callsOf cX1_callsOf 2 (some .int) 1 := ⟨tw2_3, tw2_4, tw2_5, tw1_2, tw2_6, by decide +kernel⟩
theorem ckV_X7_80 : ckV RX7 80 RX4 yX4_stand cX4_stand 5 (some .int) 3 := ⟨tw2_11, tw2_12, tw2_13, tw1_4, tw2_14, by decide +kernel⟩
theorem ckV_X7_86 : ckV RX7 86 RX4 yX4_clear cX4_clear 2 (some .int) 0 := ⟨tw2_23, tw2_24, tw2_25, tw1_4, tw2_26, by decide +kernel⟩
theorem ckV_X7_90 : ckV RX7 90 RX1 yX1_kindOf cX1_kindOf 2 (some .int) 1 := ⟨tw2_31, tw2_32, tw2_33, tw1_2, tw2_34, by decide +kernel⟩
theorem ckV_X7_93 : ckV RX7 93 RX1 yX1_latestCallsOf cX1_latestCallsOf 2 (some .int) 1 := ⟨tw2_35, tw2_36, tw2_37, tw1_2, tw2_38, by decide +kernel⟩
theorem ckV_X7_96 : ckV RX7 96 RX1 yX1_misusesOf cX1_misusesOf 2 (some .int) 1 := ⟨tw2_39, tw2_40, tw2_41, tw1_2, tw2_42, by decide +kernel⟩
theorem ckV_X7_99 : ckV RX7 99 RX4 yX4_standingFor cX4_standingFor 4 (some .int) 1 := ⟨tw2_43, tw2_44, tw2_45, tw1_4, tw2_46, by decide +kernel⟩
theorem ckV_X7_102 : ckV RX7 102 RX1 yX1_compares cX1_compares 3 (some .boolean) 1 := ⟨tw2_51, tw2_52, tw2_53, tw1_2, tw2_54, by decide +kernel⟩
theorem ckV_X7_105 : ckV RX7 105 RX6 yX6_become cX6_become 3 none 2 := ⟨tw2_56, tw2_57, tw2_58, tw1_7, tw2_59, by decide +kernel⟩
theorem ckV_X7_109 : ckV RX7 109 RX7 yX7_hasTray cX7_hasTray 2 (some .boolean) 1 := ⟨tw2_64, tw2_66, tp1_0, tw1_1, tw2_67, by decide +kernel⟩
theorem ckV_X7_118 : ckV RX7 118 RX1 yX1_beginAct cX1_beginAct 2 none 0 := ⟨tw2_68, tw2_69, tw2_70, tw1_2, tw2_71, by decide +kernel⟩
theorem ckV_X7_121 : ckV RX7 121 RX5 yX5_copy cX5_copy 2 none 1 := ⟨tw2_76, tw2_77, tw2_78, tw1_8, tw2_79, by decide +kernel⟩
theorem ckV_X7_125 : ckV RX7 125 RX7 yX7_placeOnDraft cX7_placeOnDraft 4 (some .boolean) 2 := ⟨tw2_100, tw2_102, tp1_1, tw1_1, tw2_103, by decide +kernel⟩
theorem ckV_X7_129 : ckV RX7 129 RX7 yX7_keepDraft cX7_keepDraft 3 (some .int) 2 := ⟨tw2_155, tw2_157, tp1_3, tw1_1, tw2_158, by decide +kernel⟩
theorem ckV_X7_133 : ckV RX7 133 RX5 yX5_hasPlace cX5_hasPlace 2 (some .boolean) 1 := ⟨tw2_163, tw2_93, tw2_94, tw1_8, tw2_95, by decide +kernel⟩
theorem ckV_X7_136 : ckV RX7 136 RX7 yX7_removeOnDraft cX7_removeOnDraft 5 (some .boolean) 2 := ⟨tw2_164, tw2_166, tp1_4, tw1_1, tw2_167, by decide +kernel⟩
theorem ckV_X7_139 : ckV RX7 139 RX5 yX5_cardAt cX5_cardAt 2 (some .int) 1 := ⟨tw2_181, tw2_89, tw2_90, tw1_8, tw2_91, by decide +kernel⟩
theorem ckV_X7_148 : ckV RX7 148 RX5 yX5_placeFor cX5_placeFor 8 (some .int) 3 := ⟨tw2_104, tw2_105, tw2_106, tw1_8, tw2_107, by decide +kernel⟩
theorem ckV_X7_152 : ckV RX7 152 RX7 yX7_sortDraftAnew cX7_sortDraftAnew 7 (some .boolean) 1 := ⟨tw2_190, tw2_192, tp1_5, tw1_1, tw2_193, by decide +kernel⟩
theorem ckV_X7_155 : ckV RX7 155 RX7 yX7_judgeOntoDraft cX7_judgeOntoDraft 5 (some .boolean) 2 := ⟨tw2_206, tw2_208, tp1_6, tw1_1, tw2_209, by decide +kernel⟩
theorem ckV_X7_159 : ckV RX7 159 RX5 yX5_clear cX5_clear 1 none 0 := ⟨tw2_194, tw2_81, tw2_82, tw1_8, tw2_83, by decide +kernel⟩
theorem ckV_X7_161 : ckV RX7 161 RX7 yX7_placeAllOnDraft cX7_placeAllOnDraft 4 (some .boolean) 2 := ⟨tw2_219, tw2_221, tp1_8, tw1_1, tw2_222, by decide +kernel⟩
theorem ckV_X7_166 : ckV RX7 166 RX7 yX7_changeCards cX7_changeCards 5 (some .boolean) 2 := ⟨tw2_227, tw2_229, tp1_9, tw1_1, tw2_230, by decide +kernel⟩
theorem ckV_X7_169 : ckV RX7 169 RX7 yX7_mergeIntoDraft cX7_mergeIntoDraft 4 (some .boolean) 2 := ⟨tw3_1, tw3_3, tp1_10, tw1_1, tw3_4, by decide +kernel⟩
theorem ckV_X7_172 : ckV RX7 172 RX7 yX7_isWhole cX7_isWhole 4 (some .boolean) 1 := ⟨tw3_13, tw3_15, tp1_11, tw1_1, tw3_16, by decide +kernel⟩
theorem ckV_X7_176 : ckV RX7 176 RX5 yX5_isLike cX5_isLike 3 (some .boolean) 1 := ⟨tw3_22, tw3_23, tw3_24, tw1_8, tw3_25, by decide +kernel⟩
theorem ckV_X7_206 : ckV RX7 206 RX5 yX5_insert cX5_insert 4 none 2 := ⟨tw2_138, tw2_139, tw2_140, tw1_8, tw2_141, by decide +kernel⟩
theorem ckV_X7_209 : ckV RX7 209 RX5 yX5_append cX5_append 2 none 1 := ⟨tw2_150, tw2_97, tw2_98, tw1_8, tw2_99, by decide +kernel⟩
theorem ckV_X7_213 : ckV RX7 213 RX5 yX5_rise cX5_rise 7 (some .int) 3 := ⟨tw2_151, tw2_152, tw2_153, tw1_8, tw2_154, by decide +kernel⟩
theorem ckV_X7_216 : ckV RX7 216 RX5 yX5_remove cX5_remove 3 none 1 := ⟨tw2_168, tw2_169, tw2_170, tw1_8, tw2_171, by decide +kernel⟩
theorem ckV_X7_219 : ckV RX7 219 RX5 yX5_swap cX5_swap 4 none 2 := ⟨tw2_172, tw2_143, tw2_144, tw1_8, tw2_145, by decide +kernel⟩
theorem ckV_X7_222 : ckV RX7 222 RX5 yX5_sink cX5_sink 7 (some .int) 3 := ⟨tw2_173, tw2_174, tw2_175, tw1_8, tw2_176, by decide +kernel⟩
theorem ckV_X7_230 : ckV RX7 230 RX5 yX5_appendMerged cX5_appendMerged 10 (some .boolean) 6 := ⟨tw2_198, tw2_199, tw2_200, tw1_8, tw2_201, by decide +kernel⟩
theorem ckV_X7_234 : ckV RX7 234 RX1 yX1_askKeeping cX1_askKeeping 5 (some .int) 2 := ⟨tw2_210, tw2_211, tw2_212, tw1_2, tw2_213, by decide +kernel⟩
theorem ckV_X7_237 : ckV RX7 237 RX5 yX5_appendPart cX5_appendPart 5 none 3 := ⟨tw2_218, tw2_85, tw2_86, tw1_8, tw2_87, by decide +kernel⟩
theorem ckV_X7_241 : ckV RX7 241 RX1 yX1_askAdding cX1_askAdding 6 (some .int) 2 := ⟨tw2_231, tw2_232, tw2_233, tw1_2, tw2_234, by decide +kernel⟩
theorem ckV_X7_244 : ckV RX7 244 RX5 yX5_replace cX5_replace 3 none 2 := ⟨tw2_236, tw2_147, tw2_148, tw1_8, tw2_149, by decide +kernel⟩
theorem ckV_X7_247 : ckV RX7 247 RX1 yX1_compareTruly cX1_compareTruly 6 (some .int) 3 := ⟨tw3_17, tw2_130, tw2_131, tw1_2, tw2_132, by decide +kernel⟩
theorem ckV_X8_80 : ckV RX8 80 RX8 yX8_isCard cX8_isCard 2 (some .boolean) 1 := ⟨tw3_140, tw3_142, tp1_12, tw1_9, tw3_143, by decide +kernel⟩
theorem ckV_X8_91 : ckV RX8 91 RX8 yX8_isHook cX8_isHook 2 (some .boolean) 1 := ⟨tw3_154, tw3_156, tp1_13, tw1_9, tw3_157, by decide +kernel⟩
theorem ckV_X8_98 : ckV RX8 98 RX8 yX8_planOf cX8_planOf 5 (some .int) 2 := ⟨tw3_160, tw3_162, tp1_14, tw1_9, tw3_163, by decide +kernel⟩
theorem ckV_X8_102 : ckV RX8 102 RX8 yX8_dropPlan cX8_dropPlan 2 none 1 := ⟨tw3_164, tw3_166, tp1_15, tw1_9, tw3_167, by decide +kernel⟩
theorem ckV_X8_119 : ckV RX8 119 RX8 yX8_begins cX8_begins 5 (some .boolean) 1 := ⟨tw3_212, tw3_214, tp2_7, tw1_9, tw3_215, by decide +kernel⟩
theorem ckV_X8_122 : ckV RX8 122 RX8 yX8_truth cX8_truth 5 (some .int) 3 := ⟨tw3_216, tw3_218, tp2_8, tw1_9, tw3_219, by decide +kernel⟩
theorem ckV_X8_126 : ckV RX8 126 RX8 yX8_compares cX8_compares 2 (some .boolean) 1 := ⟨tw3_180, tw3_182, tp2_0, tw1_9, tw3_183, by decide +kernel⟩
theorem ckV_X8_141 : ckV RX8 141 RX8 yX8_give cX8_give 3 none 1 := ⟨tw3_239, tw4_1, tp2_13, tw1_9, tw4_2, by decide +kernel⟩
theorem ckV_X8_144 : ckV RX8 144 RX8 yX8_isAhead cX8_isAhead 6 (some .boolean) 3 := ⟨tw3_208, tw3_210, tp2_6, tw1_9, tw3_211, by decide +kernel⟩
theorem ckV_X8_148 : ckV RX8 148 RX8 yX8_turn cX8_turn 4 none 2 := ⟨tw3_231, tw3_233, tp2_11, tw1_9, tw3_234, by decide +kernel⟩
theorem ckV_X8_152 : ckV RX8 152 RX8 yX8_halving cX8_halving 6 (some .int) 2 := ⟨tw3_204, tw3_206, tp2_5, tw1_9, tw3_207, by decide +kernel⟩
theorem ckV_X8_155 : ckV RX8 155 RX8 yX8_insert cX8_insert 4 none 2 := ⟨tw3_223, tw3_225, tp2_9, tw1_9, tw3_226, by decide +kernel⟩
theorem ckV_X8_158 : ckV RX8 158 RX8 yX8_up cX8_up 6 (some .boolean) 2 := ⟨tw3_227, tw3_229, tp2_10, tw1_9, tw3_230, by decide +kernel⟩
theorem ckV_X8_162 : ckV RX8 162 RX8 yX8_isTray cX8_isTray 2 (some .boolean) 1 := ⟨tw3_188, tw3_190, tp2_1, tw1_9, tw3_191, by decide +kernel⟩
theorem ckV_X8_165 : ckV RX8 165 RX8 yX8_beginAct cX8_beginAct 2 none 0 := ⟨tw3_192, tw3_194, tp2_2, tw1_9, tw3_195, by decide +kernel⟩
theorem ckV_X8_168 : ckV RX8 168 RX8 yX8_load cX8_load 3 none 1 := ⟨tw3_196, tw3_198, tp2_3, tw1_9, tw3_199, by decide +kernel⟩
theorem ckV_X8_171 : ckV RX8 171 RX8 yX8_comes cX8_comes 5 none 3 := ⟨tw3_200, tw3_202, tp2_4, tw1_9, tw3_203, by decide +kernel⟩
theorem ckV_X8_175 : ckV RX8 175 RX8 yX8_ends cX8_ends 2 (some .int) 1 := ⟨tw3_235, tw3_237, tp2_12, tw1_9, tw3_238, by decide +kernel⟩
theorem ckV_X8_179 : ckV RX8 179 RX8 yX8_remove cX8_remove 3 none 1 := ⟨tw4_11, tw4_13, tp2_15, tw1_9, tw4_14, by decide +kernel⟩
theorem ckV_X8_182 : ckV RX8 182 RX8 yX8_down cX8_down 6 none 2 := ⟨tw4_15, tw4_17, tp3_0, tw1_9, tw4_18, by decide +kernel⟩
theorem ckV_X8_185 : ckV RX8 185 RX8 yX8_goes cX8_goes 3 none 2 := ⟨tw4_7, tw4_9, tp2_14, tw1_9, tw4_10, by decide +kernel⟩
theorem ckV_X8_188 : ckV RX8 188 RX8 yX8_merge cX8_merge 9 none 4 := ⟨tw4_31, tw4_33, tp3_1, tw1_9, tw4_34, by decide +kernel⟩
theorem ckV_X8_192 : ckV RX8 192 RX8 yX8_isKept cX8_isKept 4 (some .boolean) 2 := ⟨tw4_39, tw4_41, tp3_2, tw1_9, tw4_42, by decide +kernel⟩
theorem ckS_X1_90 : ckS RX1 90 yJ6_compare_7cf53 cJ6_compare_7cf53 2 (some .int) 2 := ⟨tw2_134, tw2_135, tw1_10, tw2_136, by decide +kernel⟩
theorem ckS_X7_37 : ckS RX7 37 yX7_isWithin cX7_isWithin 3 (some .boolean) 3 := ⟨tw1_199, tw1_200, tw1_1, tw1_201, by decide +kernel⟩
theorem ckS_X7_77 : ckS RX7 77 yX7_plannedEffect cX7_plannedEffect 2 (some .int) 2 := ⟨tw2_8, tw2_9, tw1_1, tw2_10, by decide +kernel⟩
theorem ckS_X8_68 : ckS RX8 68 yX8_in cX8_in 6 (some .boolean) 3 := ⟨tw3_133, tw3_134, tw1_9, tw3_135, by decide +kernel⟩
theorem ckS_X8_116 : ckS RX8 116 yX8_sign cX8_sign 2 (some .int) 2 := ⟨tw3_220, tw3_221, tw1_9, tw3_222, by decide +kernel⟩
