/-- the tables' words that a call may hand on -/
def wsL_law : List Cond := lw_tbl.filter goodWord
theorem wsL_law_in : ∀ w ∈ wsL_law, w ∈ lw_tbl := fun w h => (List.mem_filter.mp h).1
theorem tb_gi : GoodIn wsL_law wsL_law := fun w h => ⟨h, good_of_word (List.mem_filter.mp h).2⟩
theorem tb_in {w : Cond} (h : w ∈ lw_tbl) (hg : goodWord w = true) : w ∈ wsL_law := List.mem_filter.mpr ⟨h, hg⟩
theorem tbt1 {w : Cond} (h : w ∈ tables_1_1) : w ∈ lw_tbl := List.mem_append_right _ (List.mem_append_left _ h)
theorem tbt2 {w : Cond} (h : w ∈ tables_1_2) : w ∈ lw_tbl := List.mem_append_right _ (List.mem_append_right _ (List.mem_append_left _ h))
theorem tbt3 {w : Cond} (h : w ∈ tables_1_3) : w ∈ lw_tbl := List.mem_append_right _ (List.mem_append_right _ (List.mem_append_right _ (List.mem_append_left _ h)))
theorem tbt4 {w : Cond} (h : w ∈ tables_1_4) : w ∈ lw_tbl := List.mem_append_right _ (List.mem_append_right _ (List.mem_append_right _ (List.mem_append_right _ h)))
theorem tw1_0 : (.initialized RL : Cond) ∈ wsL_law := tb_in (tbt1 (List.mem_of_getElem? (i := 0) rfl)) rfl
theorem tw1_1 : (.initialized RX7 : Cond) ∈ wsL_law := tb_in (tbt1 (List.mem_of_getElem? (i := 1) rfl)) rfl
theorem tw1_2 : (.initialized RX1 : Cond) ∈ wsL_law := tb_in (tbt1 (List.mem_of_getElem? (i := 2) rfl)) rfl
theorem tw1_3 : (.initialized RX0 : Cond) ∈ wsL_law := tb_in (tbt1 (List.mem_of_getElem? (i := 3) rfl)) rfl
theorem tw1_4 : (.initialized RX4 : Cond) ∈ wsL_law := tb_in (tbt1 (List.mem_of_getElem? (i := 4) rfl)) rfl
theorem tw1_5 : (.initialized RX3 : Cond) ∈ wsL_law := tb_in (tbt1 (List.mem_of_getElem? (i := 5) rfl)) rfl
theorem tw1_6 : (.initialized RX2 : Cond) ∈ wsL_law := tb_in (tbt1 (List.mem_of_getElem? (i := 6) rfl)) rfl
theorem tw1_7 : (.initialized RX6 : Cond) ∈ wsL_law := tb_in (tbt1 (List.mem_of_getElem? (i := 7) rfl)) rfl
theorem tw1_8 : (.initialized RX5 : Cond) ∈ wsL_law := tb_in (tbt1 (List.mem_of_getElem? (i := 8) rfl)) rfl
theorem tw1_9 : (.initialized RX8 : Cond) ∈ wsL_law := tb_in (tbt1 (List.mem_of_getElem? (i := 9) rfl)) rfl
theorem tw1_10 : (.initialized RJ6 : Cond) ∈ wsL_law := tb_in (tbt1 (List.mem_of_getElem? (i := 10) rfl)) rfl
theorem tw1_11 : (.initialized "java/lang/Math" : Cond) ∈ wsL_law := tb_in (tbt1 (List.mem_of_getElem? (i := 11) rfl)) rfl
theorem tw1_12 : (.classLink RL 7 RX7 : Cond) ∈ wsL_law := tb_in (tbt1 (List.mem_of_getElem? (i := 12) rfl)) rfl
theorem tw1_13 : (.instantiable RX7 5 : Cond) ∈ wsL_law := tb_in (tbt1 (List.mem_of_getElem? (i := 13) rfl)) rfl
theorem tw1_14 : (.methodLink RL 9 yX7_init : Cond) ∈ wsL_law := tb_in (tbt1 (List.mem_of_getElem? (i := 14) rfl)) rfl
theorem tw1_15 : (.instanceMethod yX7_init : Cond) ∈ wsL_law := tb_in (tbt1 (List.mem_of_getElem? (i := 15) rfl)) rfl
theorem tw1_16 : (.code yX7_init cX7_init 2 none : Cond) ∈ wsL_law := tb_in (tbt1 (List.mem_of_getElem? (i := 16) rfl)) rfl
theorem tw1_17 : (.methodLink RX7 1 objectInit : Cond) ∈ wsL_law := tb_in (tbt1 (List.mem_of_getElem? (i := 17) rfl)) rfl
theorem tw1_18 : (.instanceMethod objectInit : Cond) ∈ wsL_law := tb_in (tbt1 (List.mem_of_getElem? (i := 18) rfl)) rfl
theorem tw1_20 : (.classLink RX7 13 RX1 : Cond) ∈ wsL_law := tb_in (tbt1 (List.mem_of_getElem? (i := 20) rfl)) rfl
theorem tw1_21 : (.instantiable RX1 5 : Cond) ∈ wsL_law := tb_in (tbt1 (List.mem_of_getElem? (i := 21) rfl)) rfl
theorem tw1_22 : (.methodLink RX7 15 yX1_init : Cond) ∈ wsL_law := tb_in (tbt1 (List.mem_of_getElem? (i := 22) rfl)) rfl
theorem tw1_23 : (.instanceMethod yX1_init : Cond) ∈ wsL_law := tb_in (tbt1 (List.mem_of_getElem? (i := 23) rfl)) rfl
theorem tw1_24 : (.code yX1_init cX1_init 2 none : Cond) ∈ wsL_law := tb_in (tbt1 (List.mem_of_getElem? (i := 24) rfl)) rfl
theorem tw1_25 : (.methodLink RX1 3 objectInit : Cond) ∈ wsL_law := tb_in (tbt1 (List.mem_of_getElem? (i := 25) rfl)) rfl
theorem tw1_26 : (.classLink RX1 9 RX0 : Cond) ∈ wsL_law := tb_in (tbt1 (List.mem_of_getElem? (i := 26) rfl)) rfl
theorem tw1_27 : (.instantiable RX0 3 : Cond) ∈ wsL_law := tb_in (tbt1 (List.mem_of_getElem? (i := 27) rfl)) rfl
theorem tw1_29 : (.instanceMethod yX0_init : Cond) ∈ wsL_law := tb_in (tbt1 (List.mem_of_getElem? (i := 29) rfl)) rfl
theorem tw1_30 : (.code yX0_init cX0_init 1 none : Cond) ∈ wsL_law := tb_in (tbt1 (List.mem_of_getElem? (i := 30) rfl)) rfl
theorem tw1_31 : (.methodLink RX0 3 objectInit : Cond) ∈ wsL_law := tb_in (tbt1 (List.mem_of_getElem? (i := 31) rfl)) rfl
theorem tw1_32 : (.fieldLink RX0 9 "HookTrays$Deck" "weights" "[I" : Cond) ∈ wsL_law := tb_in (tbt1 (List.mem_of_getElem? (i := 32) rfl)) rfl
theorem tw1_33 : (.fieldLink RX0 15 "HookTrays$Deck" "marks" "[I" : Cond) ∈ wsL_law := tb_in (tbt1 (List.mem_of_getElem? (i := 33) rfl)) rfl
theorem tw1_34 : (.fieldLink RX0 18 "HookTrays$Deck" "size" "I" : Cond) ∈ wsL_law := tb_in (tbt1 (List.mem_of_getElem? (i := 34) rfl)) rfl
theorem tw1_36 : (.laysFinal RX0 "HookTrays$Deck" "weights" "[I" : Cond) ∈ wsL_law := tb_in (tbt1 (List.mem_of_getElem? (i := 36) rfl)) rfl
theorem tw1_38 : (.laysFinal RX0 "HookTrays$Deck" "marks" "[I" : Cond) ∈ wsL_law := tb_in (tbt1 (List.mem_of_getElem? (i := 38) rfl)) rfl
theorem tw1_40 : (.lays RX0 "HookTrays$Deck" "size" "I" : Cond) ∈ wsL_law := tb_in (tbt1 (List.mem_of_getElem? (i := 40) rfl)) rfl
theorem tw1_43 : (.arrayClass .int : Cond) ∈ wsL_law := tb_in (tbt1 (List.mem_of_getElem? (i := 43) rfl)) rfl
theorem tw1_44 : (.classLink RX1 18 RX4 : Cond) ∈ wsL_law := tb_in (tbt1 (List.mem_of_getElem? (i := 44) rfl)) rfl
theorem tw1_45 : (.instantiable RX4 4 : Cond) ∈ wsL_law := tb_in (tbt1 (List.mem_of_getElem? (i := 45) rfl)) rfl
theorem tw1_47 : (.instanceMethod yX4_init : Cond) ∈ wsL_law := tb_in (tbt1 (List.mem_of_getElem? (i := 47) rfl)) rfl
theorem tw1_48 : (.code yX4_init cX4_init 1 none : Cond) ∈ wsL_law := tb_in (tbt1 (List.mem_of_getElem? (i := 48) rfl)) rfl
theorem tw1_49 : (.methodLink RX4 3 objectInit : Cond) ∈ wsL_law := tb_in (tbt1 (List.mem_of_getElem? (i := 49) rfl)) rfl
theorem tw1_50 : (.fieldLink RX4 9 "HookTrays$Plans" "hooks" "[I" : Cond) ∈ wsL_law := tb_in (tbt1 (List.mem_of_getElem? (i := 50) rfl)) rfl
theorem tw1_51 : (.fieldLink RX4 15 "HookTrays$Plans" "calls" "[I" : Cond) ∈ wsL_law := tb_in (tbt1 (List.mem_of_getElem? (i := 51) rfl)) rfl
theorem tw1_52 : (.fieldLink RX4 18 "HookTrays$Plans" "effects" "[I" : Cond) ∈ wsL_law := tb_in (tbt1 (List.mem_of_getElem? (i := 52) rfl)) rfl
theorem tw1_53 : (.fieldLink RX4 21 "HookTrays$Plans" "size" "I" : Cond) ∈ wsL_law := tb_in (tbt1 (List.mem_of_getElem? (i := 53) rfl)) rfl
theorem tw1_55 : (.laysFinal RX4 "HookTrays$Plans" "hooks" "[I" : Cond) ∈ wsL_law := tb_in (tbt1 (List.mem_of_getElem? (i := 55) rfl)) rfl
theorem tw1_57 : (.laysFinal RX4 "HookTrays$Plans" "calls" "[I" : Cond) ∈ wsL_law := tb_in (tbt1 (List.mem_of_getElem? (i := 57) rfl)) rfl
theorem tw1_59 : (.laysFinal RX4 "HookTrays$Plans" "effects" "[I" : Cond) ∈ wsL_law := tb_in (tbt1 (List.mem_of_getElem? (i := 59) rfl)) rfl
theorem tw1_61 : (.lays RX4 "HookTrays$Plans" "size" "I" : Cond) ∈ wsL_law := tb_in (tbt1 (List.mem_of_getElem? (i := 61) rfl)) rfl
theorem tw1_64 : (.classLink RX1 25 RX3 : Cond) ∈ wsL_law := tb_in (tbt1 (List.mem_of_getElem? (i := 64) rfl)) rfl
theorem tw1_65 : (.instantiable RX3 6 : Cond) ∈ wsL_law := tb_in (tbt1 (List.mem_of_getElem? (i := 65) rfl)) rfl
theorem tw1_67 : (.instanceMethod yX3_init : Cond) ∈ wsL_law := tb_in (tbt1 (List.mem_of_getElem? (i := 67) rfl)) rfl
theorem tw1_68 : (.code yX3_init cX3_init 1 none : Cond) ∈ wsL_law := tb_in (tbt1 (List.mem_of_getElem? (i := 68) rfl)) rfl
theorem tw1_69 : (.methodLink RX3 3 objectInit : Cond) ∈ wsL_law := tb_in (tbt1 (List.mem_of_getElem? (i := 69) rfl)) rfl
theorem tw1_70 : (.fieldLink RX3 9 "HookTrays$LatestAct" "failure" "I" : Cond) ∈ wsL_law := tb_in (tbt1 (List.mem_of_getElem? (i := 70) rfl)) rfl
theorem tw1_72 : (.fieldLink RX3 15 "HookTrays$LatestAct" "hook" "I" : Cond) ∈ wsL_law := tb_in (tbt1 (List.mem_of_getElem? (i := 72) rfl)) rfl
theorem tw1_74 : (.fieldLink RX3 18 "HookTrays$LatestAct" "call" "I" : Cond) ∈ wsL_law := tb_in (tbt1 (List.mem_of_getElem? (i := 74) rfl)) rfl
theorem tw1_76 : (.fieldLink RX3 21 "HookTrays$LatestAct" "handled" "I" : Cond) ∈ wsL_law := tb_in (tbt1 (List.mem_of_getElem? (i := 76) rfl)) rfl
theorem tw1_78 : (.fieldLink RX3 24 "HookTrays$LatestAct" "actsEver" "I" : Cond) ∈ wsL_law := tb_in (tbt1 (List.mem_of_getElem? (i := 78) rfl)) rfl
theorem tw1_80 : (.fieldLink RX3 27 "HookTrays$LatestAct" "actsThrownAt" "I" : Cond) ∈ wsL_law := tb_in (tbt1 (List.mem_of_getElem? (i := 80) rfl)) rfl
theorem tw1_82 : (.lays RX3 "HookTrays$LatestAct" "failure" "I" : Cond) ∈ wsL_law := tb_in (tbt1 (List.mem_of_getElem? (i := 82) rfl)) rfl
theorem tw1_84 : (.lays RX3 "HookTrays$LatestAct" "hook" "I" : Cond) ∈ wsL_law := tb_in (tbt1 (List.mem_of_getElem? (i := 84) rfl)) rfl
theorem tw1_86 : (.lays RX3 "HookTrays$LatestAct" "call" "I" : Cond) ∈ wsL_law := tb_in (tbt1 (List.mem_of_getElem? (i := 86) rfl)) rfl
theorem tw1_88 : (.lays RX3 "HookTrays$LatestAct" "handled" "I" : Cond) ∈ wsL_law := tb_in (tbt1 (List.mem_of_getElem? (i := 88) rfl)) rfl
theorem tw1_90 : (.lays RX3 "HookTrays$LatestAct" "actsEver" "I" : Cond) ∈ wsL_law := tb_in (tbt1 (List.mem_of_getElem? (i := 90) rfl)) rfl
theorem tw1_92 : (.lays RX3 "HookTrays$LatestAct" "actsThrownAt" "I" : Cond) ∈ wsL_law := tb_in (tbt1 (List.mem_of_getElem? (i := 92) rfl)) rfl
theorem tw1_95 : (.classLink RX1 32 RX2 : Cond) ∈ wsL_law := tb_in (tbt1 (List.mem_of_getElem? (i := 95) rfl)) rfl
theorem ta_Hook : (.arrayOver (.object "HookTrays$Hook") : Cond) ∈ lw_tbl := tbt1 (List.mem_of_getElem? (i := 96) rfl)
theorem tw1_97 : (.instantiable RX2 5 : Cond) ∈ wsL_law := tb_in (tbt1 (List.mem_of_getElem? (i := 97) rfl)) rfl
theorem tw1_99 : (.instanceMethod yX2_init : Cond) ∈ wsL_law := tb_in (tbt1 (List.mem_of_getElem? (i := 99) rfl)) rfl
theorem tw1_100 : (.code yX2_init cX2_init 1 none : Cond) ∈ wsL_law := tb_in (tbt1 (List.mem_of_getElem? (i := 100) rfl)) rfl
theorem tw1_101 : (.methodLink RX2 3 objectInit : Cond) ∈ wsL_law := tb_in (tbt1 (List.mem_of_getElem? (i := 101) rfl)) rfl
theorem tw1_102 : (.fieldLink RX2 9 "HookTrays$Hook" "kind" "I" : Cond) ∈ wsL_law := tb_in (tbt1 (List.mem_of_getElem? (i := 102) rfl)) rfl
theorem tw1_104 : (.fieldLink RX2 15 "HookTrays$Hook" "a" "I" : Cond) ∈ wsL_law := tb_in (tbt1 (List.mem_of_getElem? (i := 104) rfl)) rfl
theorem tw1_106 : (.fieldLink RX2 18 "HookTrays$Hook" "calls" "I" : Cond) ∈ wsL_law := tb_in (tbt1 (List.mem_of_getElem? (i := 106) rfl)) rfl
theorem tw1_108 : (.fieldLink RX2 21 "HookTrays$Hook" "latestCalls" "I" : Cond) ∈ wsL_law := tb_in (tbt1 (List.mem_of_getElem? (i := 108) rfl)) rfl
theorem tw1_110 : (.fieldLink RX2 24 "HookTrays$Hook" "misuses" "I" : Cond) ∈ wsL_law := tb_in (tbt1 (List.mem_of_getElem? (i := 110) rfl)) rfl
theorem tw1_112 : (.lays RX2 "HookTrays$Hook" "kind" "I" : Cond) ∈ wsL_law := tb_in (tbt1 (List.mem_of_getElem? (i := 112) rfl)) rfl
theorem tw1_114 : (.lays RX2 "HookTrays$Hook" "a" "I" : Cond) ∈ wsL_law := tb_in (tbt1 (List.mem_of_getElem? (i := 114) rfl)) rfl
theorem tw1_116 : (.lays RX2 "HookTrays$Hook" "calls" "I" : Cond) ∈ wsL_law := tb_in (tbt1 (List.mem_of_getElem? (i := 116) rfl)) rfl
theorem tw1_118 : (.lays RX2 "HookTrays$Hook" "latestCalls" "I" : Cond) ∈ wsL_law := tb_in (tbt1 (List.mem_of_getElem? (i := 118) rfl)) rfl
theorem tw1_120 : (.lays RX2 "HookTrays$Hook" "misuses" "I" : Cond) ∈ wsL_law := tb_in (tbt1 (List.mem_of_getElem? (i := 120) rfl)) rfl
theorem tw1_123 : (.fieldLink RX1 12 "HookTrays$Desk" "deck" "LHookTrays$Deck;" : Cond) ∈ wsL_law := tb_in (tbt1 (List.mem_of_getElem? (i := 123) rfl)) rfl
theorem tw1_125 : (.fieldLink RX1 21 "HookTrays$Desk" "plans" "LHookTrays$Plans;" : Cond) ∈ wsL_law := tb_in (tbt1 (List.mem_of_getElem? (i := 125) rfl)) rfl
theorem tw1_127 : (.fieldLink RX1 28 "HookTrays$Desk" "latest" "LHookTrays$LatestAct;" : Cond) ∈ wsL_law := tb_in (tbt1 (List.mem_of_getElem? (i := 127) rfl)) rfl
theorem tw1_129 : (.fieldLink RX1 34 "HookTrays$Desk" "hooks" "[LHookTrays$Hook;" : Cond) ∈ wsL_law := tb_in (tbt1 (List.mem_of_getElem? (i := 129) rfl)) rfl
theorem tw1_130 : (.fieldLink RX1 38 "HookTrays$Desk" "hookCount" "I" : Cond) ∈ wsL_law := tb_in (tbt1 (List.mem_of_getElem? (i := 130) rfl)) rfl
theorem tw1_132 : (.laysFinal RX1 "HookTrays$Desk" "deck" "LHookTrays$Deck;" : Cond) ∈ wsL_law := tb_in (tbt1 (List.mem_of_getElem? (i := 132) rfl)) rfl
theorem tw1_134 : (.laysFinal RX1 "HookTrays$Desk" "plans" "LHookTrays$Plans;" : Cond) ∈ wsL_law := tb_in (tbt1 (List.mem_of_getElem? (i := 134) rfl)) rfl
theorem tw1_136 : (.laysFinal RX1 "HookTrays$Desk" "latest" "LHookTrays$LatestAct;" : Cond) ∈ wsL_law := tb_in (tbt1 (List.mem_of_getElem? (i := 136) rfl)) rfl
theorem tw1_138 : (.laysFinal RX1 "HookTrays$Desk" "hooks" "[LHookTrays$Hook;" : Cond) ∈ wsL_law := tb_in (tbt1 (List.mem_of_getElem? (i := 138) rfl)) rfl
theorem tw1_140 : (.lays RX1 "HookTrays$Desk" "hookCount" "I" : Cond) ∈ wsL_law := tb_in (tbt1 (List.mem_of_getElem? (i := 140) rfl)) rfl
theorem tw1_143 : (.classLink RX7 20 RX6 : Cond) ∈ wsL_law := tb_in (tbt1 (List.mem_of_getElem? (i := 143) rfl)) rfl
theorem ta_Tray : (.arrayOver (.object "HookTrays$Tray") : Cond) ∈ lw_tbl := tbt1 (List.mem_of_getElem? (i := 144) rfl)
theorem tw1_145 : (.instantiable RX6 3 : Cond) ∈ wsL_law := tb_in (tbt1 (List.mem_of_getElem? (i := 145) rfl)) rfl
theorem tw1_147 : (.instanceMethod yX6_init : Cond) ∈ wsL_law := tb_in (tbt1 (List.mem_of_getElem? (i := 147) rfl)) rfl
theorem tw1_148 : (.code yX6_init cX6_init 1 none : Cond) ∈ wsL_law := tb_in (tbt1 (List.mem_of_getElem? (i := 148) rfl)) rfl
theorem tw1_149 : (.methodLink RX6 3 objectInit : Cond) ∈ wsL_law := tb_in (tbt1 (List.mem_of_getElem? (i := 149) rfl)) rfl
theorem tw1_150 : (.classLink RX6 9 RX5 : Cond) ∈ wsL_law := tb_in (tbt1 (List.mem_of_getElem? (i := 150) rfl)) rfl
theorem tw1_151 : (.instantiable RX5 2 : Cond) ∈ wsL_law := tb_in (tbt1 (List.mem_of_getElem? (i := 151) rfl)) rfl
theorem tw1_153 : (.instanceMethod yX5_init : Cond) ∈ wsL_law := tb_in (tbt1 (List.mem_of_getElem? (i := 153) rfl)) rfl
theorem tw1_154 : (.code yX5_init cX5_init 1 none : Cond) ∈ wsL_law := tb_in (tbt1 (List.mem_of_getElem? (i := 154) rfl)) rfl
theorem tw1_155 : (.methodLink RX5 3 objectInit : Cond) ∈ wsL_law := tb_in (tbt1 (List.mem_of_getElem? (i := 155) rfl)) rfl
theorem tw1_156 : (.fieldLink RX5 9 "HookTrays$Row" "cards" "[I" : Cond) ∈ wsL_law := tb_in (tbt1 (List.mem_of_getElem? (i := 156) rfl)) rfl
theorem tw1_157 : (.fieldLink RX5 15 "HookTrays$Row" "size" "I" : Cond) ∈ wsL_law := tb_in (tbt1 (List.mem_of_getElem? (i := 157) rfl)) rfl
theorem tw1_159 : (.laysFinal RX5 "HookTrays$Row" "cards" "[I" : Cond) ∈ wsL_law := tb_in (tbt1 (List.mem_of_getElem? (i := 159) rfl)) rfl
theorem tw1_161 : (.lays RX5 "HookTrays$Row" "size" "I" : Cond) ∈ wsL_law := tb_in (tbt1 (List.mem_of_getElem? (i := 161) rfl)) rfl
theorem tw1_164 : (.fieldLink RX6 12 "HookTrays$Tray" "row" "LHookTrays$Row;" : Cond) ∈ wsL_law := tb_in (tbt1 (List.mem_of_getElem? (i := 164) rfl)) rfl
theorem tw1_166 : (.fieldLink RX6 18 "HookTrays$Tray" "kind" "I" : Cond) ∈ wsL_law := tb_in (tbt1 (List.mem_of_getElem? (i := 166) rfl)) rfl
theorem tw1_168 : (.fieldLink RX6 22 "HookTrays$Tray" "hook" "I" : Cond) ∈ wsL_law := tb_in (tbt1 (List.mem_of_getElem? (i := 168) rfl)) rfl
theorem tw1_170 : (.laysFinal RX6 "HookTrays$Tray" "row" "LHookTrays$Row;" : Cond) ∈ wsL_law := tb_in (tbt1 (List.mem_of_getElem? (i := 170) rfl)) rfl
theorem tw1_172 : (.lays RX6 "HookTrays$Tray" "kind" "I" : Cond) ∈ wsL_law := tb_in (tbt1 (List.mem_of_getElem? (i := 172) rfl)) rfl
theorem tw1_174 : (.lays RX6 "HookTrays$Tray" "hook" "I" : Cond) ∈ wsL_law := tb_in (tbt1 (List.mem_of_getElem? (i := 174) rfl)) rfl
theorem tw1_177 : (.classLink RX7 27 RX5 : Cond) ∈ wsL_law := tb_in (tbt1 (List.mem_of_getElem? (i := 177) rfl)) rfl
theorem tw1_179 : (.fieldLink RX7 16 "HookTrays" "desk" "LHookTrays$Desk;" : Cond) ∈ wsL_law := tb_in (tbt1 (List.mem_of_getElem? (i := 179) rfl)) rfl
theorem tw1_180 : (.fieldLink RX7 22 "HookTrays" "trays" "[LHookTrays$Tray;" : Cond) ∈ wsL_law := tb_in (tbt1 (List.mem_of_getElem? (i := 180) rfl)) rfl
theorem tw1_181 : (.fieldLink RX7 7 "HookTrays" "trayCount" "I" : Cond) ∈ wsL_law := tb_in (tbt1 (List.mem_of_getElem? (i := 181) rfl)) rfl
theorem tw1_182 : (.fieldLink RX7 30 "HookTrays" "draft" "LHookTrays$Row;" : Cond) ∈ wsL_law := tb_in (tbt1 (List.mem_of_getElem? (i := 182) rfl)) rfl
theorem tw1_183 : (.fieldLink RX7 34 "HookTrays" "spare" "LHookTrays$Row;" : Cond) ∈ wsL_law := tb_in (tbt1 (List.mem_of_getElem? (i := 183) rfl)) rfl
theorem tw1_184 : (.laysFinal RX7 "HookTrays" "desk" "LHookTrays$Desk;" : Cond) ∈ wsL_law := tb_in (tbt1 (List.mem_of_getElem? (i := 184) rfl)) rfl
theorem tw1_186 : (.laysFinal RX7 "HookTrays" "trays" "[LHookTrays$Tray;" : Cond) ∈ wsL_law := tb_in (tbt1 (List.mem_of_getElem? (i := 186) rfl)) rfl
theorem tw1_188 : (.lays RX7 "HookTrays" "trayCount" "I" : Cond) ∈ wsL_law := tb_in (tbt1 (List.mem_of_getElem? (i := 188) rfl)) rfl
theorem tw1_190 : (.laysFinal RX7 "HookTrays" "draft" "LHookTrays$Row;" : Cond) ∈ wsL_law := tb_in (tbt1 (List.mem_of_getElem? (i := 190) rfl)) rfl
theorem tw1_192 : (.laysFinal RX7 "HookTrays" "spare" "LHookTrays$Row;" : Cond) ∈ wsL_law := tb_in (tbt1 (List.mem_of_getElem? (i := 192) rfl)) rfl
theorem tw1_195 : (.methodLink RL 13 yX7_card : Cond) ∈ wsL_law := tb_in (tbt1 (List.mem_of_getElem? (i := 195) rfl)) rfl
theorem tw1_196 : (.instanceMethod yX7_card : Cond) ∈ wsL_law := tb_in (tbt1 (List.mem_of_getElem? (i := 196) rfl)) rfl
theorem tw1_197 : (.selects RX7 yX7_card yX7_card : Cond) ∈ wsL_law := tb_in (tbt1 (List.mem_of_getElem? (i := 197) rfl)) rfl
theorem tw1_198 : (.code yX7_card cX7_card 3 (some .int) : Cond) ∈ wsL_law := tb_in (tbt1 (List.mem_of_getElem? (i := 198) rfl)) rfl
theorem tw1_199 : (.methodLink RX7 37 yX7_isWithin : Cond) ∈ wsL_law := tb_in (tbt1 (List.mem_of_getElem? (i := 199) rfl)) rfl
theorem tw1_200 : (.static yX7_isWithin : Cond) ∈ wsL_law := tb_in (tbt1 (List.mem_of_getElem? (i := 200) rfl)) rfl
theorem tw1_201 : (.code yX7_isWithin cX7_isWithin 3 (some .boolean) : Cond) ∈ wsL_law := tb_in (tbt1 (List.mem_of_getElem? (i := 201) rfl)) rfl
theorem tw1_202 : (.methodLink RX7 45 yX0_add : Cond) ∈ wsL_law := tb_in (tbt1 (List.mem_of_getElem? (i := 202) rfl)) rfl
theorem tw1_203 : (.instanceMethod yX0_add : Cond) ∈ wsL_law := tb_in (tbt1 (List.mem_of_getElem? (i := 203) rfl)) rfl
theorem tw1_204 : (.selects RX0 yX0_add yX0_add : Cond) ∈ wsL_law := tb_in (tbt1 (List.mem_of_getElem? (i := 204) rfl)) rfl
theorem tw1_205 : (.code yX0_add cX0_add 3 (some .int) : Cond) ∈ wsL_law := tb_in (tbt1 (List.mem_of_getElem? (i := 205) rfl)) rfl
theorem tw1_206 : (.methodLink RL 18 yX7_told : Cond) ∈ wsL_law := tb_in (tbt1 (List.mem_of_getElem? (i := 206) rfl)) rfl
theorem tw1_207 : (.instanceMethod yX7_told : Cond) ∈ wsL_law := tb_in (tbt1 (List.mem_of_getElem? (i := 207) rfl)) rfl
theorem tw1_208 : (.selects RX7 yX7_told yX7_told : Cond) ∈ wsL_law := tb_in (tbt1 (List.mem_of_getElem? (i := 208) rfl)) rfl
theorem tw1_209 : (.code yX7_told cX7_told 3 (some .long) : Cond) ∈ wsL_law := tb_in (tbt1 (List.mem_of_getElem? (i := 209) rfl)) rfl
theorem tw1_210 : (.methodLink RX7 51 yX0_has : Cond) ∈ wsL_law := tb_in (tbt1 (List.mem_of_getElem? (i := 210) rfl)) rfl
theorem tw1_211 : (.instanceMethod yX0_has : Cond) ∈ wsL_law := tb_in (tbt1 (List.mem_of_getElem? (i := 211) rfl)) rfl
theorem tw1_212 : (.selects RX0 yX0_has yX0_has : Cond) ∈ wsL_law := tb_in (tbt1 (List.mem_of_getElem? (i := 212) rfl)) rfl
theorem tw1_213 : (.code yX0_has cX0_has 2 (some .boolean) : Cond) ∈ wsL_law := tb_in (tbt1 (List.mem_of_getElem? (i := 213) rfl)) rfl
theorem tw1_214 : (.constantLong RX7 55 (-10000000000) : Cond) ∈ wsL_law := tb_in (tbt1 (List.mem_of_getElem? (i := 214) rfl)) rfl
theorem tw1_215 : (.methodLink RX7 57 yX0_weightOf : Cond) ∈ wsL_law := tb_in (tbt1 (List.mem_of_getElem? (i := 215) rfl)) rfl
theorem tw1_216 : (.instanceMethod yX0_weightOf : Cond) ∈ wsL_law := tb_in (tbt1 (List.mem_of_getElem? (i := 216) rfl)) rfl
theorem tw1_217 : (.selects RX0 yX0_weightOf yX0_weightOf : Cond) ∈ wsL_law := tb_in (tbt1 (List.mem_of_getElem? (i := 217) rfl)) rfl
theorem tw1_218 : (.code yX0_weightOf cX0_weightOf 2 (some .int) : Cond) ∈ wsL_law := tb_in (tbt1 (List.mem_of_getElem? (i := 218) rfl)) rfl
theorem tw1_219 : (.methodLink RX7 61 yX0_markOf : Cond) ∈ wsL_law := tb_in (tbt1 (List.mem_of_getElem? (i := 219) rfl)) rfl
theorem tw1_220 : (.instanceMethod yX0_markOf : Cond) ∈ wsL_law := tb_in (tbt1 (List.mem_of_getElem? (i := 220) rfl)) rfl
theorem tw1_221 : (.selects RX0 yX0_markOf yX0_markOf : Cond) ∈ wsL_law := tb_in (tbt1 (List.mem_of_getElem? (i := 221) rfl)) rfl
theorem tw1_222 : (.code yX0_markOf cX0_markOf 2 (some .int) : Cond) ∈ wsL_law := tb_in (tbt1 (List.mem_of_getElem? (i := 222) rfl)) rfl
theorem tw1_223 : (.methodLink RL 23 yX7_hook : Cond) ∈ wsL_law := tb_in (tbt1 (List.mem_of_getElem? (i := 223) rfl)) rfl
theorem tw1_224 : (.instanceMethod yX7_hook : Cond) ∈ wsL_law := tb_in (tbt1 (List.mem_of_getElem? (i := 224) rfl)) rfl
theorem tw1_225 : (.selects RX7 yX7_hook yX7_hook : Cond) ∈ wsL_law := tb_in (tbt1 (List.mem_of_getElem? (i := 225) rfl)) rfl
theorem tw1_226 : (.code yX7_hook cX7_hook 3 (some .int) : Cond) ∈ wsL_law := tb_in (tbt1 (List.mem_of_getElem? (i := 226) rfl)) rfl
theorem tw1_227 : (.methodLink RX7 64 yX1_addHook : Cond) ∈ wsL_law := tb_in (tbt1 (List.mem_of_getElem? (i := 227) rfl)) rfl
theorem tw1_228 : (.instanceMethod yX1_addHook : Cond) ∈ wsL_law := tb_in (tbt1 (List.mem_of_getElem? (i := 228) rfl)) rfl
theorem tw1_229 : (.selects RX1 yX1_addHook yX1_addHook : Cond) ∈ wsL_law := tb_in (tbt1 (List.mem_of_getElem? (i := 229) rfl)) rfl
theorem tw1_230 : (.code yX1_addHook cX1_addHook 3 (some .int) : Cond) ∈ wsL_law := tb_in (tbt1 (List.mem_of_getElem? (i := 230) rfl)) rfl
theorem tw1_231 : (.methodLink RX1 43 yX2_become : Cond) ∈ wsL_law := tb_in (tbt1 (List.mem_of_getElem? (i := 231) rfl)) rfl
theorem tw1_232 : (.instanceMethod yX2_become : Cond) ∈ wsL_law := tb_in (tbt1 (List.mem_of_getElem? (i := 232) rfl)) rfl
theorem tw1_233 : (.selects RX2 yX2_become yX2_become : Cond) ∈ wsL_law := tb_in (tbt1 (List.mem_of_getElem? (i := 233) rfl)) rfl
theorem tw1_234 : (.code yX2_become cX2_become 3 none : Cond) ∈ wsL_law := tb_in (tbt1 (List.mem_of_getElem? (i := 234) rfl)) rfl
theorem tw1_235 : (.methodLink RL 27 yX7_plan : Cond) ∈ wsL_law := tb_in (tbt1 (List.mem_of_getElem? (i := 235) rfl)) rfl
theorem tw1_236 : (.instanceMethod yX7_plan : Cond) ∈ wsL_law := tb_in (tbt1 (List.mem_of_getElem? (i := 236) rfl)) rfl
theorem tw1_237 : (.selects RX7 yX7_plan yX7_plan : Cond) ∈ wsL_law := tb_in (tbt1 (List.mem_of_getElem? (i := 237) rfl)) rfl
theorem tw1_238 : (.code yX7_plan cX7_plan 5 (some .int) : Cond) ∈ wsL_law := tb_in (tbt1 (List.mem_of_getElem? (i := 238) rfl)) rfl
theorem tw1_239 : (.methodLink RX7 67 yX1_hasHook : Cond) ∈ wsL_law := tb_in (tbt1 (List.mem_of_getElem? (i := 239) rfl)) rfl
theorem tw2_0 : (.instanceMethod yX1_hasHook : Cond) ∈ wsL_law := tb_in (tbt2 (List.mem_of_getElem? (i := 0) rfl)) rfl
theorem tw2_1 : (.selects RX1 yX1_hasHook yX1_hasHook : Cond) ∈ wsL_law := tb_in (tbt2 (List.mem_of_getElem? (i := 1) rfl)) rfl
theorem tw2_2 : (.code yX1_hasHook cX1_hasHook 2 (some .boolean) : Cond) ∈ wsL_law := tb_in (tbt2 (List.mem_of_getElem? (i := 2) rfl)) rfl
theorem tw2_3 : (.methodLink RX7 74 yX1_callsOf : Cond) ∈ wsL_law := tb_in (tbt2 (List.mem_of_getElem? (i := 3) rfl)) rfl
theorem tw2_4 : (.instanceMethod yX1_callsOf : Cond) ∈ wsL_law := tb_in (tbt2 (List.mem_of_getElem? (i := 4) rfl)) rfl
theorem tw2_5 : (.selects RX1 yX1_callsOf yX1_callsOf : Cond) ∈ wsL_law := tb_in (tbt2 (List.mem_of_getElem? (i := 5) rfl)) rfl
theorem tw2_6 : (.code yX1_callsOf cX1_callsOf 2 (some .int) : Cond) ∈ wsL_law := tb_in (tbt2 (List.mem_of_getElem? (i := 6) rfl)) rfl
theorem tw2_7 : (.methodLink RX1 47 yX1_hasHook : Cond) ∈ wsL_law := tb_in (tbt2 (List.mem_of_getElem? (i := 7) rfl)) rfl
theorem tw2_8 : (.methodLink RX7 77 yX7_plannedEffect : Cond) ∈ wsL_law := tb_in (tbt2 (List.mem_of_getElem? (i := 8) rfl)) rfl
theorem tw2_9 : (.static yX7_plannedEffect : Cond) ∈ wsL_law := tb_in (tbt2 (List.mem_of_getElem? (i := 9) rfl)) rfl
theorem tw2_10 : (.code yX7_plannedEffect cX7_plannedEffect 2 (some .int) : Cond) ∈ wsL_law := tb_in (tbt2 (List.mem_of_getElem? (i := 10) rfl)) rfl
theorem tw2_11 : (.methodLink RX7 80 yX4_stand : Cond) ∈ wsL_law := tb_in (tbt2 (List.mem_of_getElem? (i := 11) rfl)) rfl
theorem tw2_12 : (.instanceMethod yX4_stand : Cond) ∈ wsL_law := tb_in (tbt2 (List.mem_of_getElem? (i := 12) rfl)) rfl
theorem tw2_13 : (.selects RX4 yX4_stand yX4_stand : Cond) ∈ wsL_law := tb_in (tbt2 (List.mem_of_getElem? (i := 13) rfl)) rfl
theorem tw2_14 : (.code yX4_stand cX4_stand 5 (some .int) : Cond) ∈ wsL_law := tb_in (tbt2 (List.mem_of_getElem? (i := 14) rfl)) rfl
theorem tw2_15 : (.methodLink RX4 25 yX4_indexOf : Cond) ∈ wsL_law := tb_in (tbt2 (List.mem_of_getElem? (i := 15) rfl)) rfl
theorem tw2_16 : (.instanceMethod yX4_indexOf : Cond) ∈ wsL_law := tb_in (tbt2 (List.mem_of_getElem? (i := 16) rfl)) rfl
theorem tw2_17 : (.selects RX4 yX4_indexOf yX4_indexOf : Cond) ∈ wsL_law := tb_in (tbt2 (List.mem_of_getElem? (i := 17) rfl)) rfl
theorem tw2_18 : (.code yX4_indexOf cX4_indexOf 4 (some .int) : Cond) ∈ wsL_law := tb_in (tbt2 (List.mem_of_getElem? (i := 18) rfl)) rfl
theorem tw2_19 : (.methodLink RL 32 yX7_clearPlans : Cond) ∈ wsL_law := tb_in (tbt2 (List.mem_of_getElem? (i := 19) rfl)) rfl
theorem tw2_20 : (.instanceMethod yX7_clearPlans : Cond) ∈ wsL_law := tb_in (tbt2 (List.mem_of_getElem? (i := 20) rfl)) rfl
theorem tw2_21 : (.selects RX7 yX7_clearPlans yX7_clearPlans : Cond) ∈ wsL_law := tb_in (tbt2 (List.mem_of_getElem? (i := 21) rfl)) rfl
theorem tw2_22 : (.code yX7_clearPlans cX7_clearPlans 1 (some .int) : Cond) ∈ wsL_law := tb_in (tbt2 (List.mem_of_getElem? (i := 22) rfl)) rfl
theorem tw2_23 : (.methodLink RX7 86 yX4_clear : Cond) ∈ wsL_law := tb_in (tbt2 (List.mem_of_getElem? (i := 23) rfl)) rfl
theorem tw2_24 : (.instanceMethod yX4_clear : Cond) ∈ wsL_law := tb_in (tbt2 (List.mem_of_getElem? (i := 24) rfl)) rfl
theorem tw2_25 : (.selects RX4 yX4_clear yX4_clear : Cond) ∈ wsL_law := tb_in (tbt2 (List.mem_of_getElem? (i := 25) rfl)) rfl
theorem tw2_26 : (.code yX4_clear cX4_clear 2 (some .int) : Cond) ∈ wsL_law := tb_in (tbt2 (List.mem_of_getElem? (i := 26) rfl)) rfl
theorem tw2_27 : (.methodLink RL 37 yX7_about : Cond) ∈ wsL_law := tb_in (tbt2 (List.mem_of_getElem? (i := 27) rfl)) rfl
theorem tw2_28 : (.instanceMethod yX7_about : Cond) ∈ wsL_law := tb_in (tbt2 (List.mem_of_getElem? (i := 28) rfl)) rfl
theorem tw2_29 : (.selects RX7 yX7_about yX7_about : Cond) ∈ wsL_law := tb_in (tbt2 (List.mem_of_getElem? (i := 29) rfl)) rfl
theorem tw2_30 : (.code yX7_about cX7_about 3 (some .int) : Cond) ∈ wsL_law := tb_in (tbt2 (List.mem_of_getElem? (i := 30) rfl)) rfl
theorem tw2_31 : (.methodLink RX7 90 yX1_kindOf : Cond) ∈ wsL_law := tb_in (tbt2 (List.mem_of_getElem? (i := 31) rfl)) rfl
theorem tw2_32 : (.instanceMethod yX1_kindOf : Cond) ∈ wsL_law := tb_in (tbt2 (List.mem_of_getElem? (i := 32) rfl)) rfl
theorem tw2_33 : (.selects RX1 yX1_kindOf yX1_kindOf : Cond) ∈ wsL_law := tb_in (tbt2 (List.mem_of_getElem? (i := 33) rfl)) rfl
theorem tw2_34 : (.code yX1_kindOf cX1_kindOf 2 (some .int) : Cond) ∈ wsL_law := tb_in (tbt2 (List.mem_of_getElem? (i := 34) rfl)) rfl
theorem tw2_35 : (.methodLink RX7 93 yX1_latestCallsOf : Cond) ∈ wsL_law := tb_in (tbt2 (List.mem_of_getElem? (i := 35) rfl)) rfl
theorem tw2_36 : (.instanceMethod yX1_latestCallsOf : Cond) ∈ wsL_law := tb_in (tbt2 (List.mem_of_getElem? (i := 36) rfl)) rfl
theorem tw2_37 : (.selects RX1 yX1_latestCallsOf yX1_latestCallsOf : Cond) ∈ wsL_law := tb_in (tbt2 (List.mem_of_getElem? (i := 37) rfl)) rfl
theorem tw2_38 : (.code yX1_latestCallsOf cX1_latestCallsOf 2 (some .int) : Cond) ∈ wsL_law := tb_in (tbt2 (List.mem_of_getElem? (i := 38) rfl)) rfl
theorem tw2_39 : (.methodLink RX7 96 yX1_misusesOf : Cond) ∈ wsL_law := tb_in (tbt2 (List.mem_of_getElem? (i := 39) rfl)) rfl
theorem tw2_40 : (.instanceMethod yX1_misusesOf : Cond) ∈ wsL_law := tb_in (tbt2 (List.mem_of_getElem? (i := 40) rfl)) rfl
theorem tw2_41 : (.selects RX1 yX1_misusesOf yX1_misusesOf : Cond) ∈ wsL_law := tb_in (tbt2 (List.mem_of_getElem? (i := 41) rfl)) rfl
theorem tw2_42 : (.code yX1_misusesOf cX1_misusesOf 2 (some .int) : Cond) ∈ wsL_law := tb_in (tbt2 (List.mem_of_getElem? (i := 42) rfl)) rfl
theorem tw2_43 : (.methodLink RX7 99 yX4_standingFor : Cond) ∈ wsL_law := tb_in (tbt2 (List.mem_of_getElem? (i := 43) rfl)) rfl
theorem tw2_44 : (.instanceMethod yX4_standingFor : Cond) ∈ wsL_law := tb_in (tbt2 (List.mem_of_getElem? (i := 44) rfl)) rfl
theorem tw2_45 : (.selects RX4 yX4_standingFor yX4_standingFor : Cond) ∈ wsL_law := tb_in (tbt2 (List.mem_of_getElem? (i := 45) rfl)) rfl
theorem tw2_46 : (.code yX4_standingFor cX4_standingFor 4 (some .int) : Cond) ∈ wsL_law := tb_in (tbt2 (List.mem_of_getElem? (i := 46) rfl)) rfl
theorem tw2_47 : (.methodLink RL 41 yX7_tray : Cond) ∈ wsL_law := tb_in (tbt2 (List.mem_of_getElem? (i := 47) rfl)) rfl
theorem tw2_48 : (.instanceMethod yX7_tray : Cond) ∈ wsL_law := tb_in (tbt2 (List.mem_of_getElem? (i := 48) rfl)) rfl
theorem tw2_49 : (.selects RX7 yX7_tray yX7_tray : Cond) ∈ wsL_law := tb_in (tbt2 (List.mem_of_getElem? (i := 49) rfl)) rfl
theorem tw2_50 : (.code yX7_tray cX7_tray 3 (some .int) : Cond) ∈ wsL_law := tb_in (tbt2 (List.mem_of_getElem? (i := 50) rfl)) rfl
theorem tw2_51 : (.methodLink RX7 102 yX1_compares : Cond) ∈ wsL_law := tb_in (tbt2 (List.mem_of_getElem? (i := 51) rfl)) rfl
theorem tw2_52 : (.instanceMethod yX1_compares : Cond) ∈ wsL_law := tb_in (tbt2 (List.mem_of_getElem? (i := 52) rfl)) rfl
theorem tw2_53 : (.selects RX1 yX1_compares yX1_compares : Cond) ∈ wsL_law := tb_in (tbt2 (List.mem_of_getElem? (i := 53) rfl)) rfl
theorem tw2_54 : (.code yX1_compares cX1_compares 3 (some .boolean) : Cond) ∈ wsL_law := tb_in (tbt2 (List.mem_of_getElem? (i := 54) rfl)) rfl
theorem tw2_55 : (.methodLink RX1 54 yX1_kindOf : Cond) ∈ wsL_law := tb_in (tbt2 (List.mem_of_getElem? (i := 55) rfl)) rfl
theorem tw2_56 : (.methodLink RX7 105 yX6_become : Cond) ∈ wsL_law := tb_in (tbt2 (List.mem_of_getElem? (i := 56) rfl)) rfl
theorem tw2_57 : (.instanceMethod yX6_become : Cond) ∈ wsL_law := tb_in (tbt2 (List.mem_of_getElem? (i := 57) rfl)) rfl
theorem tw2_58 : (.selects RX6 yX6_become yX6_become : Cond) ∈ wsL_law := tb_in (tbt2 (List.mem_of_getElem? (i := 58) rfl)) rfl
theorem tw2_59 : (.code yX6_become cX6_become 3 none : Cond) ∈ wsL_law := tb_in (tbt2 (List.mem_of_getElem? (i := 59) rfl)) rfl
theorem tw2_60 : (.methodLink RL 45 yX7_put : Cond) ∈ wsL_law := tb_in (tbt2 (List.mem_of_getElem? (i := 60) rfl)) rfl
theorem tw2_61 : (.instanceMethod yX7_put : Cond) ∈ wsL_law := tb_in (tbt2 (List.mem_of_getElem? (i := 61) rfl)) rfl
theorem tw2_62 : (.selects RX7 yX7_put yX7_put : Cond) ∈ wsL_law := tb_in (tbt2 (List.mem_of_getElem? (i := 62) rfl)) rfl
theorem tw2_63 : (.code yX7_put cX7_put 4 (some .int) : Cond) ∈ wsL_law := tb_in (tbt2 (List.mem_of_getElem? (i := 63) rfl)) rfl
theorem tw2_64 : (.methodLink RX7 109 yX7_hasTray : Cond) ∈ wsL_law := tb_in (tbt2 (List.mem_of_getElem? (i := 64) rfl)) rfl
theorem tw2_66 : (.instanceMethod yX7_hasTray : Cond) ∈ wsL_law := tb_in (tbt2 (List.mem_of_getElem? (i := 66) rfl)) rfl
theorem tw2_67 : (.code yX7_hasTray cX7_hasTray 2 (some .boolean) : Cond) ∈ wsL_law := tb_in (tbt2 (List.mem_of_getElem? (i := 67) rfl)) rfl
theorem tw2_68 : (.methodLink RX7 118 yX1_beginAct : Cond) ∈ wsL_law := tb_in (tbt2 (List.mem_of_getElem? (i := 68) rfl)) rfl
theorem tw2_69 : (.instanceMethod yX1_beginAct : Cond) ∈ wsL_law := tb_in (tbt2 (List.mem_of_getElem? (i := 69) rfl)) rfl
theorem tw2_70 : (.selects RX1 yX1_beginAct yX1_beginAct : Cond) ∈ wsL_law := tb_in (tbt2 (List.mem_of_getElem? (i := 70) rfl)) rfl
theorem tw2_71 : (.code yX1_beginAct cX1_beginAct 2 none : Cond) ∈ wsL_law := tb_in (tbt2 (List.mem_of_getElem? (i := 71) rfl)) rfl
theorem tw2_72 : (.methodLink RX1 67 yX3_begin : Cond) ∈ wsL_law := tb_in (tbt2 (List.mem_of_getElem? (i := 72) rfl)) rfl
theorem tw2_73 : (.instanceMethod yX3_begin : Cond) ∈ wsL_law := tb_in (tbt2 (List.mem_of_getElem? (i := 73) rfl)) rfl
theorem tw2_74 : (.selects RX3 yX3_begin yX3_begin : Cond) ∈ wsL_law := tb_in (tbt2 (List.mem_of_getElem? (i := 74) rfl)) rfl
theorem tw2_75 : (.code yX3_begin cX3_begin 1 none : Cond) ∈ wsL_law := tb_in (tbt2 (List.mem_of_getElem? (i := 75) rfl)) rfl
theorem tw2_76 : (.methodLink RX7 121 yX5_copy : Cond) ∈ wsL_law := tb_in (tbt2 (List.mem_of_getElem? (i := 76) rfl)) rfl
theorem tw2_77 : (.instanceMethod yX5_copy : Cond) ∈ wsL_law := tb_in (tbt2 (List.mem_of_getElem? (i := 77) rfl)) rfl
theorem tw2_78 : (.selects RX5 yX5_copy yX5_copy : Cond) ∈ wsL_law := tb_in (tbt2 (List.mem_of_getElem? (i := 78) rfl)) rfl
theorem tw2_79 : (.code yX5_copy cX5_copy 2 none : Cond) ∈ wsL_law := tb_in (tbt2 (List.mem_of_getElem? (i := 79) rfl)) rfl
theorem tw2_80 : (.methodLink RX5 23 yX5_clear : Cond) ∈ wsL_law := tb_in (tbt2 (List.mem_of_getElem? (i := 80) rfl)) rfl
theorem tw2_81 : (.instanceMethod yX5_clear : Cond) ∈ wsL_law := tb_in (tbt2 (List.mem_of_getElem? (i := 81) rfl)) rfl
theorem tw2_82 : (.selects RX5 yX5_clear yX5_clear : Cond) ∈ wsL_law := tb_in (tbt2 (List.mem_of_getElem? (i := 82) rfl)) rfl
theorem tw2_83 : (.code yX5_clear cX5_clear 1 none : Cond) ∈ wsL_law := tb_in (tbt2 (List.mem_of_getElem? (i := 83) rfl)) rfl
theorem tw2_84 : (.methodLink RX5 26 yX5_appendPart : Cond) ∈ wsL_law := tb_in (tbt2 (List.mem_of_getElem? (i := 84) rfl)) rfl
theorem tw2_85 : (.instanceMethod yX5_appendPart : Cond) ∈ wsL_law := tb_in (tbt2 (List.mem_of_getElem? (i := 85) rfl)) rfl
theorem tw2_86 : (.selects RX5 yX5_appendPart yX5_appendPart : Cond) ∈ wsL_law := tb_in (tbt2 (List.mem_of_getElem? (i := 86) rfl)) rfl
theorem tw2_87 : (.code yX5_appendPart cX5_appendPart 5 none : Cond) ∈ wsL_law := tb_in (tbt2 (List.mem_of_getElem? (i := 87) rfl)) rfl
theorem tw2_88 : (.methodLink RX5 30 yX5_cardAt : Cond) ∈ wsL_law := tb_in (tbt2 (List.mem_of_getElem? (i := 88) rfl)) rfl
theorem tw2_89 : (.instanceMethod yX5_cardAt : Cond) ∈ wsL_law := tb_in (tbt2 (List.mem_of_getElem? (i := 89) rfl)) rfl
theorem tw2_90 : (.selects RX5 yX5_cardAt yX5_cardAt : Cond) ∈ wsL_law := tb_in (tbt2 (List.mem_of_getElem? (i := 90) rfl)) rfl
theorem tw2_91 : (.code yX5_cardAt cX5_cardAt 2 (some .int) : Cond) ∈ wsL_law := tb_in (tbt2 (List.mem_of_getElem? (i := 91) rfl)) rfl
theorem tw2_92 : (.methodLink RX5 19 yX5_hasPlace : Cond) ∈ wsL_law := tb_in (tbt2 (List.mem_of_getElem? (i := 92) rfl)) rfl
theorem tw2_93 : (.instanceMethod yX5_hasPlace : Cond) ∈ wsL_law := tb_in (tbt2 (List.mem_of_getElem? (i := 93) rfl)) rfl
theorem tw2_94 : (.selects RX5 yX5_hasPlace yX5_hasPlace : Cond) ∈ wsL_law := tb_in (tbt2 (List.mem_of_getElem? (i := 94) rfl)) rfl
theorem tw2_95 : (.code yX5_hasPlace cX5_hasPlace 2 (some .boolean) : Cond) ∈ wsL_law := tb_in (tbt2 (List.mem_of_getElem? (i := 95) rfl)) rfl
theorem tw2_96 : (.methodLink RX5 34 yX5_append : Cond) ∈ wsL_law := tb_in (tbt2 (List.mem_of_getElem? (i := 96) rfl)) rfl
theorem tw2_97 : (.instanceMethod yX5_append : Cond) ∈ wsL_law := tb_in (tbt2 (List.mem_of_getElem? (i := 97) rfl)) rfl
theorem tw2_98 : (.selects RX5 yX5_append yX5_append : Cond) ∈ wsL_law := tb_in (tbt2 (List.mem_of_getElem? (i := 98) rfl)) rfl
theorem tw2_99 : (.code yX5_append cX5_append 2 none : Cond) ∈ wsL_law := tb_in (tbt2 (List.mem_of_getElem? (i := 99) rfl)) rfl
theorem tw2_100 : (.methodLink RX7 125 yX7_placeOnDraft : Cond) ∈ wsL_law := tb_in (tbt2 (List.mem_of_getElem? (i := 100) rfl)) rfl
theorem tw2_102 : (.instanceMethod yX7_placeOnDraft : Cond) ∈ wsL_law := tb_in (tbt2 (List.mem_of_getElem? (i := 102) rfl)) rfl
theorem tw2_103 : (.code yX7_placeOnDraft cX7_placeOnDraft 4 (some .boolean) : Cond) ∈ wsL_law := tb_in (tbt2 (List.mem_of_getElem? (i := 103) rfl)) rfl
theorem tw2_104 : (.methodLink RX7 148 yX5_placeFor : Cond) ∈ wsL_law := tb_in (tbt2 (List.mem_of_getElem? (i := 104) rfl)) rfl
theorem tw2_105 : (.instanceMethod yX5_placeFor : Cond) ∈ wsL_law := tb_in (tbt2 (List.mem_of_getElem? (i := 105) rfl)) rfl
theorem tw2_106 : (.selects RX5 yX5_placeFor yX5_placeFor : Cond) ∈ wsL_law := tb_in (tbt2 (List.mem_of_getElem? (i := 106) rfl)) rfl
theorem tw2_107 : (.code yX5_placeFor cX5_placeFor 8 (some .int) : Cond) ∈ wsL_law := tb_in (tbt2 (List.mem_of_getElem? (i := 107) rfl)) rfl
theorem tw2_108 : (.methodLink RX5 45 yX1_askComparing : Cond) ∈ wsL_law := tb_in (tbt2 (List.mem_of_getElem? (i := 108) rfl)) rfl
theorem tw2_109 : (.instanceMethod yX1_askComparing : Cond) ∈ wsL_law := tb_in (tbt2 (List.mem_of_getElem? (i := 109) rfl)) rfl
theorem tw2_110 : (.selects RX1 yX1_askComparing yX1_askComparing : Cond) ∈ wsL_law := tb_in (tbt2 (List.mem_of_getElem? (i := 110) rfl)) rfl
theorem tw2_111 : (.code yX1_askComparing cX1_askComparing 6 (some .int) : Cond) ∈ wsL_law := tb_in (tbt2 (List.mem_of_getElem? (i := 111) rfl)) rfl
theorem tw2_112 : (.methodLink RX1 70 yX1_beginCall : Cond) ∈ wsL_law := tb_in (tbt2 (List.mem_of_getElem? (i := 112) rfl)) rfl
theorem tw2_114 : (.instanceMethod yX1_beginCall : Cond) ∈ wsL_law := tb_in (tbt2 (List.mem_of_getElem? (i := 114) rfl)) rfl
theorem tw2_115 : (.code yX1_beginCall cX1_beginCall 5 (some .int) : Cond) ∈ wsL_law := tb_in (tbt2 (List.mem_of_getElem? (i := 115) rfl)) rfl
theorem tw2_116 : (.methodLink RX1 98 yX4_indexOf : Cond) ∈ wsL_law := tb_in (tbt2 (List.mem_of_getElem? (i := 116) rfl)) rfl
theorem tw2_117 : (.methodLink RX1 101 yX4_effectOf : Cond) ∈ wsL_law := tb_in (tbt2 (List.mem_of_getElem? (i := 117) rfl)) rfl
theorem tw2_118 : (.instanceMethod yX4_effectOf : Cond) ∈ wsL_law := tb_in (tbt2 (List.mem_of_getElem? (i := 118) rfl)) rfl
theorem tw2_119 : (.selects RX4 yX4_effectOf yX4_effectOf : Cond) ∈ wsL_law := tb_in (tbt2 (List.mem_of_getElem? (i := 119) rfl)) rfl
theorem tw2_120 : (.code yX4_effectOf cX4_effectOf 2 (some .int) : Cond) ∈ wsL_law := tb_in (tbt2 (List.mem_of_getElem? (i := 120) rfl)) rfl
theorem tw2_121 : (.methodLink RX1 104 yX4_drop : Cond) ∈ wsL_law := tb_in (tbt2 (List.mem_of_getElem? (i := 121) rfl)) rfl
theorem tw2_122 : (.instanceMethod yX4_drop : Cond) ∈ wsL_law := tb_in (tbt2 (List.mem_of_getElem? (i := 122) rfl)) rfl
theorem tw2_123 : (.selects RX4 yX4_drop yX4_drop : Cond) ∈ wsL_law := tb_in (tbt2 (List.mem_of_getElem? (i := 123) rfl)) rfl
theorem tw2_124 : (.code yX4_drop cX4_drop 2 none : Cond) ∈ wsL_law := tb_in (tbt2 (List.mem_of_getElem? (i := 124) rfl)) rfl
theorem tw2_125 : (.methodLink RX1 108 yX3_fail : Cond) ∈ wsL_law := tb_in (tbt2 (List.mem_of_getElem? (i := 125) rfl)) rfl
theorem tw2_126 : (.instanceMethod yX3_fail : Cond) ∈ wsL_law := tb_in (tbt2 (List.mem_of_getElem? (i := 126) rfl)) rfl
theorem tw2_127 : (.selects RX3 yX3_fail yX3_fail : Cond) ∈ wsL_law := tb_in (tbt2 (List.mem_of_getElem? (i := 127) rfl)) rfl
theorem tw2_128 : (.code yX3_fail cX3_fail 4 none : Cond) ∈ wsL_law := tb_in (tbt2 (List.mem_of_getElem? (i := 128) rfl)) rfl
theorem tw2_129 : (.methodLink RX1 73 yX1_compareTruly : Cond) ∈ wsL_law := tb_in (tbt2 (List.mem_of_getElem? (i := 129) rfl)) rfl
theorem tw2_130 : (.instanceMethod yX1_compareTruly : Cond) ∈ wsL_law := tb_in (tbt2 (List.mem_of_getElem? (i := 130) rfl)) rfl
theorem tw2_131 : (.selects RX1 yX1_compareTruly yX1_compareTruly : Cond) ∈ wsL_law := tb_in (tbt2 (List.mem_of_getElem? (i := 131) rfl)) rfl
theorem tw2_132 : (.code yX1_compareTruly cX1_compareTruly 6 (some .int) : Cond) ∈ wsL_law := tb_in (tbt2 (List.mem_of_getElem? (i := 132) rfl)) rfl
theorem tw2_133 : (.methodLink RX1 77 yX0_weightOf : Cond) ∈ wsL_law := tb_in (tbt2 (List.mem_of_getElem? (i := 133) rfl)) rfl
theorem tw2_134 : (.methodLink RX1 90 yJ6_compare_7cf53 : Cond) ∈ wsL_law := tb_in (tbt2 (List.mem_of_getElem? (i := 134) rfl)) rfl
theorem tw2_135 : (.static yJ6_compare_7cf53 : Cond) ∈ wsL_law := tb_in (tbt2 (List.mem_of_getElem? (i := 135) rfl)) rfl
theorem tw2_136 : (.code yJ6_compare_7cf53 cJ6_compare_7cf53 2 (some .int) : Cond) ∈ wsL_law := tb_in (tbt2 (List.mem_of_getElem? (i := 136) rfl)) rfl
theorem tw2_137 : (.methodLink RX1 83 yX0_markOf : Cond) ∈ wsL_law := tb_in (tbt2 (List.mem_of_getElem? (i := 137) rfl)) rfl
theorem tw2_138 : (.methodLink RX7 206 yX5_insert : Cond) ∈ wsL_law := tb_in (tbt2 (List.mem_of_getElem? (i := 138) rfl)) rfl
theorem tw2_139 : (.instanceMethod yX5_insert : Cond) ∈ wsL_law := tb_in (tbt2 (List.mem_of_getElem? (i := 139) rfl)) rfl
theorem tw2_140 : (.selects RX5 yX5_insert yX5_insert : Cond) ∈ wsL_law := tb_in (tbt2 (List.mem_of_getElem? (i := 140) rfl)) rfl
theorem tw2_141 : (.code yX5_insert cX5_insert 4 none : Cond) ∈ wsL_law := tb_in (tbt2 (List.mem_of_getElem? (i := 141) rfl)) rfl
theorem tw2_142 : (.methodLink RX5 42 yX5_swap : Cond) ∈ wsL_law := tb_in (tbt2 (List.mem_of_getElem? (i := 142) rfl)) rfl
theorem tw2_143 : (.instanceMethod yX5_swap : Cond) ∈ wsL_law := tb_in (tbt2 (List.mem_of_getElem? (i := 143) rfl)) rfl
theorem tw2_144 : (.selects RX5 yX5_swap yX5_swap : Cond) ∈ wsL_law := tb_in (tbt2 (List.mem_of_getElem? (i := 144) rfl)) rfl
theorem tw2_145 : (.code yX5_swap cX5_swap 4 none : Cond) ∈ wsL_law := tb_in (tbt2 (List.mem_of_getElem? (i := 145) rfl)) rfl
theorem tw2_146 : (.methodLink RX5 38 yX5_replace : Cond) ∈ wsL_law := tb_in (tbt2 (List.mem_of_getElem? (i := 146) rfl)) rfl
theorem tw2_147 : (.instanceMethod yX5_replace : Cond) ∈ wsL_law := tb_in (tbt2 (List.mem_of_getElem? (i := 147) rfl)) rfl
theorem tw2_148 : (.selects RX5 yX5_replace yX5_replace : Cond) ∈ wsL_law := tb_in (tbt2 (List.mem_of_getElem? (i := 148) rfl)) rfl
theorem tw2_149 : (.code yX5_replace cX5_replace 3 none : Cond) ∈ wsL_law := tb_in (tbt2 (List.mem_of_getElem? (i := 149) rfl)) rfl
theorem tw2_150 : (.methodLink RX7 209 yX5_append : Cond) ∈ wsL_law := tb_in (tbt2 (List.mem_of_getElem? (i := 150) rfl)) rfl
theorem tw2_151 : (.methodLink RX7 213 yX5_rise : Cond) ∈ wsL_law := tb_in (tbt2 (List.mem_of_getElem? (i := 151) rfl)) rfl
theorem tw2_152 : (.instanceMethod yX5_rise : Cond) ∈ wsL_law := tb_in (tbt2 (List.mem_of_getElem? (i := 152) rfl)) rfl
theorem tw2_153 : (.selects RX5 yX5_rise yX5_rise : Cond) ∈ wsL_law := tb_in (tbt2 (List.mem_of_getElem? (i := 153) rfl)) rfl
theorem tw2_154 : (.code yX5_rise cX5_rise 7 (some .int) : Cond) ∈ wsL_law := tb_in (tbt2 (List.mem_of_getElem? (i := 154) rfl)) rfl
theorem tw2_155 : (.methodLink RX7 129 yX7_keepDraft : Cond) ∈ wsL_law := tb_in (tbt2 (List.mem_of_getElem? (i := 155) rfl)) rfl
theorem tw2_157 : (.instanceMethod yX7_keepDraft : Cond) ∈ wsL_law := tb_in (tbt2 (List.mem_of_getElem? (i := 157) rfl)) rfl
theorem tw2_158 : (.code yX7_keepDraft cX7_keepDraft 3 (some .int) : Cond) ∈ wsL_law := tb_in (tbt2 (List.mem_of_getElem? (i := 158) rfl)) rfl
theorem tw2_159 : (.methodLink RL 49 yX7_take : Cond) ∈ wsL_law := tb_in (tbt2 (List.mem_of_getElem? (i := 159) rfl)) rfl
theorem tw2_160 : (.instanceMethod yX7_take : Cond) ∈ wsL_law := tb_in (tbt2 (List.mem_of_getElem? (i := 160) rfl)) rfl
theorem tw2_161 : (.selects RX7 yX7_take yX7_take : Cond) ∈ wsL_law := tb_in (tbt2 (List.mem_of_getElem? (i := 161) rfl)) rfl
theorem tw2_162 : (.code yX7_take cX7_take 3 (some .int) : Cond) ∈ wsL_law := tb_in (tbt2 (List.mem_of_getElem? (i := 162) rfl)) rfl
theorem tw2_163 : (.methodLink RX7 133 yX5_hasPlace : Cond) ∈ wsL_law := tb_in (tbt2 (List.mem_of_getElem? (i := 163) rfl)) rfl
theorem tw2_164 : (.methodLink RX7 136 yX7_removeOnDraft : Cond) ∈ wsL_law := tb_in (tbt2 (List.mem_of_getElem? (i := 164) rfl)) rfl
theorem tw2_166 : (.instanceMethod yX7_removeOnDraft : Cond) ∈ wsL_law := tb_in (tbt2 (List.mem_of_getElem? (i := 166) rfl)) rfl
theorem tw2_167 : (.code yX7_removeOnDraft cX7_removeOnDraft 5 (some .boolean) : Cond) ∈ wsL_law := tb_in (tbt2 (List.mem_of_getElem? (i := 167) rfl)) rfl
theorem tw2_168 : (.methodLink RX7 216 yX5_remove : Cond) ∈ wsL_law := tb_in (tbt2 (List.mem_of_getElem? (i := 168) rfl)) rfl
theorem tw2_169 : (.instanceMethod yX5_remove : Cond) ∈ wsL_law := tb_in (tbt2 (List.mem_of_getElem? (i := 169) rfl)) rfl
theorem tw2_170 : (.selects RX5 yX5_remove yX5_remove : Cond) ∈ wsL_law := tb_in (tbt2 (List.mem_of_getElem? (i := 170) rfl)) rfl
theorem tw2_171 : (.code yX5_remove cX5_remove 3 none : Cond) ∈ wsL_law := tb_in (tbt2 (List.mem_of_getElem? (i := 171) rfl)) rfl
theorem tw2_172 : (.methodLink RX7 219 yX5_swap : Cond) ∈ wsL_law := tb_in (tbt2 (List.mem_of_getElem? (i := 172) rfl)) rfl
theorem tw2_173 : (.methodLink RX7 222 yX5_sink : Cond) ∈ wsL_law := tb_in (tbt2 (List.mem_of_getElem? (i := 173) rfl)) rfl
theorem tw2_174 : (.instanceMethod yX5_sink : Cond) ∈ wsL_law := tb_in (tbt2 (List.mem_of_getElem? (i := 174) rfl)) rfl
theorem tw2_175 : (.selects RX5 yX5_sink yX5_sink : Cond) ∈ wsL_law := tb_in (tbt2 (List.mem_of_getElem? (i := 175) rfl)) rfl
theorem tw2_176 : (.code yX5_sink cX5_sink 7 (some .int) : Cond) ∈ wsL_law := tb_in (tbt2 (List.mem_of_getElem? (i := 176) rfl)) rfl
theorem tw2_177 : (.methodLink RL 53 yX7_first : Cond) ∈ wsL_law := tb_in (tbt2 (List.mem_of_getElem? (i := 177) rfl)) rfl
theorem tw2_178 : (.instanceMethod yX7_first : Cond) ∈ wsL_law := tb_in (tbt2 (List.mem_of_getElem? (i := 178) rfl)) rfl
theorem tw2_179 : (.selects RX7 yX7_first yX7_first : Cond) ∈ wsL_law := tb_in (tbt2 (List.mem_of_getElem? (i := 179) rfl)) rfl
theorem tw2_180 : (.code yX7_first cX7_first 4 (some .int) : Cond) ∈ wsL_law := tb_in (tbt2 (List.mem_of_getElem? (i := 180) rfl)) rfl
theorem tw2_181 : (.methodLink RX7 139 yX5_cardAt : Cond) ∈ wsL_law := tb_in (tbt2 (List.mem_of_getElem? (i := 181) rfl)) rfl
theorem tw2_182 : (.methodLink RL 58 yX7_find : Cond) ∈ wsL_law := tb_in (tbt2 (List.mem_of_getElem? (i := 182) rfl)) rfl
theorem tw2_183 : (.instanceMethod yX7_find : Cond) ∈ wsL_law := tb_in (tbt2 (List.mem_of_getElem? (i := 183) rfl)) rfl
theorem tw2_184 : (.selects RX7 yX7_find yX7_find : Cond) ∈ wsL_law := tb_in (tbt2 (List.mem_of_getElem? (i := 184) rfl)) rfl
theorem tw2_185 : (.code yX7_find cX7_find 4 (some .int) : Cond) ∈ wsL_law := tb_in (tbt2 (List.mem_of_getElem? (i := 185) rfl)) rfl
theorem tw2_186 : (.methodLink RL 62 yX7_sort : Cond) ∈ wsL_law := tb_in (tbt2 (List.mem_of_getElem? (i := 186) rfl)) rfl
theorem tw2_187 : (.instanceMethod yX7_sort : Cond) ∈ wsL_law := tb_in (tbt2 (List.mem_of_getElem? (i := 187) rfl)) rfl
theorem tw2_188 : (.selects RX7 yX7_sort yX7_sort : Cond) ∈ wsL_law := tb_in (tbt2 (List.mem_of_getElem? (i := 188) rfl)) rfl
theorem tw2_189 : (.code yX7_sort cX7_sort 4 (some .int) : Cond) ∈ wsL_law := tb_in (tbt2 (List.mem_of_getElem? (i := 189) rfl)) rfl
theorem tw2_190 : (.methodLink RX7 152 yX7_sortDraftAnew : Cond) ∈ wsL_law := tb_in (tbt2 (List.mem_of_getElem? (i := 190) rfl)) rfl
theorem tw2_192 : (.instanceMethod yX7_sortDraftAnew : Cond) ∈ wsL_law := tb_in (tbt2 (List.mem_of_getElem? (i := 192) rfl)) rfl
theorem tw2_193 : (.code yX7_sortDraftAnew cX7_sortDraftAnew 7 (some .boolean) : Cond) ∈ wsL_law := tb_in (tbt2 (List.mem_of_getElem? (i := 193) rfl)) rfl
theorem tw2_194 : (.methodLink RX7 159 yX5_clear : Cond) ∈ wsL_law := tb_in (tbt2 (List.mem_of_getElem? (i := 194) rfl)) rfl
theorem tw2_195 : (.methodLink RX7 225 Lib.Math.min.name : Cond) ∈ wsL_law := tb_in (tbt2 (List.mem_of_getElem? (i := 195) rfl)) rfl
theorem tw2_196 : (.static Lib.Math.min.name : Cond) ∈ wsL_law := tb_in (tbt2 (List.mem_of_getElem? (i := 196) rfl)) rfl
theorem tw2_197 : (.code Lib.Math.min.name Lib.Math.min.code 2 (some .int) : Cond) ∈ wsL_law := tb_in (tbt2 (List.mem_of_getElem? (i := 197) rfl)) rfl
theorem tw2_198 : (.methodLink RX7 230 yX5_appendMerged : Cond) ∈ wsL_law := tb_in (tbt2 (List.mem_of_getElem? (i := 198) rfl)) rfl
theorem tw2_199 : (.instanceMethod yX5_appendMerged : Cond) ∈ wsL_law := tb_in (tbt2 (List.mem_of_getElem? (i := 199) rfl)) rfl
theorem tw2_200 : (.selects RX5 yX5_appendMerged yX5_appendMerged : Cond) ∈ wsL_law := tb_in (tbt2 (List.mem_of_getElem? (i := 200) rfl)) rfl
theorem tw2_201 : (.code yX5_appendMerged cX5_appendMerged 10 (some .boolean) : Cond) ∈ wsL_law := tb_in (tbt2 (List.mem_of_getElem? (i := 201) rfl)) rfl
theorem tw2_202 : (.methodLink RL 66 yX7_filter : Cond) ∈ wsL_law := tb_in (tbt2 (List.mem_of_getElem? (i := 202) rfl)) rfl
theorem tw2_203 : (.instanceMethod yX7_filter : Cond) ∈ wsL_law := tb_in (tbt2 (List.mem_of_getElem? (i := 203) rfl)) rfl
theorem tw2_204 : (.selects RX7 yX7_filter yX7_filter : Cond) ∈ wsL_law := tb_in (tbt2 (List.mem_of_getElem? (i := 204) rfl)) rfl
theorem tw2_205 : (.code yX7_filter cX7_filter 5 (some .int) : Cond) ∈ wsL_law := tb_in (tbt2 (List.mem_of_getElem? (i := 205) rfl)) rfl
theorem tw2_206 : (.methodLink RX7 155 yX7_judgeOntoDraft : Cond) ∈ wsL_law := tb_in (tbt2 (List.mem_of_getElem? (i := 206) rfl)) rfl
theorem tw2_208 : (.instanceMethod yX7_judgeOntoDraft : Cond) ∈ wsL_law := tb_in (tbt2 (List.mem_of_getElem? (i := 208) rfl)) rfl
theorem tw2_209 : (.code yX7_judgeOntoDraft cX7_judgeOntoDraft 5 (some .boolean) : Cond) ∈ wsL_law := tb_in (tbt2 (List.mem_of_getElem? (i := 209) rfl)) rfl
theorem tw2_210 : (.methodLink RX7 234 yX1_askKeeping : Cond) ∈ wsL_law := tb_in (tbt2 (List.mem_of_getElem? (i := 210) rfl)) rfl
theorem tw2_211 : (.instanceMethod yX1_askKeeping : Cond) ∈ wsL_law := tb_in (tbt2 (List.mem_of_getElem? (i := 211) rfl)) rfl
theorem tw2_212 : (.selects RX1 yX1_askKeeping yX1_askKeeping : Cond) ∈ wsL_law := tb_in (tbt2 (List.mem_of_getElem? (i := 212) rfl)) rfl
theorem tw2_213 : (.code yX1_askKeeping cX1_askKeeping 5 (some .int) : Cond) ∈ wsL_law := tb_in (tbt2 (List.mem_of_getElem? (i := 213) rfl)) rfl
theorem tw2_214 : (.methodLink RX1 80 yX1_numberOf : Cond) ∈ wsL_law := tb_in (tbt2 (List.mem_of_getElem? (i := 214) rfl)) rfl
theorem tw2_216 : (.instanceMethod yX1_numberOf : Cond) ∈ wsL_law := tb_in (tbt2 (List.mem_of_getElem? (i := 216) rfl)) rfl
theorem tw2_217 : (.code yX1_numberOf cX1_numberOf 2 (some .int) : Cond) ∈ wsL_law := tb_in (tbt2 (List.mem_of_getElem? (i := 217) rfl)) rfl
theorem tw2_218 : (.methodLink RX7 237 yX5_appendPart : Cond) ∈ wsL_law := tb_in (tbt2 (List.mem_of_getElem? (i := 218) rfl)) rfl
theorem tw2_219 : (.methodLink RX7 161 yX7_placeAllOnDraft : Cond) ∈ wsL_law := tb_in (tbt2 (List.mem_of_getElem? (i := 219) rfl)) rfl
theorem tw2_221 : (.instanceMethod yX7_placeAllOnDraft : Cond) ∈ wsL_law := tb_in (tbt2 (List.mem_of_getElem? (i := 221) rfl)) rfl
theorem tw2_222 : (.code yX7_placeAllOnDraft cX7_placeAllOnDraft 4 (some .boolean) : Cond) ∈ wsL_law := tb_in (tbt2 (List.mem_of_getElem? (i := 222) rfl)) rfl
theorem tw2_223 : (.methodLink RL 70 yX7_change : Cond) ∈ wsL_law := tb_in (tbt2 (List.mem_of_getElem? (i := 223) rfl)) rfl
theorem tw2_224 : (.instanceMethod yX7_change : Cond) ∈ wsL_law := tb_in (tbt2 (List.mem_of_getElem? (i := 224) rfl)) rfl
theorem tw2_225 : (.selects RX7 yX7_change yX7_change : Cond) ∈ wsL_law := tb_in (tbt2 (List.mem_of_getElem? (i := 225) rfl)) rfl
theorem tw2_226 : (.code yX7_change cX7_change 4 (some .int) : Cond) ∈ wsL_law := tb_in (tbt2 (List.mem_of_getElem? (i := 226) rfl)) rfl
theorem tw2_227 : (.methodLink RX7 166 yX7_changeCards : Cond) ∈ wsL_law := tb_in (tbt2 (List.mem_of_getElem? (i := 227) rfl)) rfl
theorem tw2_229 : (.instanceMethod yX7_changeCards : Cond) ∈ wsL_law := tb_in (tbt2 (List.mem_of_getElem? (i := 229) rfl)) rfl
theorem tw2_230 : (.code yX7_changeCards cX7_changeCards 5 (some .boolean) : Cond) ∈ wsL_law := tb_in (tbt2 (List.mem_of_getElem? (i := 230) rfl)) rfl
theorem tw2_231 : (.methodLink RX7 241 yX1_askAdding : Cond) ∈ wsL_law := tb_in (tbt2 (List.mem_of_getElem? (i := 231) rfl)) rfl
theorem tw2_232 : (.instanceMethod yX1_askAdding : Cond) ∈ wsL_law := tb_in (tbt2 (List.mem_of_getElem? (i := 232) rfl)) rfl
theorem tw2_233 : (.selects RX1 yX1_askAdding yX1_askAdding : Cond) ∈ wsL_law := tb_in (tbt2 (List.mem_of_getElem? (i := 233) rfl)) rfl
theorem tw2_234 : (.code yX1_askAdding cX1_askAdding 6 (some .int) : Cond) ∈ wsL_law := tb_in (tbt2 (List.mem_of_getElem? (i := 234) rfl)) rfl
theorem tw2_235 : (.methodLink RX1 86 yX0_add : Cond) ∈ wsL_law := tb_in (tbt2 (List.mem_of_getElem? (i := 235) rfl)) rfl
theorem tw2_236 : (.methodLink RX7 244 yX5_replace : Cond) ∈ wsL_law := tb_in (tbt2 (List.mem_of_getElem? (i := 236) rfl)) rfl
theorem tw2_237 : (.methodLink RL 74 yX7_all : Cond) ∈ wsL_law := tb_in (tbt2 (List.mem_of_getElem? (i := 237) rfl)) rfl
theorem tw2_238 : (.instanceMethod yX7_all : Cond) ∈ wsL_law := tb_in (tbt2 (List.mem_of_getElem? (i := 238) rfl)) rfl
theorem tw2_239 : (.selects RX7 yX7_all yX7_all : Cond) ∈ wsL_law := tb_in (tbt2 (List.mem_of_getElem? (i := 239) rfl)) rfl
theorem tw3_0 : (.code yX7_all cX7_all 7 (some .int) : Cond) ∈ wsL_law := tb_in (tbt3 (List.mem_of_getElem? (i := 0) rfl)) rfl
theorem tw3_1 : (.methodLink RX7 169 yX7_mergeIntoDraft : Cond) ∈ wsL_law := tb_in (tbt3 (List.mem_of_getElem? (i := 1) rfl)) rfl
theorem tw3_3 : (.instanceMethod yX7_mergeIntoDraft : Cond) ∈ wsL_law := tb_in (tbt3 (List.mem_of_getElem? (i := 3) rfl)) rfl
theorem tw3_4 : (.code yX7_mergeIntoDraft cX7_mergeIntoDraft 4 (some .boolean) : Cond) ∈ wsL_law := tb_in (tbt3 (List.mem_of_getElem? (i := 4) rfl)) rfl
theorem tw3_5 : (.methodLink RL 78 yX7_at : Cond) ∈ wsL_law := tb_in (tbt3 (List.mem_of_getElem? (i := 5) rfl)) rfl
theorem tw3_6 : (.instanceMethod yX7_at : Cond) ∈ wsL_law := tb_in (tbt3 (List.mem_of_getElem? (i := 6) rfl)) rfl
theorem tw3_7 : (.selects RX7 yX7_at yX7_at : Cond) ∈ wsL_law := tb_in (tbt3 (List.mem_of_getElem? (i := 7) rfl)) rfl
theorem tw3_8 : (.code yX7_at cX7_at 3 (some .int) : Cond) ∈ wsL_law := tb_in (tbt3 (List.mem_of_getElem? (i := 8) rfl)) rfl
theorem tw3_9 : (.methodLink RL 82 yX7_whole : Cond) ∈ wsL_law := tb_in (tbt3 (List.mem_of_getElem? (i := 9) rfl)) rfl
theorem tw3_10 : (.instanceMethod yX7_whole : Cond) ∈ wsL_law := tb_in (tbt3 (List.mem_of_getElem? (i := 10) rfl)) rfl
theorem tw3_11 : (.selects RX7 yX7_whole yX7_whole : Cond) ∈ wsL_law := tb_in (tbt3 (List.mem_of_getElem? (i := 11) rfl)) rfl
theorem tw3_12 : (.code yX7_whole cX7_whole 4 (some .int) : Cond) ∈ wsL_law := tb_in (tbt3 (List.mem_of_getElem? (i := 12) rfl)) rfl
theorem tw3_13 : (.methodLink RX7 172 yX7_isWhole : Cond) ∈ wsL_law := tb_in (tbt3 (List.mem_of_getElem? (i := 13) rfl)) rfl
theorem tw3_15 : (.instanceMethod yX7_isWhole : Cond) ∈ wsL_law := tb_in (tbt3 (List.mem_of_getElem? (i := 15) rfl)) rfl
theorem tw3_16 : (.code yX7_isWhole cX7_isWhole 4 (some .boolean) : Cond) ∈ wsL_law := tb_in (tbt3 (List.mem_of_getElem? (i := 16) rfl)) rfl
theorem tw3_17 : (.methodLink RX7 247 yX1_compareTruly : Cond) ∈ wsL_law := tb_in (tbt3 (List.mem_of_getElem? (i := 17) rfl)) rfl
theorem tw3_18 : (.methodLink RL 86 yX7_same : Cond) ∈ wsL_law := tb_in (tbt3 (List.mem_of_getElem? (i := 18) rfl)) rfl
theorem tw3_19 : (.instanceMethod yX7_same : Cond) ∈ wsL_law := tb_in (tbt3 (List.mem_of_getElem? (i := 19) rfl)) rfl
theorem tw3_20 : (.selects RX7 yX7_same yX7_same : Cond) ∈ wsL_law := tb_in (tbt3 (List.mem_of_getElem? (i := 20) rfl)) rfl
theorem tw3_21 : (.code yX7_same cX7_same 3 (some .int) : Cond) ∈ wsL_law := tb_in (tbt3 (List.mem_of_getElem? (i := 21) rfl)) rfl
theorem tw3_22 : (.methodLink RX7 176 yX5_isLike : Cond) ∈ wsL_law := tb_in (tbt3 (List.mem_of_getElem? (i := 22) rfl)) rfl
theorem tw3_23 : (.instanceMethod yX5_isLike : Cond) ∈ wsL_law := tb_in (tbt3 (List.mem_of_getElem? (i := 23) rfl)) rfl
theorem tw3_24 : (.selects RX5 yX5_isLike yX5_isLike : Cond) ∈ wsL_law := tb_in (tbt3 (List.mem_of_getElem? (i := 24) rfl)) rfl
theorem tw3_25 : (.code yX5_isLike cX5_isLike 3 (some .boolean) : Cond) ∈ wsL_law := tb_in (tbt3 (List.mem_of_getElem? (i := 25) rfl)) rfl
theorem tw3_26 : (.methodLink RL 90 yX7_thrown : Cond) ∈ wsL_law := tb_in (tbt3 (List.mem_of_getElem? (i := 26) rfl)) rfl
theorem tw3_27 : (.instanceMethod yX7_thrown : Cond) ∈ wsL_law := tb_in (tbt3 (List.mem_of_getElem? (i := 27) rfl)) rfl
theorem tw3_28 : (.selects RX7 yX7_thrown yX7_thrown : Cond) ∈ wsL_law := tb_in (tbt3 (List.mem_of_getElem? (i := 28) rfl)) rfl
theorem tw3_29 : (.code yX7_thrown cX7_thrown 2 (some .int) : Cond) ∈ wsL_law := tb_in (tbt3 (List.mem_of_getElem? (i := 29) rfl)) rfl
theorem tw3_30 : (.methodLink RL 94 yX7_count : Cond) ∈ wsL_law := tb_in (tbt3 (List.mem_of_getElem? (i := 30) rfl)) rfl
theorem tw3_31 : (.instanceMethod yX7_count : Cond) ∈ wsL_law := tb_in (tbt3 (List.mem_of_getElem? (i := 31) rfl)) rfl
theorem tw3_32 : (.selects RX7 yX7_count yX7_count : Cond) ∈ wsL_law := tb_in (tbt3 (List.mem_of_getElem? (i := 32) rfl)) rfl
theorem tw3_33 : (.code yX7_count cX7_count 2 (some .int) : Cond) ∈ wsL_law := tb_in (tbt3 (List.mem_of_getElem? (i := 33) rfl)) rfl
theorem tw3_34 : (.classLink RL 10 RX8 : Cond) ∈ wsL_law := tb_in (tbt3 (List.mem_of_getElem? (i := 34) rfl)) rfl
theorem tw3_35 : (.instantiable RX8 29 : Cond) ∈ wsL_law := tb_in (tbt3 (List.mem_of_getElem? (i := 35) rfl)) rfl
theorem tw3_36 : (.methodLink RL 12 yX8_init : Cond) ∈ wsL_law := tb_in (tbt3 (List.mem_of_getElem? (i := 36) rfl)) rfl
theorem tw3_37 : (.instanceMethod yX8_init : Cond) ∈ wsL_law := tb_in (tbt3 (List.mem_of_getElem? (i := 37) rfl)) rfl
theorem tw3_38 : (.code yX8_init cX8_init 1 none : Cond) ∈ wsL_law := tb_in (tbt3 (List.mem_of_getElem? (i := 38) rfl)) rfl
theorem tw3_39 : (.methodLink RX8 1 objectInit : Cond) ∈ wsL_law := tb_in (tbt3 (List.mem_of_getElem? (i := 39) rfl)) rfl
theorem tw3_40 : (.fieldLink RX8 65 "HookTraysModel" "cards" "I" : Cond) ∈ wsL_law := tb_in (tbt3 (List.mem_of_getElem? (i := 40) rfl)) rfl
theorem tw3_41 : (.fieldLink RX8 7 "HookTraysModel" "weight" "[I" : Cond) ∈ wsL_law := tb_in (tbt3 (List.mem_of_getElem? (i := 41) rfl)) rfl
theorem tw3_42 : (.fieldLink RX8 13 "HookTraysModel" "mark" "[I" : Cond) ∈ wsL_law := tb_in (tbt3 (List.mem_of_getElem? (i := 42) rfl)) rfl
theorem tw3_43 : (.fieldLink RX8 72 "HookTraysModel" "hooks" "I" : Cond) ∈ wsL_law := tb_in (tbt3 (List.mem_of_getElem? (i := 43) rfl)) rfl
theorem tw3_44 : (.fieldLink RX8 16 "HookTraysModel" "hookKind" "[I" : Cond) ∈ wsL_law := tb_in (tbt3 (List.mem_of_getElem? (i := 44) rfl)) rfl
theorem tw3_45 : (.fieldLink RX8 19 "HookTraysModel" "hookA" "[I" : Cond) ∈ wsL_law := tb_in (tbt3 (List.mem_of_getElem? (i := 45) rfl)) rfl
theorem tw3_46 : (.fieldLink RX8 22 "HookTraysModel" "calls" "[I" : Cond) ∈ wsL_law := tb_in (tbt3 (List.mem_of_getElem? (i := 46) rfl)) rfl
theorem tw3_47 : (.fieldLink RX8 25 "HookTraysModel" "latest" "[I" : Cond) ∈ wsL_law := tb_in (tbt3 (List.mem_of_getElem? (i := 47) rfl)) rfl
theorem tw3_48 : (.fieldLink RX8 28 "HookTraysModel" "misuses" "[I" : Cond) ∈ wsL_law := tb_in (tbt3 (List.mem_of_getElem? (i := 48) rfl)) rfl
theorem tw3_49 : (.fieldLink RX8 88 "HookTraysModel" "plans" "I" : Cond) ∈ wsL_law := tb_in (tbt3 (List.mem_of_getElem? (i := 49) rfl)) rfl
theorem tw3_50 : (.fieldLink RX8 31 "HookTraysModel" "planHook" "[I" : Cond) ∈ wsL_law := tb_in (tbt3 (List.mem_of_getElem? (i := 50) rfl)) rfl
theorem tw3_51 : (.fieldLink RX8 34 "HookTraysModel" "planCall" "[I" : Cond) ∈ wsL_law := tb_in (tbt3 (List.mem_of_getElem? (i := 51) rfl)) rfl
theorem tw3_52 : (.fieldLink RX8 37 "HookTraysModel" "planWhat" "[I" : Cond) ∈ wsL_law := tb_in (tbt3 (List.mem_of_getElem? (i := 52) rfl)) rfl
theorem tw3_53 : (.fieldLink RX8 40 "HookTraysModel" "planF" "[I" : Cond) ∈ wsL_law := tb_in (tbt3 (List.mem_of_getElem? (i := 53) rfl)) rfl
theorem tw3_54 : (.fieldLink RX8 75 "HookTraysModel" "trays" "I" : Cond) ∈ wsL_law := tb_in (tbt3 (List.mem_of_getElem? (i := 54) rfl)) rfl
theorem tw3_55 : (.fieldLink RX8 43 "HookTraysModel" "trayKind" "[I" : Cond) ∈ wsL_law := tb_in (tbt3 (List.mem_of_getElem? (i := 55) rfl)) rfl
theorem tw3_56 : (.fieldLink RX8 46 "HookTraysModel" "trayHook" "[I" : Cond) ∈ wsL_law := tb_in (tbt3 (List.mem_of_getElem? (i := 56) rfl)) rfl
theorem tw3_57 : (.fieldLink RX8 49 "HookTraysModel" "many" "[I" : Cond) ∈ wsL_law := tb_in (tbt3 (List.mem_of_getElem? (i := 57) rfl)) rfl
theorem tw3_58 : (.fieldLink RX8 52 "HookTraysModel" "held" "[I" : Cond) ∈ wsL_law := tb_in (tbt3 (List.mem_of_getElem? (i := 58) rfl)) rfl
theorem tw3_59 : (.fieldLink RX8 129 "HookTraysModel" "acts" "I" : Cond) ∈ wsL_law := tb_in (tbt3 (List.mem_of_getElem? (i := 59) rfl)) rfl
theorem tw3_60 : (.fieldLink RX8 138 "HookTraysModel" "actsThrown" "I" : Cond) ∈ wsL_law := tb_in (tbt3 (List.mem_of_getElem? (i := 60) rfl)) rfl
theorem tw3_61 : (.fieldLink RX8 106 "HookTraysModel" "isThrown" "Z" : Cond) ∈ wsL_law := tb_in (tbt3 (List.mem_of_getElem? (i := 61) rfl)) rfl
theorem tw3_62 : (.fieldLink RX8 110 "HookTraysModel" "thrownBy" "I" : Cond) ∈ wsL_law := tb_in (tbt3 (List.mem_of_getElem? (i := 62) rfl)) rfl
theorem tw3_63 : (.fieldLink RX8 55 "HookTraysModel" "thrownHook" "I" : Cond) ∈ wsL_law := tb_in (tbt3 (List.mem_of_getElem? (i := 63) rfl)) rfl
theorem tw3_64 : (.fieldLink RX8 113 "HookTraysModel" "thrownCall" "I" : Cond) ∈ wsL_law := tb_in (tbt3 (List.mem_of_getElem? (i := 64) rfl)) rfl
theorem tw3_65 : (.fieldLink RX8 132 "HookTraysModel" "done" "I" : Cond) ∈ wsL_law := tb_in (tbt3 (List.mem_of_getElem? (i := 65) rfl)) rfl
theorem tw3_66 : (.fieldLink RX8 135 "HookTraysModel" "size" "I" : Cond) ∈ wsL_law := tb_in (tbt3 (List.mem_of_getElem? (i := 66) rfl)) rfl
theorem tw3_67 : (.fieldLink RX8 59 "HookTraysModel" "row" "[I" : Cond) ∈ wsL_law := tb_in (tbt3 (List.mem_of_getElem? (i := 67) rfl)) rfl
theorem tw3_68 : (.fieldLink RX8 62 "HookTraysModel" "other" "[I" : Cond) ∈ wsL_law := tb_in (tbt3 (List.mem_of_getElem? (i := 68) rfl)) rfl
theorem tw3_69 : (.lays RX8 "HookTraysModel" "cards" "I" : Cond) ∈ wsL_law := tb_in (tbt3 (List.mem_of_getElem? (i := 69) rfl)) rfl
theorem tw3_71 : (.laysFinal RX8 "HookTraysModel" "weight" "[I" : Cond) ∈ wsL_law := tb_in (tbt3 (List.mem_of_getElem? (i := 71) rfl)) rfl
theorem tw3_73 : (.laysFinal RX8 "HookTraysModel" "mark" "[I" : Cond) ∈ wsL_law := tb_in (tbt3 (List.mem_of_getElem? (i := 73) rfl)) rfl
theorem tw3_75 : (.lays RX8 "HookTraysModel" "hooks" "I" : Cond) ∈ wsL_law := tb_in (tbt3 (List.mem_of_getElem? (i := 75) rfl)) rfl
theorem tw3_77 : (.laysFinal RX8 "HookTraysModel" "hookKind" "[I" : Cond) ∈ wsL_law := tb_in (tbt3 (List.mem_of_getElem? (i := 77) rfl)) rfl
theorem tw3_79 : (.laysFinal RX8 "HookTraysModel" "hookA" "[I" : Cond) ∈ wsL_law := tb_in (tbt3 (List.mem_of_getElem? (i := 79) rfl)) rfl
theorem tw3_81 : (.laysFinal RX8 "HookTraysModel" "calls" "[I" : Cond) ∈ wsL_law := tb_in (tbt3 (List.mem_of_getElem? (i := 81) rfl)) rfl
theorem tw3_83 : (.laysFinal RX8 "HookTraysModel" "latest" "[I" : Cond) ∈ wsL_law := tb_in (tbt3 (List.mem_of_getElem? (i := 83) rfl)) rfl
theorem tw3_85 : (.laysFinal RX8 "HookTraysModel" "misuses" "[I" : Cond) ∈ wsL_law := tb_in (tbt3 (List.mem_of_getElem? (i := 85) rfl)) rfl
theorem tw3_87 : (.lays RX8 "HookTraysModel" "plans" "I" : Cond) ∈ wsL_law := tb_in (tbt3 (List.mem_of_getElem? (i := 87) rfl)) rfl
theorem tw3_89 : (.laysFinal RX8 "HookTraysModel" "planHook" "[I" : Cond) ∈ wsL_law := tb_in (tbt3 (List.mem_of_getElem? (i := 89) rfl)) rfl
theorem tw3_91 : (.laysFinal RX8 "HookTraysModel" "planCall" "[I" : Cond) ∈ wsL_law := tb_in (tbt3 (List.mem_of_getElem? (i := 91) rfl)) rfl
theorem tw3_93 : (.laysFinal RX8 "HookTraysModel" "planWhat" "[I" : Cond) ∈ wsL_law := tb_in (tbt3 (List.mem_of_getElem? (i := 93) rfl)) rfl
theorem tw3_95 : (.laysFinal RX8 "HookTraysModel" "planF" "[I" : Cond) ∈ wsL_law := tb_in (tbt3 (List.mem_of_getElem? (i := 95) rfl)) rfl
theorem tw3_97 : (.lays RX8 "HookTraysModel" "trays" "I" : Cond) ∈ wsL_law := tb_in (tbt3 (List.mem_of_getElem? (i := 97) rfl)) rfl
theorem tw3_99 : (.laysFinal RX8 "HookTraysModel" "trayKind" "[I" : Cond) ∈ wsL_law := tb_in (tbt3 (List.mem_of_getElem? (i := 99) rfl)) rfl
theorem tw3_101 : (.laysFinal RX8 "HookTraysModel" "trayHook" "[I" : Cond) ∈ wsL_law := tb_in (tbt3 (List.mem_of_getElem? (i := 101) rfl)) rfl
theorem tw3_103 : (.laysFinal RX8 "HookTraysModel" "many" "[I" : Cond) ∈ wsL_law := tb_in (tbt3 (List.mem_of_getElem? (i := 103) rfl)) rfl
theorem tw3_105 : (.laysFinal RX8 "HookTraysModel" "held" "[I" : Cond) ∈ wsL_law := tb_in (tbt3 (List.mem_of_getElem? (i := 105) rfl)) rfl
theorem tw3_107 : (.lays RX8 "HookTraysModel" "acts" "I" : Cond) ∈ wsL_law := tb_in (tbt3 (List.mem_of_getElem? (i := 107) rfl)) rfl
theorem tw3_109 : (.lays RX8 "HookTraysModel" "actsThrown" "I" : Cond) ∈ wsL_law := tb_in (tbt3 (List.mem_of_getElem? (i := 109) rfl)) rfl
theorem tw3_111 : (.lays RX8 "HookTraysModel" "isThrown" "Z" : Cond) ∈ wsL_law := tb_in (tbt3 (List.mem_of_getElem? (i := 111) rfl)) rfl
theorem tw3_113 : (.lays RX8 "HookTraysModel" "thrownBy" "I" : Cond) ∈ wsL_law := tb_in (tbt3 (List.mem_of_getElem? (i := 113) rfl)) rfl
theorem tw3_115 : (.lays RX8 "HookTraysModel" "thrownHook" "I" : Cond) ∈ wsL_law := tb_in (tbt3 (List.mem_of_getElem? (i := 115) rfl)) rfl
theorem tw3_117 : (.lays RX8 "HookTraysModel" "thrownCall" "I" : Cond) ∈ wsL_law := tb_in (tbt3 (List.mem_of_getElem? (i := 117) rfl)) rfl
theorem tw3_119 : (.lays RX8 "HookTraysModel" "done" "I" : Cond) ∈ wsL_law := tb_in (tbt3 (List.mem_of_getElem? (i := 119) rfl)) rfl
theorem tw3_121 : (.lays RX8 "HookTraysModel" "size" "I" : Cond) ∈ wsL_law := tb_in (tbt3 (List.mem_of_getElem? (i := 121) rfl)) rfl
theorem tw3_123 : (.laysFinal RX8 "HookTraysModel" "row" "[I" : Cond) ∈ wsL_law := tb_in (tbt3 (List.mem_of_getElem? (i := 123) rfl)) rfl
theorem tw3_125 : (.laysFinal RX8 "HookTraysModel" "other" "[I" : Cond) ∈ wsL_law := tb_in (tbt3 (List.mem_of_getElem? (i := 125) rfl)) rfl
theorem tw3_128 : (.methodLink RL 17 yX8_card : Cond) ∈ wsL_law := tb_in (tbt3 (List.mem_of_getElem? (i := 128) rfl)) rfl
theorem tw3_129 : (.instanceMethod yX8_card : Cond) ∈ wsL_law := tb_in (tbt3 (List.mem_of_getElem? (i := 129) rfl)) rfl
theorem tw3_130 : (.selects RX8 yX8_card yX8_card : Cond) ∈ wsL_law := tb_in (tbt3 (List.mem_of_getElem? (i := 130) rfl)) rfl
theorem tw3_131 : (.code yX8_card cX8_card 3 (some .int) : Cond) ∈ wsL_law := tb_in (tbt3 (List.mem_of_getElem? (i := 131) rfl)) rfl
theorem tw3_132 : (.constantLong RX8 78 (99) : Cond) ∈ wsL_law := tb_in (tbt3 (List.mem_of_getElem? (i := 132) rfl)) rfl
theorem tw3_133 : (.methodLink RX8 68 yX8_in : Cond) ∈ wsL_law := tb_in (tbt3 (List.mem_of_getElem? (i := 133) rfl)) rfl
theorem tw3_134 : (.static yX8_in : Cond) ∈ wsL_law := tb_in (tbt3 (List.mem_of_getElem? (i := 134) rfl)) rfl
theorem tw3_135 : (.code yX8_in cX8_in 6 (some .boolean) : Cond) ∈ wsL_law := tb_in (tbt3 (List.mem_of_getElem? (i := 135) rfl)) rfl
theorem tw3_136 : (.methodLink RL 22 yX8_told : Cond) ∈ wsL_law := tb_in (tbt3 (List.mem_of_getElem? (i := 136) rfl)) rfl
theorem tw3_137 : (.instanceMethod yX8_told : Cond) ∈ wsL_law := tb_in (tbt3 (List.mem_of_getElem? (i := 137) rfl)) rfl
theorem tw3_138 : (.selects RX8 yX8_told yX8_told : Cond) ∈ wsL_law := tb_in (tbt3 (List.mem_of_getElem? (i := 138) rfl)) rfl
theorem tw3_139 : (.code yX8_told cX8_told 3 (some .long) : Cond) ∈ wsL_law := tb_in (tbt3 (List.mem_of_getElem? (i := 139) rfl)) rfl
theorem tw3_140 : (.methodLink RX8 80 yX8_isCard : Cond) ∈ wsL_law := tb_in (tbt3 (List.mem_of_getElem? (i := 140) rfl)) rfl
theorem tw3_142 : (.instanceMethod yX8_isCard : Cond) ∈ wsL_law := tb_in (tbt3 (List.mem_of_getElem? (i := 142) rfl)) rfl
theorem tw3_143 : (.code yX8_isCard cX8_isCard 2 (some .boolean) : Cond) ∈ wsL_law := tb_in (tbt3 (List.mem_of_getElem? (i := 143) rfl)) rfl
theorem tw3_144 : (.constantLong RX8 84 (-10000000000) : Cond) ∈ wsL_law := tb_in (tbt3 (List.mem_of_getElem? (i := 144) rfl)) rfl
theorem tw3_145 : (.methodLink RL 26 yX8_hook : Cond) ∈ wsL_law := tb_in (tbt3 (List.mem_of_getElem? (i := 145) rfl)) rfl
theorem tw3_146 : (.instanceMethod yX8_hook : Cond) ∈ wsL_law := tb_in (tbt3 (List.mem_of_getElem? (i := 146) rfl)) rfl
theorem tw3_147 : (.selects RX8 yX8_hook yX8_hook : Cond) ∈ wsL_law := tb_in (tbt3 (List.mem_of_getElem? (i := 147) rfl)) rfl
theorem tw3_148 : (.code yX8_hook cX8_hook 3 (some .int) : Cond) ∈ wsL_law := tb_in (tbt3 (List.mem_of_getElem? (i := 148) rfl)) rfl
theorem tw3_149 : (.constantLong RX8 86 (4) : Cond) ∈ wsL_law := tb_in (tbt3 (List.mem_of_getElem? (i := 149) rfl)) rfl
theorem tw3_150 : (.methodLink RL 31 yX8_plan : Cond) ∈ wsL_law := tb_in (tbt3 (List.mem_of_getElem? (i := 150) rfl)) rfl
theorem tw3_151 : (.instanceMethod yX8_plan : Cond) ∈ wsL_law := tb_in (tbt3 (List.mem_of_getElem? (i := 151) rfl)) rfl
theorem tw3_152 : (.selects RX8 yX8_plan yX8_plan : Cond) ∈ wsL_law := tb_in (tbt3 (List.mem_of_getElem? (i := 152) rfl)) rfl
theorem tw3_153 : (.code yX8_plan cX8_plan 6 (some .int) : Cond) ∈ wsL_law := tb_in (tbt3 (List.mem_of_getElem? (i := 153) rfl)) rfl
theorem tw3_154 : (.methodLink RX8 91 yX8_isHook : Cond) ∈ wsL_law := tb_in (tbt3 (List.mem_of_getElem? (i := 154) rfl)) rfl
theorem tw3_156 : (.instanceMethod yX8_isHook : Cond) ∈ wsL_law := tb_in (tbt3 (List.mem_of_getElem? (i := 156) rfl)) rfl
theorem tw3_157 : (.code yX8_isHook cX8_isHook 2 (some .boolean) : Cond) ∈ wsL_law := tb_in (tbt3 (List.mem_of_getElem? (i := 157) rfl)) rfl
theorem tw3_158 : (.constantLong RX8 94 (1000) : Cond) ∈ wsL_law := tb_in (tbt3 (List.mem_of_getElem? (i := 158) rfl)) rfl
theorem tw3_159 : (.constantLong RX8 96 (2) : Cond) ∈ wsL_law := tb_in (tbt3 (List.mem_of_getElem? (i := 159) rfl)) rfl
theorem tw3_160 : (.methodLink RX8 98 yX8_planOf : Cond) ∈ wsL_law := tb_in (tbt3 (List.mem_of_getElem? (i := 160) rfl)) rfl
theorem tw3_162 : (.instanceMethod yX8_planOf : Cond) ∈ wsL_law := tb_in (tbt3 (List.mem_of_getElem? (i := 162) rfl)) rfl
theorem tw3_163 : (.code yX8_planOf cX8_planOf 5 (some .int) : Cond) ∈ wsL_law := tb_in (tbt3 (List.mem_of_getElem? (i := 163) rfl)) rfl
theorem tw3_164 : (.methodLink RX8 102 yX8_dropPlan : Cond) ∈ wsL_law := tb_in (tbt3 (List.mem_of_getElem? (i := 164) rfl)) rfl
theorem tw3_166 : (.instanceMethod yX8_dropPlan : Cond) ∈ wsL_law := tb_in (tbt3 (List.mem_of_getElem? (i := 166) rfl)) rfl
theorem tw3_167 : (.code yX8_dropPlan cX8_dropPlan 2 none : Cond) ∈ wsL_law := tb_in (tbt3 (List.mem_of_getElem? (i := 167) rfl)) rfl
theorem tw3_168 : (.methodLink RL 36 yX8_clearPlans : Cond) ∈ wsL_law := tb_in (tbt3 (List.mem_of_getElem? (i := 168) rfl)) rfl
theorem tw3_169 : (.instanceMethod yX8_clearPlans : Cond) ∈ wsL_law := tb_in (tbt3 (List.mem_of_getElem? (i := 169) rfl)) rfl
theorem tw3_170 : (.selects RX8 yX8_clearPlans yX8_clearPlans : Cond) ∈ wsL_law := tb_in (tbt3 (List.mem_of_getElem? (i := 170) rfl)) rfl
theorem tw3_171 : (.code yX8_clearPlans cX8_clearPlans 2 (some .int) : Cond) ∈ wsL_law := tb_in (tbt3 (List.mem_of_getElem? (i := 171) rfl)) rfl
theorem tw3_172 : (.methodLink RL 40 yX8_about : Cond) ∈ wsL_law := tb_in (tbt3 (List.mem_of_getElem? (i := 172) rfl)) rfl
theorem tw3_173 : (.instanceMethod yX8_about : Cond) ∈ wsL_law := tb_in (tbt3 (List.mem_of_getElem? (i := 173) rfl)) rfl
theorem tw3_174 : (.selects RX8 yX8_about yX8_about : Cond) ∈ wsL_law := tb_in (tbt3 (List.mem_of_getElem? (i := 174) rfl)) rfl
theorem tw3_175 : (.code yX8_about cX8_about 5 (some .int) : Cond) ∈ wsL_law := tb_in (tbt3 (List.mem_of_getElem? (i := 175) rfl)) rfl
theorem tw3_176 : (.methodLink RL 44 yX8_tray : Cond) ∈ wsL_law := tb_in (tbt3 (List.mem_of_getElem? (i := 176) rfl)) rfl
theorem tw3_177 : (.instanceMethod yX8_tray : Cond) ∈ wsL_law := tb_in (tbt3 (List.mem_of_getElem? (i := 177) rfl)) rfl
theorem tw3_178 : (.selects RX8 yX8_tray yX8_tray : Cond) ∈ wsL_law := tb_in (tbt3 (List.mem_of_getElem? (i := 178) rfl)) rfl
theorem tw3_179 : (.code yX8_tray cX8_tray 3 (some .int) : Cond) ∈ wsL_law := tb_in (tbt3 (List.mem_of_getElem? (i := 179) rfl)) rfl
theorem tw3_180 : (.methodLink RX8 126 yX8_compares : Cond) ∈ wsL_law := tb_in (tbt3 (List.mem_of_getElem? (i := 180) rfl)) rfl
theorem tw3_182 : (.instanceMethod yX8_compares : Cond) ∈ wsL_law := tb_in (tbt3 (List.mem_of_getElem? (i := 182) rfl)) rfl
theorem tw3_183 : (.code yX8_compares cX8_compares 2 (some .boolean) : Cond) ∈ wsL_law := tb_in (tbt3 (List.mem_of_getElem? (i := 183) rfl)) rfl
theorem tw3_184 : (.methodLink RL 48 yX8_put : Cond) ∈ wsL_law := tb_in (tbt3 (List.mem_of_getElem? (i := 184) rfl)) rfl
theorem tw3_185 : (.instanceMethod yX8_put : Cond) ∈ wsL_law := tb_in (tbt3 (List.mem_of_getElem? (i := 185) rfl)) rfl
theorem tw3_186 : (.selects RX8 yX8_put yX8_put : Cond) ∈ wsL_law := tb_in (tbt3 (List.mem_of_getElem? (i := 186) rfl)) rfl
theorem tw3_187 : (.code yX8_put cX8_put 3 (some .int) : Cond) ∈ wsL_law := tb_in (tbt3 (List.mem_of_getElem? (i := 187) rfl)) rfl
theorem tw3_188 : (.methodLink RX8 162 yX8_isTray : Cond) ∈ wsL_law := tb_in (tbt3 (List.mem_of_getElem? (i := 188) rfl)) rfl
theorem tw3_190 : (.instanceMethod yX8_isTray : Cond) ∈ wsL_law := tb_in (tbt3 (List.mem_of_getElem? (i := 190) rfl)) rfl
theorem tw3_191 : (.code yX8_isTray cX8_isTray 2 (some .boolean) : Cond) ∈ wsL_law := tb_in (tbt3 (List.mem_of_getElem? (i := 191) rfl)) rfl
theorem tw3_192 : (.methodLink RX8 165 yX8_beginAct : Cond) ∈ wsL_law := tb_in (tbt3 (List.mem_of_getElem? (i := 192) rfl)) rfl
theorem tw3_194 : (.instanceMethod yX8_beginAct : Cond) ∈ wsL_law := tb_in (tbt3 (List.mem_of_getElem? (i := 194) rfl)) rfl
theorem tw3_195 : (.code yX8_beginAct cX8_beginAct 2 none : Cond) ∈ wsL_law := tb_in (tbt3 (List.mem_of_getElem? (i := 195) rfl)) rfl
theorem tw3_196 : (.methodLink RX8 168 yX8_load : Cond) ∈ wsL_law := tb_in (tbt3 (List.mem_of_getElem? (i := 196) rfl)) rfl
theorem tw3_198 : (.instanceMethod yX8_load : Cond) ∈ wsL_law := tb_in (tbt3 (List.mem_of_getElem? (i := 198) rfl)) rfl
theorem tw3_199 : (.code yX8_load cX8_load 3 none : Cond) ∈ wsL_law := tb_in (tbt3 (List.mem_of_getElem? (i := 199) rfl)) rfl
theorem tw3_200 : (.methodLink RX8 171 yX8_comes : Cond) ∈ wsL_law := tb_in (tbt3 (List.mem_of_getElem? (i := 200) rfl)) rfl
theorem tw3_202 : (.instanceMethod yX8_comes : Cond) ∈ wsL_law := tb_in (tbt3 (List.mem_of_getElem? (i := 202) rfl)) rfl
theorem tw3_203 : (.code yX8_comes cX8_comes 5 none : Cond) ∈ wsL_law := tb_in (tbt3 (List.mem_of_getElem? (i := 203) rfl)) rfl
theorem tw3_204 : (.methodLink RX8 152 yX8_halving : Cond) ∈ wsL_law := tb_in (tbt3 (List.mem_of_getElem? (i := 204) rfl)) rfl
theorem tw3_206 : (.instanceMethod yX8_halving : Cond) ∈ wsL_law := tb_in (tbt3 (List.mem_of_getElem? (i := 206) rfl)) rfl
theorem tw3_207 : (.code yX8_halving cX8_halving 6 (some .int) : Cond) ∈ wsL_law := tb_in (tbt3 (List.mem_of_getElem? (i := 207) rfl)) rfl
theorem tw3_208 : (.methodLink RX8 144 yX8_isAhead : Cond) ∈ wsL_law := tb_in (tbt3 (List.mem_of_getElem? (i := 208) rfl)) rfl
theorem tw3_210 : (.instanceMethod yX8_isAhead : Cond) ∈ wsL_law := tb_in (tbt3 (List.mem_of_getElem? (i := 210) rfl)) rfl
theorem tw3_211 : (.code yX8_isAhead cX8_isAhead 6 (some .boolean) : Cond) ∈ wsL_law := tb_in (tbt3 (List.mem_of_getElem? (i := 211) rfl)) rfl
theorem tw3_212 : (.methodLink RX8 119 yX8_begins : Cond) ∈ wsL_law := tb_in (tbt3 (List.mem_of_getElem? (i := 212) rfl)) rfl
theorem tw3_214 : (.instanceMethod yX8_begins : Cond) ∈ wsL_law := tb_in (tbt3 (List.mem_of_getElem? (i := 214) rfl)) rfl
theorem tw3_215 : (.code yX8_begins cX8_begins 5 (some .boolean) : Cond) ∈ wsL_law := tb_in (tbt3 (List.mem_of_getElem? (i := 215) rfl)) rfl
theorem tw3_216 : (.methodLink RX8 122 yX8_truth : Cond) ∈ wsL_law := tb_in (tbt3 (List.mem_of_getElem? (i := 216) rfl)) rfl
theorem tw3_218 : (.instanceMethod yX8_truth : Cond) ∈ wsL_law := tb_in (tbt3 (List.mem_of_getElem? (i := 218) rfl)) rfl
theorem tw3_219 : (.code yX8_truth cX8_truth 5 (some .int) : Cond) ∈ wsL_law := tb_in (tbt3 (List.mem_of_getElem? (i := 219) rfl)) rfl
theorem tw3_220 : (.methodLink RX8 116 yX8_sign : Cond) ∈ wsL_law := tb_in (tbt3 (List.mem_of_getElem? (i := 220) rfl)) rfl
theorem tw3_221 : (.static yX8_sign : Cond) ∈ wsL_law := tb_in (tbt3 (List.mem_of_getElem? (i := 221) rfl)) rfl
theorem tw3_222 : (.code yX8_sign cX8_sign 2 (some .int) : Cond) ∈ wsL_law := tb_in (tbt3 (List.mem_of_getElem? (i := 222) rfl)) rfl
theorem tw3_223 : (.methodLink RX8 155 yX8_insert : Cond) ∈ wsL_law := tb_in (tbt3 (List.mem_of_getElem? (i := 223) rfl)) rfl
theorem tw3_225 : (.instanceMethod yX8_insert : Cond) ∈ wsL_law := tb_in (tbt3 (List.mem_of_getElem? (i := 225) rfl)) rfl
theorem tw3_226 : (.code yX8_insert cX8_insert 4 none : Cond) ∈ wsL_law := tb_in (tbt3 (List.mem_of_getElem? (i := 226) rfl)) rfl
theorem tw3_227 : (.methodLink RX8 158 yX8_up : Cond) ∈ wsL_law := tb_in (tbt3 (List.mem_of_getElem? (i := 227) rfl)) rfl
theorem tw3_229 : (.instanceMethod yX8_up : Cond) ∈ wsL_law := tb_in (tbt3 (List.mem_of_getElem? (i := 229) rfl)) rfl
theorem tw3_230 : (.code yX8_up cX8_up 6 (some .boolean) : Cond) ∈ wsL_law := tb_in (tbt3 (List.mem_of_getElem? (i := 230) rfl)) rfl
theorem tw3_231 : (.methodLink RX8 148 yX8_turn : Cond) ∈ wsL_law := tb_in (tbt3 (List.mem_of_getElem? (i := 231) rfl)) rfl
theorem tw3_233 : (.instanceMethod yX8_turn : Cond) ∈ wsL_law := tb_in (tbt3 (List.mem_of_getElem? (i := 233) rfl)) rfl
theorem tw3_234 : (.code yX8_turn cX8_turn 4 none : Cond) ∈ wsL_law := tb_in (tbt3 (List.mem_of_getElem? (i := 234) rfl)) rfl
theorem tw3_235 : (.methodLink RX8 175 yX8_ends : Cond) ∈ wsL_law := tb_in (tbt3 (List.mem_of_getElem? (i := 235) rfl)) rfl
theorem tw3_237 : (.instanceMethod yX8_ends : Cond) ∈ wsL_law := tb_in (tbt3 (List.mem_of_getElem? (i := 237) rfl)) rfl
theorem tw3_238 : (.code yX8_ends cX8_ends 2 (some .int) : Cond) ∈ wsL_law := tb_in (tbt3 (List.mem_of_getElem? (i := 238) rfl)) rfl
theorem tw3_239 : (.methodLink RX8 141 yX8_give : Cond) ∈ wsL_law := tb_in (tbt3 (List.mem_of_getElem? (i := 239) rfl)) rfl
theorem tw4_1 : (.instanceMethod yX8_give : Cond) ∈ wsL_law := tb_in (tbt4 (List.mem_of_getElem? (i := 1) rfl)) rfl
theorem tw4_2 : (.code yX8_give cX8_give 3 none : Cond) ∈ wsL_law := tb_in (tbt4 (List.mem_of_getElem? (i := 2) rfl)) rfl
theorem tw4_3 : (.methodLink RL 52 yX8_take : Cond) ∈ wsL_law := tb_in (tbt4 (List.mem_of_getElem? (i := 3) rfl)) rfl
theorem tw4_4 : (.instanceMethod yX8_take : Cond) ∈ wsL_law := tb_in (tbt4 (List.mem_of_getElem? (i := 4) rfl)) rfl
theorem tw4_5 : (.selects RX8 yX8_take yX8_take : Cond) ∈ wsL_law := tb_in (tbt4 (List.mem_of_getElem? (i := 5) rfl)) rfl
theorem tw4_6 : (.code yX8_take cX8_take 3 (some .int) : Cond) ∈ wsL_law := tb_in (tbt4 (List.mem_of_getElem? (i := 6) rfl)) rfl
theorem tw4_7 : (.methodLink RX8 185 yX8_goes : Cond) ∈ wsL_law := tb_in (tbt4 (List.mem_of_getElem? (i := 7) rfl)) rfl
theorem tw4_9 : (.instanceMethod yX8_goes : Cond) ∈ wsL_law := tb_in (tbt4 (List.mem_of_getElem? (i := 9) rfl)) rfl
theorem tw4_10 : (.code yX8_goes cX8_goes 3 none : Cond) ∈ wsL_law := tb_in (tbt4 (List.mem_of_getElem? (i := 10) rfl)) rfl
theorem tw4_11 : (.methodLink RX8 179 yX8_remove : Cond) ∈ wsL_law := tb_in (tbt4 (List.mem_of_getElem? (i := 11) rfl)) rfl
theorem tw4_13 : (.instanceMethod yX8_remove : Cond) ∈ wsL_law := tb_in (tbt4 (List.mem_of_getElem? (i := 13) rfl)) rfl
theorem tw4_14 : (.code yX8_remove cX8_remove 3 none : Cond) ∈ wsL_law := tb_in (tbt4 (List.mem_of_getElem? (i := 14) rfl)) rfl
theorem tw4_15 : (.methodLink RX8 182 yX8_down : Cond) ∈ wsL_law := tb_in (tbt4 (List.mem_of_getElem? (i := 15) rfl)) rfl
theorem tw4_17 : (.instanceMethod yX8_down : Cond) ∈ wsL_law := tb_in (tbt4 (List.mem_of_getElem? (i := 17) rfl)) rfl
theorem tw4_18 : (.code yX8_down cX8_down 6 none : Cond) ∈ wsL_law := tb_in (tbt4 (List.mem_of_getElem? (i := 18) rfl)) rfl
theorem tw4_19 : (.methodLink RL 57 yX8_first : Cond) ∈ wsL_law := tb_in (tbt4 (List.mem_of_getElem? (i := 19) rfl)) rfl
theorem tw4_20 : (.instanceMethod yX8_first : Cond) ∈ wsL_law := tb_in (tbt4 (List.mem_of_getElem? (i := 20) rfl)) rfl
theorem tw4_21 : (.selects RX8 yX8_first yX8_first : Cond) ∈ wsL_law := tb_in (tbt4 (List.mem_of_getElem? (i := 21) rfl)) rfl
theorem tw4_22 : (.code yX8_first cX8_first 3 (some .int) : Cond) ∈ wsL_law := tb_in (tbt4 (List.mem_of_getElem? (i := 22) rfl)) rfl
theorem tw4_23 : (.methodLink RL 61 yX8_find : Cond) ∈ wsL_law := tb_in (tbt4 (List.mem_of_getElem? (i := 23) rfl)) rfl
theorem tw4_24 : (.instanceMethod yX8_find : Cond) ∈ wsL_law := tb_in (tbt4 (List.mem_of_getElem? (i := 24) rfl)) rfl
theorem tw4_25 : (.selects RX8 yX8_find yX8_find : Cond) ∈ wsL_law := tb_in (tbt4 (List.mem_of_getElem? (i := 25) rfl)) rfl
theorem tw4_26 : (.code yX8_find cX8_find 4 (some .int) : Cond) ∈ wsL_law := tb_in (tbt4 (List.mem_of_getElem? (i := 26) rfl)) rfl
theorem tw4_27 : (.methodLink RL 65 yX8_sort : Cond) ∈ wsL_law := tb_in (tbt4 (List.mem_of_getElem? (i := 27) rfl)) rfl
theorem tw4_28 : (.instanceMethod yX8_sort : Cond) ∈ wsL_law := tb_in (tbt4 (List.mem_of_getElem? (i := 28) rfl)) rfl
theorem tw4_29 : (.selects RX8 yX8_sort yX8_sort : Cond) ∈ wsL_law := tb_in (tbt4 (List.mem_of_getElem? (i := 29) rfl)) rfl
theorem tw4_30 : (.code yX8_sort cX8_sort 5 (some .int) : Cond) ∈ wsL_law := tb_in (tbt4 (List.mem_of_getElem? (i := 30) rfl)) rfl
theorem tw4_31 : (.methodLink RX8 188 yX8_merge : Cond) ∈ wsL_law := tb_in (tbt4 (List.mem_of_getElem? (i := 31) rfl)) rfl
theorem tw4_33 : (.instanceMethod yX8_merge : Cond) ∈ wsL_law := tb_in (tbt4 (List.mem_of_getElem? (i := 33) rfl)) rfl
theorem tw4_34 : (.code yX8_merge cX8_merge 9 none : Cond) ∈ wsL_law := tb_in (tbt4 (List.mem_of_getElem? (i := 34) rfl)) rfl
theorem tw4_35 : (.methodLink RL 69 yX8_filter : Cond) ∈ wsL_law := tb_in (tbt4 (List.mem_of_getElem? (i := 35) rfl)) rfl
theorem tw4_36 : (.instanceMethod yX8_filter : Cond) ∈ wsL_law := tb_in (tbt4 (List.mem_of_getElem? (i := 36) rfl)) rfl
theorem tw4_37 : (.selects RX8 yX8_filter yX8_filter : Cond) ∈ wsL_law := tb_in (tbt4 (List.mem_of_getElem? (i := 37) rfl)) rfl
theorem tw4_38 : (.code yX8_filter cX8_filter 7 (some .int) : Cond) ∈ wsL_law := tb_in (tbt4 (List.mem_of_getElem? (i := 38) rfl)) rfl
theorem tw4_39 : (.methodLink RX8 192 yX8_isKept : Cond) ∈ wsL_law := tb_in (tbt4 (List.mem_of_getElem? (i := 39) rfl)) rfl
theorem tw4_41 : (.instanceMethod yX8_isKept : Cond) ∈ wsL_law := tb_in (tbt4 (List.mem_of_getElem? (i := 41) rfl)) rfl
theorem tw4_42 : (.code yX8_isKept cX8_isKept 4 (some .boolean) : Cond) ∈ wsL_law := tb_in (tbt4 (List.mem_of_getElem? (i := 42) rfl)) rfl
theorem tw4_43 : (.methodLink RL 73 yX8_change : Cond) ∈ wsL_law := tb_in (tbt4 (List.mem_of_getElem? (i := 43) rfl)) rfl
theorem tw4_44 : (.instanceMethod yX8_change : Cond) ∈ wsL_law := tb_in (tbt4 (List.mem_of_getElem? (i := 44) rfl)) rfl
theorem tw4_45 : (.selects RX8 yX8_change yX8_change : Cond) ∈ wsL_law := tb_in (tbt4 (List.mem_of_getElem? (i := 45) rfl)) rfl
theorem tw4_46 : (.code yX8_change cX8_change 6 (some .int) : Cond) ∈ wsL_law := tb_in (tbt4 (List.mem_of_getElem? (i := 46) rfl)) rfl
theorem tw4_47 : (.methodLink RL 77 yX8_all : Cond) ∈ wsL_law := tb_in (tbt4 (List.mem_of_getElem? (i := 47) rfl)) rfl
theorem tw4_48 : (.instanceMethod yX8_all : Cond) ∈ wsL_law := tb_in (tbt4 (List.mem_of_getElem? (i := 48) rfl)) rfl
theorem tw4_49 : (.selects RX8 yX8_all yX8_all : Cond) ∈ wsL_law := tb_in (tbt4 (List.mem_of_getElem? (i := 49) rfl)) rfl
theorem tw4_50 : (.code yX8_all cX8_all 6 (some .int) : Cond) ∈ wsL_law := tb_in (tbt4 (List.mem_of_getElem? (i := 50) rfl)) rfl
theorem tw4_51 : (.methodLink RL 81 yX8_at : Cond) ∈ wsL_law := tb_in (tbt4 (List.mem_of_getElem? (i := 51) rfl)) rfl
theorem tw4_52 : (.instanceMethod yX8_at : Cond) ∈ wsL_law := tb_in (tbt4 (List.mem_of_getElem? (i := 52) rfl)) rfl
theorem tw4_53 : (.selects RX8 yX8_at yX8_at : Cond) ∈ wsL_law := tb_in (tbt4 (List.mem_of_getElem? (i := 53) rfl)) rfl
theorem tw4_54 : (.code yX8_at cX8_at 3 (some .int) : Cond) ∈ wsL_law := tb_in (tbt4 (List.mem_of_getElem? (i := 54) rfl)) rfl
theorem tw4_55 : (.methodLink RL 85 yX8_whole : Cond) ∈ wsL_law := tb_in (tbt4 (List.mem_of_getElem? (i := 55) rfl)) rfl
theorem tw4_56 : (.instanceMethod yX8_whole : Cond) ∈ wsL_law := tb_in (tbt4 (List.mem_of_getElem? (i := 56) rfl)) rfl
theorem tw4_57 : (.selects RX8 yX8_whole yX8_whole : Cond) ∈ wsL_law := tb_in (tbt4 (List.mem_of_getElem? (i := 57) rfl)) rfl
theorem tw4_58 : (.code yX8_whole cX8_whole 6 (some .int) : Cond) ∈ wsL_law := tb_in (tbt4 (List.mem_of_getElem? (i := 58) rfl)) rfl
theorem tw4_59 : (.constantLong RX8 195 (3) : Cond) ∈ wsL_law := tb_in (tbt4 (List.mem_of_getElem? (i := 59) rfl)) rfl
theorem tw4_60 : (.methodLink RL 89 yX8_same : Cond) ∈ wsL_law := tb_in (tbt4 (List.mem_of_getElem? (i := 60) rfl)) rfl
theorem tw4_61 : (.instanceMethod yX8_same : Cond) ∈ wsL_law := tb_in (tbt4 (List.mem_of_getElem? (i := 61) rfl)) rfl
theorem tw4_62 : (.selects RX8 yX8_same yX8_same : Cond) ∈ wsL_law := tb_in (tbt4 (List.mem_of_getElem? (i := 62) rfl)) rfl
theorem tw4_63 : (.code yX8_same cX8_same 5 (some .int) : Cond) ∈ wsL_law := tb_in (tbt4 (List.mem_of_getElem? (i := 63) rfl)) rfl
theorem tw4_64 : (.methodLink RL 93 yX8_thrown : Cond) ∈ wsL_law := tb_in (tbt4 (List.mem_of_getElem? (i := 64) rfl)) rfl
theorem tw4_65 : (.instanceMethod yX8_thrown : Cond) ∈ wsL_law := tb_in (tbt4 (List.mem_of_getElem? (i := 65) rfl)) rfl
theorem tw4_66 : (.selects RX8 yX8_thrown yX8_thrown : Cond) ∈ wsL_law := tb_in (tbt4 (List.mem_of_getElem? (i := 66) rfl)) rfl
theorem tw4_67 : (.code yX8_thrown cX8_thrown 2 (some .int) : Cond) ∈ wsL_law := tb_in (tbt4 (List.mem_of_getElem? (i := 67) rfl)) rfl
theorem tw4_68 : (.methodLink RL 97 yX8_count : Cond) ∈ wsL_law := tb_in (tbt4 (List.mem_of_getElem? (i := 68) rfl)) rfl
theorem tw4_69 : (.instanceMethod yX8_count : Cond) ∈ wsL_law := tb_in (tbt4 (List.mem_of_getElem? (i := 69) rfl)) rfl
theorem tw4_70 : (.selects RX8 yX8_count yX8_count : Cond) ∈ wsL_law := tb_in (tbt4 (List.mem_of_getElem? (i := 70) rfl)) rfl
theorem tw4_71 : (.code yX8_count cX8_count 2 (some .int) : Cond) ∈ wsL_law := tb_in (tbt4 (List.mem_of_getElem? (i := 71) rfl)) rfl
theorem tw_obj : (.code objectInit ⟨#[0xb1]⟩ 1 none : Cond) ∈ wsL_law := tb_in (tbt1 (List.mem_of_getElem? (i := 19) rfl)) rfl
theorem tp1_0 : (.selects RX7 yX7_hasTray yX7_hasTray : Cond) ∈ wsL_law := tb_in (List.mem_append_left _ (List.mem_map.mpr ⟨(yX7_hasTray, 5), (List.mem_append_left _ (List.mem_of_getElem? (i := 0) rfl)), rfl⟩)) rfl
theorem tp1_1 : (.selects RX7 yX7_placeOnDraft yX7_placeOnDraft : Cond) ∈ wsL_law := tb_in (List.mem_append_left _ (List.mem_map.mpr ⟨(yX7_placeOnDraft, 5), (List.mem_append_left _ (List.mem_of_getElem? (i := 1) rfl)), rfl⟩)) rfl
theorem tp1_2 : (.selects RX1 yX1_beginCall yX1_beginCall : Cond) ∈ wsL_law := tb_in (List.mem_append_left _ (List.mem_map.mpr ⟨(yX1_beginCall, 5), (List.mem_append_left _ (List.mem_of_getElem? (i := 2) rfl)), rfl⟩)) rfl
theorem tp1_3 : (.selects RX7 yX7_keepDraft yX7_keepDraft : Cond) ∈ wsL_law := tb_in (List.mem_append_left _ (List.mem_map.mpr ⟨(yX7_keepDraft, 5), (List.mem_append_left _ (List.mem_of_getElem? (i := 3) rfl)), rfl⟩)) rfl
theorem tp1_4 : (.selects RX7 yX7_removeOnDraft yX7_removeOnDraft : Cond) ∈ wsL_law := tb_in (List.mem_append_left _ (List.mem_map.mpr ⟨(yX7_removeOnDraft, 5), (List.mem_append_left _ (List.mem_of_getElem? (i := 4) rfl)), rfl⟩)) rfl
theorem tp1_5 : (.selects RX7 yX7_sortDraftAnew yX7_sortDraftAnew : Cond) ∈ wsL_law := tb_in (List.mem_append_left _ (List.mem_map.mpr ⟨(yX7_sortDraftAnew, 5), (List.mem_append_left _ (List.mem_of_getElem? (i := 5) rfl)), rfl⟩)) rfl
theorem tp1_6 : (.selects RX7 yX7_judgeOntoDraft yX7_judgeOntoDraft : Cond) ∈ wsL_law := tb_in (List.mem_append_left _ (List.mem_map.mpr ⟨(yX7_judgeOntoDraft, 5), (List.mem_append_left _ (List.mem_of_getElem? (i := 6) rfl)), rfl⟩)) rfl
theorem tp1_7 : (.selects RX1 yX1_numberOf yX1_numberOf : Cond) ∈ wsL_law := tb_in (List.mem_append_left _ (List.mem_map.mpr ⟨(yX1_numberOf, 5), (List.mem_append_left _ (List.mem_of_getElem? (i := 7) rfl)), rfl⟩)) rfl
theorem tp1_8 : (.selects RX7 yX7_placeAllOnDraft yX7_placeAllOnDraft : Cond) ∈ wsL_law := tb_in (List.mem_append_left _ (List.mem_map.mpr ⟨(yX7_placeAllOnDraft, 5), (List.mem_append_left _ (List.mem_of_getElem? (i := 8) rfl)), rfl⟩)) rfl
theorem tp1_9 : (.selects RX7 yX7_changeCards yX7_changeCards : Cond) ∈ wsL_law := tb_in (List.mem_append_left _ (List.mem_map.mpr ⟨(yX7_changeCards, 5), (List.mem_append_left _ (List.mem_of_getElem? (i := 9) rfl)), rfl⟩)) rfl
theorem tp1_10 : (.selects RX7 yX7_mergeIntoDraft yX7_mergeIntoDraft : Cond) ∈ wsL_law := tb_in (List.mem_append_left _ (List.mem_map.mpr ⟨(yX7_mergeIntoDraft, 5), (List.mem_append_left _ (List.mem_of_getElem? (i := 10) rfl)), rfl⟩)) rfl
theorem tp1_11 : (.selects RX7 yX7_isWhole yX7_isWhole : Cond) ∈ wsL_law := tb_in (List.mem_append_left _ (List.mem_map.mpr ⟨(yX7_isWhole, 5), (List.mem_append_left _ (List.mem_of_getElem? (i := 11) rfl)), rfl⟩)) rfl
theorem tp1_12 : (.selects RX8 yX8_isCard yX8_isCard : Cond) ∈ wsL_law := tb_in (List.mem_append_left _ (List.mem_map.mpr ⟨(yX8_isCard, 29), (List.mem_append_left _ (List.mem_of_getElem? (i := 12) rfl)), rfl⟩)) rfl
theorem tp1_13 : (.selects RX8 yX8_isHook yX8_isHook : Cond) ∈ wsL_law := tb_in (List.mem_append_left _ (List.mem_map.mpr ⟨(yX8_isHook, 29), (List.mem_append_left _ (List.mem_of_getElem? (i := 13) rfl)), rfl⟩)) rfl
theorem tp1_14 : (.selects RX8 yX8_planOf yX8_planOf : Cond) ∈ wsL_law := tb_in (List.mem_append_left _ (List.mem_map.mpr ⟨(yX8_planOf, 29), (List.mem_append_left _ (List.mem_of_getElem? (i := 14) rfl)), rfl⟩)) rfl
theorem tp1_15 : (.selects RX8 yX8_dropPlan yX8_dropPlan : Cond) ∈ wsL_law := tb_in (List.mem_append_left _ (List.mem_map.mpr ⟨(yX8_dropPlan, 29), (List.mem_append_left _ (List.mem_of_getElem? (i := 15) rfl)), rfl⟩)) rfl
theorem tp2_0 : (.selects RX8 yX8_compares yX8_compares : Cond) ∈ wsL_law := tb_in (List.mem_append_left _ (List.mem_map.mpr ⟨(yX8_compares, 29), (List.mem_append_right _ (List.mem_append_left _ (List.mem_of_getElem? (i := 0) rfl))), rfl⟩)) rfl
theorem tp2_1 : (.selects RX8 yX8_isTray yX8_isTray : Cond) ∈ wsL_law := tb_in (List.mem_append_left _ (List.mem_map.mpr ⟨(yX8_isTray, 29), (List.mem_append_right _ (List.mem_append_left _ (List.mem_of_getElem? (i := 1) rfl))), rfl⟩)) rfl
theorem tp2_2 : (.selects RX8 yX8_beginAct yX8_beginAct : Cond) ∈ wsL_law := tb_in (List.mem_append_left _ (List.mem_map.mpr ⟨(yX8_beginAct, 29), (List.mem_append_right _ (List.mem_append_left _ (List.mem_of_getElem? (i := 2) rfl))), rfl⟩)) rfl
theorem tp2_3 : (.selects RX8 yX8_load yX8_load : Cond) ∈ wsL_law := tb_in (List.mem_append_left _ (List.mem_map.mpr ⟨(yX8_load, 29), (List.mem_append_right _ (List.mem_append_left _ (List.mem_of_getElem? (i := 3) rfl))), rfl⟩)) rfl
theorem tp2_4 : (.selects RX8 yX8_comes yX8_comes : Cond) ∈ wsL_law := tb_in (List.mem_append_left _ (List.mem_map.mpr ⟨(yX8_comes, 29), (List.mem_append_right _ (List.mem_append_left _ (List.mem_of_getElem? (i := 4) rfl))), rfl⟩)) rfl
theorem tp2_5 : (.selects RX8 yX8_halving yX8_halving : Cond) ∈ wsL_law := tb_in (List.mem_append_left _ (List.mem_map.mpr ⟨(yX8_halving, 29), (List.mem_append_right _ (List.mem_append_left _ (List.mem_of_getElem? (i := 5) rfl))), rfl⟩)) rfl
theorem tp2_6 : (.selects RX8 yX8_isAhead yX8_isAhead : Cond) ∈ wsL_law := tb_in (List.mem_append_left _ (List.mem_map.mpr ⟨(yX8_isAhead, 29), (List.mem_append_right _ (List.mem_append_left _ (List.mem_of_getElem? (i := 6) rfl))), rfl⟩)) rfl
theorem tp2_7 : (.selects RX8 yX8_begins yX8_begins : Cond) ∈ wsL_law := tb_in (List.mem_append_left _ (List.mem_map.mpr ⟨(yX8_begins, 29), (List.mem_append_right _ (List.mem_append_left _ (List.mem_of_getElem? (i := 7) rfl))), rfl⟩)) rfl
theorem tp2_8 : (.selects RX8 yX8_truth yX8_truth : Cond) ∈ wsL_law := tb_in (List.mem_append_left _ (List.mem_map.mpr ⟨(yX8_truth, 29), (List.mem_append_right _ (List.mem_append_left _ (List.mem_of_getElem? (i := 8) rfl))), rfl⟩)) rfl
theorem tp2_9 : (.selects RX8 yX8_insert yX8_insert : Cond) ∈ wsL_law := tb_in (List.mem_append_left _ (List.mem_map.mpr ⟨(yX8_insert, 29), (List.mem_append_right _ (List.mem_append_left _ (List.mem_of_getElem? (i := 9) rfl))), rfl⟩)) rfl
theorem tp2_10 : (.selects RX8 yX8_up yX8_up : Cond) ∈ wsL_law := tb_in (List.mem_append_left _ (List.mem_map.mpr ⟨(yX8_up, 29), (List.mem_append_right _ (List.mem_append_left _ (List.mem_of_getElem? (i := 10) rfl))), rfl⟩)) rfl
theorem tp2_11 : (.selects RX8 yX8_turn yX8_turn : Cond) ∈ wsL_law := tb_in (List.mem_append_left _ (List.mem_map.mpr ⟨(yX8_turn, 29), (List.mem_append_right _ (List.mem_append_left _ (List.mem_of_getElem? (i := 11) rfl))), rfl⟩)) rfl
theorem tp2_12 : (.selects RX8 yX8_ends yX8_ends : Cond) ∈ wsL_law := tb_in (List.mem_append_left _ (List.mem_map.mpr ⟨(yX8_ends, 29), (List.mem_append_right _ (List.mem_append_left _ (List.mem_of_getElem? (i := 12) rfl))), rfl⟩)) rfl
theorem tp2_13 : (.selects RX8 yX8_give yX8_give : Cond) ∈ wsL_law := tb_in (List.mem_append_left _ (List.mem_map.mpr ⟨(yX8_give, 29), (List.mem_append_right _ (List.mem_append_left _ (List.mem_of_getElem? (i := 13) rfl))), rfl⟩)) rfl
theorem tp2_14 : (.selects RX8 yX8_goes yX8_goes : Cond) ∈ wsL_law := tb_in (List.mem_append_left _ (List.mem_map.mpr ⟨(yX8_goes, 29), (List.mem_append_right _ (List.mem_append_left _ (List.mem_of_getElem? (i := 14) rfl))), rfl⟩)) rfl
theorem tp2_15 : (.selects RX8 yX8_remove yX8_remove : Cond) ∈ wsL_law := tb_in (List.mem_append_left _ (List.mem_map.mpr ⟨(yX8_remove, 29), (List.mem_append_right _ (List.mem_append_left _ (List.mem_of_getElem? (i := 15) rfl))), rfl⟩)) rfl
theorem tp3_0 : (.selects RX8 yX8_down yX8_down : Cond) ∈ wsL_law := tb_in (List.mem_append_left _ (List.mem_map.mpr ⟨(yX8_down, 29), (List.mem_append_right _ (List.mem_append_right _ (List.mem_of_getElem? (i := 0) rfl))), rfl⟩)) rfl
theorem tp3_1 : (.selects RX8 yX8_merge yX8_merge : Cond) ∈ wsL_law := tb_in (List.mem_append_left _ (List.mem_map.mpr ⟨(yX8_merge, 29), (List.mem_append_right _ (List.mem_append_right _ (List.mem_of_getElem? (i := 1) rfl))), rfl⟩)) rfl
theorem tp3_2 : (.selects RX8 yX8_isKept yX8_isKept : Cond) ∈ wsL_law := tb_in (List.mem_append_left _ (List.mem_map.mpr ⟨(yX8_isKept, 29), (List.mem_append_right _ (List.mem_append_right _ (List.mem_of_getElem? (i := 2) rfl))), rfl⟩)) rfl
theorem inlX0 : ∀ w ∈ wsX00, w ∈ wsL_law := by
  intro w hw
  obtain ⟨k, hk, rfl⟩ := List.mem_map.mp hw
  have hk := List.mem_range.mp hk
  match k, hk with
  | 0, _ => exact tw1_36
  | 1, _ => exact tw1_38
  | 2, _ => exact tw1_40
  | k + 3, hk => exact absurd hk (by omega)
theorem inlX1 : ∀ w ∈ wsX10, w ∈ wsL_law := by
  intro w hw
  obtain ⟨k, hk, rfl⟩ := List.mem_map.mp hw
  have hk := List.mem_range.mp hk
  match k, hk with
  | 0, _ => exact tw1_132
  | 1, _ => exact tw1_134
  | 2, _ => exact tw1_136
  | 3, _ => exact tw1_138
  | 4, _ => exact tw1_140
  | k + 5, hk => exact absurd hk (by omega)
theorem inlX2 : ∀ w ∈ wsX20, w ∈ wsL_law := by
  intro w hw
  obtain ⟨k, hk, rfl⟩ := List.mem_map.mp hw
  have hk := List.mem_range.mp hk
  match k, hk with
  | 0, _ => exact tw1_112
  | 1, _ => exact tw1_114
  | 2, _ => exact tw1_116
  | 3, _ => exact tw1_118
  | 4, _ => exact tw1_120
  | k + 5, hk => exact absurd hk (by omega)
theorem inlX3 : ∀ w ∈ wsX30, w ∈ wsL_law := by
  intro w hw
  obtain ⟨k, hk, rfl⟩ := List.mem_map.mp hw
  have hk := List.mem_range.mp hk
  match k, hk with
  | 0, _ => exact tw1_82
  | 1, _ => exact tw1_84
  | 2, _ => exact tw1_86
  | 3, _ => exact tw1_88
  | 4, _ => exact tw1_90
  | 5, _ => exact tw1_92
  | k + 6, hk => exact absurd hk (by omega)
theorem inlX4 : ∀ w ∈ wsX40, w ∈ wsL_law := by
  intro w hw
  obtain ⟨k, hk, rfl⟩ := List.mem_map.mp hw
  have hk := List.mem_range.mp hk
  match k, hk with
  | 0, _ => exact tw1_55
  | 1, _ => exact tw1_57
  | 2, _ => exact tw1_59
  | 3, _ => exact tw1_61
  | k + 4, hk => exact absurd hk (by omega)
theorem inlX5 : ∀ w ∈ wsX50, w ∈ wsL_law := by
  intro w hw
  obtain ⟨k, hk, rfl⟩ := List.mem_map.mp hw
  have hk := List.mem_range.mp hk
  match k, hk with
  | 0, _ => exact tw1_159
  | 1, _ => exact tw1_161
  | k + 2, hk => exact absurd hk (by omega)
theorem inlX6 : ∀ w ∈ wsX60, w ∈ wsL_law := by
  intro w hw
  obtain ⟨k, hk, rfl⟩ := List.mem_map.mp hw
  have hk := List.mem_range.mp hk
  match k, hk with
  | 0, _ => exact tw1_170
  | 1, _ => exact tw1_172
  | 2, _ => exact tw1_174
  | k + 3, hk => exact absurd hk (by omega)
theorem inlX7 : ∀ w ∈ wsX70, w ∈ wsL_law := by
  intro w hw
  obtain ⟨k, hk, rfl⟩ := List.mem_map.mp hw
  have hk := List.mem_range.mp hk
  match k, hk with
  | 0, _ => exact tw1_184
  | 1, _ => exact tw1_186
  | 2, _ => exact tw1_188
  | 3, _ => exact tw1_190
  | 4, _ => exact tw1_192
  | k + 5, hk => exact absurd hk (by omega)
theorem inlX8 : ∀ w ∈ wsX80, w ∈ wsL_law := by
  intro w hw
  obtain ⟨k, hk, rfl⟩ := List.mem_map.mp hw
  have hk := List.mem_range.mp hk
  match k, hk with
  | 0, _ => exact tw3_69
  | 1, _ => exact tw3_71
  | 2, _ => exact tw3_73
  | 3, _ => exact tw3_75
  | 4, _ => exact tw3_77
  | 5, _ => exact tw3_79
  | 6, _ => exact tw3_81
  | 7, _ => exact tw3_83
  | 8, _ => exact tw3_85
  | 9, _ => exact tw3_87
  | 10, _ => exact tw3_89
  | 11, _ => exact tw3_91
  | 12, _ => exact tw3_93
  | 13, _ => exact tw3_95
  | 14, _ => exact tw3_97
  | 15, _ => exact tw3_99
  | 16, _ => exact tw3_101
  | 17, _ => exact tw3_103
  | 18, _ => exact tw3_105
  | 19, _ => exact tw3_107
  | 20, _ => exact tw3_109
  | 21, _ => exact tw3_111
  | 22, _ => exact tw3_113
  | 23, _ => exact tw3_115
  | 24, _ => exact tw3_117
  | 25, _ => exact tw3_119
  | 26, _ => exact tw3_121
  | 27, _ => exact tw3_123
  | 28, _ => exact tw3_125
  | k + 29, hk => exact absurd hk (by omega)
/-- what the tables tell of nest mates -/
def tb_nest : List Cond := [
  .methodLinkNest "HookTrays$Desk" 11 ⟨"HookTrays$Deck", "<init>", "()V"⟩ "HookTrays",
  .fieldLinkNest "HookTrays" 165 "HookTrays$Deck" "size" "I" "HookTrays",
  .methodLinkNest "HookTrays$Desk" 20 ⟨"HookTrays$Plans", "<init>", "()V"⟩ "HookTrays",
  .fieldLinkNest "HookTrays" 199 "HookTrays$Plans" "size" "I" "HookTrays",
  .methodLinkNest "HookTrays$Desk" 27 ⟨"HookTrays$LatestAct", "<init>", "()V"⟩ "HookTrays",
  .fieldLinkNest "HookTrays" 184 "HookTrays$LatestAct" "failure" "I" "HookTrays",
  .fieldLinkNest "HookTrays" 189 "HookTrays$LatestAct" "hook" "I" "HookTrays",
  .fieldLinkNest "HookTrays" 190 "HookTrays$LatestAct" "call" "I" "HookTrays",
  .fieldLinkNest "HookTrays" 193 "HookTrays$LatestAct" "handled" "I" "HookTrays",
  .fieldLinkNest "HookTrays" 200 "HookTrays$LatestAct" "actsEver" "I" "HookTrays",
  .fieldLinkNest "HookTrays" 203 "HookTrays$LatestAct" "actsThrownAt" "I" "HookTrays",
  .methodLinkNest "HookTrays$Desk" 42 ⟨"HookTrays$Hook", "<init>", "()V"⟩ "HookTrays",
  .fieldLinkNest "HookTrays$Desk" 51 "HookTrays$Hook" "kind" "I" "HookTrays",
  .fieldLinkNest "HookTrays$Desk" 95 "HookTrays$Hook" "a" "I" "HookTrays",
  .fieldLinkNest "HookTrays$Desk" 58 "HookTrays$Hook" "calls" "I" "HookTrays",
  .fieldLinkNest "HookTrays$Desk" 61 "HookTrays$Hook" "latestCalls" "I" "HookTrays",
  .fieldLinkNest "HookTrays$Desk" 64 "HookTrays$Hook" "misuses" "I" "HookTrays",
  .fieldLinkNest "HookTrays" 41 "HookTrays$Desk" "deck" "LHookTrays$Deck;" "HookTrays",
  .fieldLinkNest "HookTrays" 70 "HookTrays$Desk" "plans" "LHookTrays$Plans;" "HookTrays",
  .fieldLinkNest "HookTrays" 180 "HookTrays$Desk" "latest" "LHookTrays$LatestAct;" "HookTrays",
  .fieldLinkNest "HookTrays" 196 "HookTrays$Desk" "hookCount" "I" "HookTrays",
  .methodLinkNest "HookTrays" 26 ⟨"HookTrays$Tray", "<init>", "()V"⟩ "HookTrays",
  .methodLinkNest "HookTrays$Tray" 11 ⟨"HookTrays$Row", "<init>", "()V"⟩ "HookTrays",
  .fieldLinkNest "HookTrays" 115 "HookTrays$Row" "size" "I" "HookTrays",
  .fieldLinkNest "HookTrays" 112 "HookTrays$Tray" "row" "LHookTrays$Row;" "HookTrays",
  .fieldLinkNest "HookTrays" 142 "HookTrays$Tray" "kind" "I" "HookTrays",
  .fieldLinkNest "HookTrays" 145 "HookTrays$Tray" "hook" "I" "HookTrays",
  .methodLinkNest "HookTrays" 29 ⟨"HookTrays$Row", "<init>", "()V"⟩ "HookTrays"]
theorem tb_nest_in : ∀ w ∈ tb_nest, w ∈ lw_tbl := by
  intro w hw
  simp only [tb_nest, List.mem_cons, List.not_mem_nil, or_false] at hw
  rcases hw with rfl | rfl | rfl | rfl | rfl | rfl | rfl | rfl | rfl | rfl | rfl | rfl | rfl | rfl | rfl | rfl | rfl | rfl | rfl | rfl | rfl | rfl | rfl | rfl | rfl | rfl | rfl | rfl
  · exact tbt1 (List.mem_of_getElem? (i := 28) rfl)
  · exact tbt1 (List.mem_of_getElem? (i := 35) rfl)
  · exact tbt1 (List.mem_of_getElem? (i := 46) rfl)
  · exact tbt1 (List.mem_of_getElem? (i := 54) rfl)
  · exact tbt1 (List.mem_of_getElem? (i := 66) rfl)
  · exact tbt1 (List.mem_of_getElem? (i := 71) rfl)
  · exact tbt1 (List.mem_of_getElem? (i := 73) rfl)
  · exact tbt1 (List.mem_of_getElem? (i := 75) rfl)
  · exact tbt1 (List.mem_of_getElem? (i := 77) rfl)
  · exact tbt1 (List.mem_of_getElem? (i := 79) rfl)
  · exact tbt1 (List.mem_of_getElem? (i := 81) rfl)
  · exact tbt1 (List.mem_of_getElem? (i := 98) rfl)
  · exact tbt1 (List.mem_of_getElem? (i := 103) rfl)
  · exact tbt1 (List.mem_of_getElem? (i := 105) rfl)
  · exact tbt1 (List.mem_of_getElem? (i := 107) rfl)
  · exact tbt1 (List.mem_of_getElem? (i := 109) rfl)
  · exact tbt1 (List.mem_of_getElem? (i := 111) rfl)
  · exact tbt1 (List.mem_of_getElem? (i := 124) rfl)
  · exact tbt1 (List.mem_of_getElem? (i := 126) rfl)
  · exact tbt1 (List.mem_of_getElem? (i := 128) rfl)
  · exact tbt1 (List.mem_of_getElem? (i := 131) rfl)
  · exact tbt1 (List.mem_of_getElem? (i := 146) rfl)
  · exact tbt1 (List.mem_of_getElem? (i := 152) rfl)
  · exact tbt1 (List.mem_of_getElem? (i := 158) rfl)
  · exact tbt1 (List.mem_of_getElem? (i := 165) rfl)
  · exact tbt1 (List.mem_of_getElem? (i := 167) rfl)
  · exact tbt1 (List.mem_of_getElem? (i := 169) rfl)
  · exact tbt1 (List.mem_of_getElem? (i := 178) rfl)
def tb_isNest : Cond → Bool
  | .fieldLinkNest .. => true
  | .methodLinkNest .. => true
  | _ => false
theorem tb_nest_ok : tb_nest.all tb_isNest = true := by decide +kernel
theorem tn_0 : (.methodLinkNest "HookTrays$Desk" 11 ⟨"HookTrays$Deck", "<init>", "()V"⟩ "HookTrays" : Cond) ∈ tb_nest := List.mem_of_getElem? (i := 0) rfl
theorem tn_1 : (.fieldLinkNest "HookTrays" 165 "HookTrays$Deck" "size" "I" "HookTrays" : Cond) ∈ tb_nest := List.mem_of_getElem? (i := 1) rfl
theorem tn_2 : (.methodLinkNest "HookTrays$Desk" 20 ⟨"HookTrays$Plans", "<init>", "()V"⟩ "HookTrays" : Cond) ∈ tb_nest := List.mem_of_getElem? (i := 2) rfl
theorem tn_3 : (.fieldLinkNest "HookTrays" 199 "HookTrays$Plans" "size" "I" "HookTrays" : Cond) ∈ tb_nest := List.mem_of_getElem? (i := 3) rfl
theorem tn_4 : (.methodLinkNest "HookTrays$Desk" 27 ⟨"HookTrays$LatestAct", "<init>", "()V"⟩ "HookTrays" : Cond) ∈ tb_nest := List.mem_of_getElem? (i := 4) rfl
theorem tn_5 : (.fieldLinkNest "HookTrays" 184 "HookTrays$LatestAct" "failure" "I" "HookTrays" : Cond) ∈ tb_nest := List.mem_of_getElem? (i := 5) rfl
theorem tn_6 : (.fieldLinkNest "HookTrays" 189 "HookTrays$LatestAct" "hook" "I" "HookTrays" : Cond) ∈ tb_nest := List.mem_of_getElem? (i := 6) rfl
theorem tn_7 : (.fieldLinkNest "HookTrays" 190 "HookTrays$LatestAct" "call" "I" "HookTrays" : Cond) ∈ tb_nest := List.mem_of_getElem? (i := 7) rfl
theorem tn_8 : (.fieldLinkNest "HookTrays" 193 "HookTrays$LatestAct" "handled" "I" "HookTrays" : Cond) ∈ tb_nest := List.mem_of_getElem? (i := 8) rfl
theorem tn_9 : (.fieldLinkNest "HookTrays" 200 "HookTrays$LatestAct" "actsEver" "I" "HookTrays" : Cond) ∈ tb_nest := List.mem_of_getElem? (i := 9) rfl
theorem tn_10 : (.fieldLinkNest "HookTrays" 203 "HookTrays$LatestAct" "actsThrownAt" "I" "HookTrays" : Cond) ∈ tb_nest := List.mem_of_getElem? (i := 10) rfl
theorem tn_11 : (.methodLinkNest "HookTrays$Desk" 42 ⟨"HookTrays$Hook", "<init>", "()V"⟩ "HookTrays" : Cond) ∈ tb_nest := List.mem_of_getElem? (i := 11) rfl
theorem tn_12 : (.fieldLinkNest "HookTrays$Desk" 51 "HookTrays$Hook" "kind" "I" "HookTrays" : Cond) ∈ tb_nest := List.mem_of_getElem? (i := 12) rfl
theorem tn_13 : (.fieldLinkNest "HookTrays$Desk" 95 "HookTrays$Hook" "a" "I" "HookTrays" : Cond) ∈ tb_nest := List.mem_of_getElem? (i := 13) rfl
theorem tn_14 : (.fieldLinkNest "HookTrays$Desk" 58 "HookTrays$Hook" "calls" "I" "HookTrays" : Cond) ∈ tb_nest := List.mem_of_getElem? (i := 14) rfl
theorem tn_15 : (.fieldLinkNest "HookTrays$Desk" 61 "HookTrays$Hook" "latestCalls" "I" "HookTrays" : Cond) ∈ tb_nest := List.mem_of_getElem? (i := 15) rfl
theorem tn_16 : (.fieldLinkNest "HookTrays$Desk" 64 "HookTrays$Hook" "misuses" "I" "HookTrays" : Cond) ∈ tb_nest := List.mem_of_getElem? (i := 16) rfl
theorem tn_17 : (.fieldLinkNest "HookTrays" 41 "HookTrays$Desk" "deck" "LHookTrays$Deck;" "HookTrays" : Cond) ∈ tb_nest := List.mem_of_getElem? (i := 17) rfl
theorem tn_18 : (.fieldLinkNest "HookTrays" 70 "HookTrays$Desk" "plans" "LHookTrays$Plans;" "HookTrays" : Cond) ∈ tb_nest := List.mem_of_getElem? (i := 18) rfl
theorem tn_19 : (.fieldLinkNest "HookTrays" 180 "HookTrays$Desk" "latest" "LHookTrays$LatestAct;" "HookTrays" : Cond) ∈ tb_nest := List.mem_of_getElem? (i := 19) rfl
theorem tn_20 : (.fieldLinkNest "HookTrays" 196 "HookTrays$Desk" "hookCount" "I" "HookTrays" : Cond) ∈ tb_nest := List.mem_of_getElem? (i := 20) rfl
theorem tn_21 : (.methodLinkNest "HookTrays" 26 ⟨"HookTrays$Tray", "<init>", "()V"⟩ "HookTrays" : Cond) ∈ tb_nest := List.mem_of_getElem? (i := 21) rfl
theorem tn_22 : (.methodLinkNest "HookTrays$Tray" 11 ⟨"HookTrays$Row", "<init>", "()V"⟩ "HookTrays" : Cond) ∈ tb_nest := List.mem_of_getElem? (i := 22) rfl
theorem tn_23 : (.fieldLinkNest "HookTrays" 115 "HookTrays$Row" "size" "I" "HookTrays" : Cond) ∈ tb_nest := List.mem_of_getElem? (i := 23) rfl
theorem tn_24 : (.fieldLinkNest "HookTrays" 112 "HookTrays$Tray" "row" "LHookTrays$Row;" "HookTrays" : Cond) ∈ tb_nest := List.mem_of_getElem? (i := 24) rfl
theorem tn_25 : (.fieldLinkNest "HookTrays" 142 "HookTrays$Tray" "kind" "I" "HookTrays" : Cond) ∈ tb_nest := List.mem_of_getElem? (i := 25) rfl
theorem tn_26 : (.fieldLinkNest "HookTrays" 145 "HookTrays$Tray" "hook" "I" "HookTrays" : Cond) ∈ tb_nest := List.mem_of_getElem? (i := 26) rfl
theorem tn_27 : (.methodLinkNest "HookTrays" 29 ⟨"HookTrays$Row", "<init>", "()V"⟩ "HookTrays" : Cond) ∈ tb_nest := List.mem_of_getElem? (i := 27) rfl
