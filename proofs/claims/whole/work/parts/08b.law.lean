/-! The law's body. -/
def SC (X : Cx) (b L : Nat) (xs : Nat → Int32) : Prop := match X with
  | (_, _, _, s, _, _, _, _, _, A, _, _, _) => va_X b L xs s s.heap ∧ b < s.heap.size ∧ ¬ A b
theorem r_sld {G : Gx} {X : Cx} {nL : Nat} {μ : Mu} {pc : Nat} {lv : List (Nat × Value)} {st : List Value} {cc : ByteArray} {own : String} {rm : Room} {ret : Option FieldType} (h : HX G X cc nL own rm ret) {b L : Nat} {xs : Nat → Int32} (hs : SC X b L xs) {i : Int32} (hin : vp_in i L) (d : decode cc pc = .ok (.iaload, 1)) (k : V G X nL μ (pc + 1) lv (.int (xs i.toNatClampNeg) :: st)) : V G X nL μ pc lv (.int i :: .ref b :: st) := by
  obtain ⟨p, e, R, s, m, args, below, meth, c, A, Q, cells, slots⟩ := X
  obtain ⟨hx, hb, hml, hown, hts, hR, hr, hlk, hKK, hD⟩ := h
  obtain ⟨h1, h2, h3⟩ := hs
  exact fun H locs ls hP hS hl => va_sld hx hb h1 h2 h3 hS hin d (k H locs ls hP hS hl)
theorem r_slen {G : Gx} {X : Cx} {nL : Nat} {μ : Mu} {pc : Nat} {lv : List (Nat × Value)} {st : List Value} {cc : ByteArray} {own : String} {rm : Room} {ret : Option FieldType} (h : HX G X cc nL own rm ret) {b L : Nat} {xs : Nat → Int32} (hs : SC X b L xs) (d : decode cc pc = .ok (.arraylength, 1)) (k : V G X nL μ (pc + 1) lv (.int (Int32.ofNat L) :: st)) : V G X nL μ pc lv (.ref b :: st) := by
  obtain ⟨p, e, R, s, m, args, below, meth, c, A, Q, cells, slots⟩ := X
  obtain ⟨hx, hb, hml, hown, hts, hR, hr, hlk, hKK, hD⟩ := h
  obtain ⟨h1, h2, h3⟩ := hs
  exact fun H locs ls hP hS hl => va_slen hx hb h1 h2 h3 hS d (k H locs ls hP hS hl)
theorem P_comm {D : va_G} {w1 w2 : va_W} {H : Heap} (h : va_P D vwCl (w1 ++ w2) H) : va_P D vwCl (w2 ++ w1) H := by
  refine va_P.app (fun k q hq => ?_) (fun k q hq => ?_)
  · exact h (w1.length + k) q (by rw [List.getElem?_append_right (by omega), show w1.length + k - w1.length = k by omega]; exact hq)
  · exact h k q (by rw [List.getElem?_append_left (List.getElem?_eq_some_iff.mp hq).1]; exact hq)
/-- the class's world, the reference's beside it -/
abbrev gA (l : Launch) (D : va_G) (cI cH cT : ClassId) (aC aR : Nat → Nat → Nat) (ν : Mu) : Gx := gC l D cI cH cT aC (cwR cI aR ν)
abbrev gB (l : Launch) (D : va_G) (cI cH cT : ClassId) (aC aR : Nat → Nat → Nat) (μ : Mu) : Gx := gR l D cI cH cT aR (cwC cI cH cT aC μ)
theorem sw_r {l : Launch} {D : va_G} {cI cH cT : ClassId} {aC aR : Nat → Nat → Nat} {X : Cx} {nL pc : Nat} {lv : List (Nat × Value)} {st : List Value} {μ ν : Mu} (h : V (gB l D cI cH cT aC aR μ) X nL ν pc lv st) : V (gA l D cI cH cT aC aR ν) X nL μ pc lv st := by
  obtain ⟨p, e, R, s, m, args, below, meth, c, A, Q, cells, slots⟩ := X
  exact fun H locs ls hP hS hl => h H locs ls (P_comm (w1 := cwC cI cH cT aC μ) (w2 := cwR cI aR ν) hP) hS hl
theorem sw_c {l : Launch} {D : va_G} {cI cH cT : ClassId} {aC aR : Nat → Nat → Nat} {X : Cx} {nL pc : Nat} {lv : List (Nat × Value)} {st : List Value} {μ ν : Mu} (h : V (gA l D cI cH cT aC aR ν) X nL μ pc lv st) : V (gB l D cI cH cT aC aR μ) X nL ν pc lv st := by
  obtain ⟨p, e, R, s, m, args, below, meth, c, A, Q, cells, slots⟩ := X
  exact fun H locs ls hP hS hl => h H locs ls (P_comm (w1 := cwR cI aR ν) (w2 := cwC cI cH cT aC μ) hP) hS hl
/-- what the law's body stands on -/
def HL (l : Launch) (D : va_G) (cI cH cT : ClassId) (aC aR : Nat → Nat → Nat) (X : Cx) (b L : Nat) (xs : Nat → Int32) : Prop := (∀ ν, HX (gA l D cI cH cT aC aR ν) X cL_law 4 RL room_1 (some .boolean)) ∧ (∀ μ, HX (gB l D cI cH cT aC aR μ) X cL_law 4 RL room_1 (some .boolean)) ∧ SC X b L xs
/-- the next numbers of the script can be read -/
def nx (x : Int32) (L : Nat) : Prop := vp_in (x + 1) L ∧ vp_in (x + 2) L ∧ vp_in (x + 3) L ∧ vp_in (x + 4) L
abbrev lvL (b : Nat) (aC aR : Nat → Nat → Nat) (x : Int32) : List (Nat × Value) := [(3, .int x), (2, .ref (aR 0 0)), (1, .ref (aC 0 0)), (0, .ref b)]
theorem cmp_self (x : Int64) : lg_cmp x x = 0 := by simp [lg_cmp]
theorem ckV_L_13 : ckV RL 13 RX7 yX7_card cX7_card 3 (some .int) 2 := ⟨tw1_195, tw1_196, tw1_197, tw1_1, tw1_198, by decide +kernel⟩
theorem ckV_L_17 : ckV RL 17 RX8 yX8_card cX8_card 3 (some .int) 2 := ⟨tw3_128, tw3_129, tw3_130, tw1_9, tw3_131, by decide +kernel⟩
theorem ckV_L_18 : ckV RL 18 RX7 yX7_told cX7_told 3 (some .long) 2 := ⟨tw1_206, tw1_207, tw1_208, tw1_1, tw1_209, by decide +kernel⟩
theorem ckV_L_22 : ckV RL 22 RX8 yX8_told cX8_told 3 (some .long) 2 := ⟨tw3_136, tw3_137, tw3_138, tw1_9, tw3_139, by decide +kernel⟩
theorem ckV_L_23 : ckV RL 23 RX7 yX7_hook cX7_hook 3 (some .int) 2 := ⟨tw1_223, tw1_224, tw1_225, tw1_1, tw1_226, by decide +kernel⟩
theorem ckV_L_26 : ckV RL 26 RX8 yX8_hook cX8_hook 3 (some .int) 2 := ⟨tw3_145, tw3_146, tw3_147, tw1_9, tw3_148, by decide +kernel⟩
theorem ckV_L_27 : ckV RL 27 RX7 yX7_plan cX7_plan 5 (some .int) 4 := ⟨tw1_235, tw1_236, tw1_237, tw1_1, tw1_238, by decide +kernel⟩
theorem ckV_L_31 : ckV RL 31 RX8 yX8_plan cX8_plan 6 (some .int) 4 := ⟨tw3_150, tw3_151, tw3_152, tw1_9, tw3_153, by decide +kernel⟩
theorem ckV_L_32 : ckV RL 32 RX7 yX7_clearPlans cX7_clearPlans 1 (some .int) 0 := ⟨tw2_19, tw2_20, tw2_21, tw1_1, tw2_22, by decide +kernel⟩
theorem ckV_L_36 : ckV RL 36 RX8 yX8_clearPlans cX8_clearPlans 2 (some .int) 0 := ⟨tw3_168, tw3_169, tw3_170, tw1_9, tw3_171, by decide +kernel⟩
theorem ckV_L_37 : ckV RL 37 RX7 yX7_about cX7_about 3 (some .int) 2 := ⟨tw2_27, tw2_28, tw2_29, tw1_1, tw2_30, by decide +kernel⟩
theorem ckV_L_40 : ckV RL 40 RX8 yX8_about cX8_about 5 (some .int) 2 := ⟨tw3_172, tw3_173, tw3_174, tw1_9, tw3_175, by decide +kernel⟩
theorem ckV_L_41 : ckV RL 41 RX7 yX7_tray cX7_tray 3 (some .int) 2 := ⟨tw2_47, tw2_48, tw2_49, tw1_1, tw2_50, by decide +kernel⟩
theorem ckV_L_44 : ckV RL 44 RX8 yX8_tray cX8_tray 3 (some .int) 2 := ⟨tw3_176, tw3_177, tw3_178, tw1_9, tw3_179, by decide +kernel⟩
theorem ckV_L_45 : ckV RL 45 RX7 yX7_put cX7_put 4 (some .int) 2 := ⟨tw2_60, tw2_61, tw2_62, tw1_1, tw2_63, by decide +kernel⟩
theorem ckV_L_48 : ckV RL 48 RX8 yX8_put cX8_put 3 (some .int) 2 := ⟨tw3_184, tw3_185, tw3_186, tw1_9, tw3_187, by decide +kernel⟩
theorem ckV_L_49 : ckV RL 49 RX7 yX7_take cX7_take 3 (some .int) 2 := ⟨tw2_159, tw2_160, tw2_161, tw1_1, tw2_162, by decide +kernel⟩
theorem ckV_L_52 : ckV RL 52 RX8 yX8_take cX8_take 3 (some .int) 2 := ⟨tw4_3, tw4_4, tw4_5, tw1_9, tw4_6, by decide +kernel⟩
theorem ckV_L_53 : ckV RL 53 RX7 yX7_first cX7_first 4 (some .int) 1 := ⟨tw2_177, tw2_178, tw2_179, tw1_1, tw2_180, by decide +kernel⟩
theorem ckV_L_57 : ckV RL 57 RX8 yX8_first cX8_first 3 (some .int) 1 := ⟨tw4_19, tw4_20, tw4_21, tw1_9, tw4_22, by decide +kernel⟩
theorem ckV_L_58 : ckV RL 58 RX7 yX7_find cX7_find 4 (some .int) 2 := ⟨tw2_182, tw2_183, tw2_184, tw1_1, tw2_185, by decide +kernel⟩
theorem ckV_L_61 : ckV RL 61 RX8 yX8_find cX8_find 4 (some .int) 2 := ⟨tw4_23, tw4_24, tw4_25, tw1_9, tw4_26, by decide +kernel⟩
theorem ckV_L_62 : ckV RL 62 RX7 yX7_sort cX7_sort 4 (some .int) 2 := ⟨tw2_186, tw2_187, tw2_188, tw1_1, tw2_189, by decide +kernel⟩
theorem ckV_L_65 : ckV RL 65 RX8 yX8_sort cX8_sort 5 (some .int) 2 := ⟨tw4_27, tw4_28, tw4_29, tw1_9, tw4_30, by decide +kernel⟩
theorem ckV_L_66 : ckV RL 66 RX7 yX7_filter cX7_filter 5 (some .int) 2 := ⟨tw2_202, tw2_203, tw2_204, tw1_1, tw2_205, by decide +kernel⟩
theorem ckV_L_69 : ckV RL 69 RX8 yX8_filter cX8_filter 7 (some .int) 2 := ⟨tw4_35, tw4_36, tw4_37, tw1_9, tw4_38, by decide +kernel⟩
theorem ckV_L_70 : ckV RL 70 RX7 yX7_change cX7_change 4 (some .int) 2 := ⟨tw2_223, tw2_224, tw2_225, tw1_1, tw2_226, by decide +kernel⟩
theorem ckV_L_73 : ckV RL 73 RX8 yX8_change cX8_change 6 (some .int) 2 := ⟨tw4_43, tw4_44, tw4_45, tw1_9, tw4_46, by decide +kernel⟩
theorem ckV_L_74 : ckV RL 74 RX7 yX7_all cX7_all 7 (some .int) 2 := ⟨tw2_237, tw2_238, tw2_239, tw1_1, tw3_0, by decide +kernel⟩
theorem ckV_L_77 : ckV RL 77 RX8 yX8_all cX8_all 6 (some .int) 2 := ⟨tw4_47, tw4_48, tw4_49, tw1_9, tw4_50, by decide +kernel⟩
theorem ckV_L_78 : ckV RL 78 RX7 yX7_at cX7_at 3 (some .int) 2 := ⟨tw3_5, tw3_6, tw3_7, tw1_1, tw3_8, by decide +kernel⟩
theorem ckV_L_81 : ckV RL 81 RX8 yX8_at cX8_at 3 (some .int) 2 := ⟨tw4_51, tw4_52, tw4_53, tw1_9, tw4_54, by decide +kernel⟩
theorem ckV_L_82 : ckV RL 82 RX7 yX7_whole cX7_whole 4 (some .int) 2 := ⟨tw3_9, tw3_10, tw3_11, tw1_1, tw3_12, by decide +kernel⟩
theorem ckV_L_85 : ckV RL 85 RX8 yX8_whole cX8_whole 6 (some .int) 2 := ⟨tw4_55, tw4_56, tw4_57, tw1_9, tw4_58, by decide +kernel⟩
theorem ckV_L_86 : ckV RL 86 RX7 yX7_same cX7_same 3 (some .int) 2 := ⟨tw3_18, tw3_19, tw3_20, tw1_1, tw3_21, by decide +kernel⟩
theorem ckV_L_89 : ckV RL 89 RX8 yX8_same cX8_same 5 (some .int) 2 := ⟨tw4_60, tw4_61, tw4_62, tw1_9, tw4_63, by decide +kernel⟩
theorem ckV_L_90 : ckV RL 90 RX7 yX7_thrown cX7_thrown 2 (some .int) 1 := ⟨tw3_26, tw3_27, tw3_28, tw1_1, tw3_29, by decide +kernel⟩
theorem ckV_L_93 : ckV RL 93 RX8 yX8_thrown cX8_thrown 2 (some .int) 1 := ⟨tw4_64, tw4_65, tw4_66, tw1_9, tw4_67, by decide +kernel⟩
theorem ckV_L_94 : ckV RL 94 RX7 yX7_count cX7_count 2 (some .int) 1 := ⟨tw3_30, tw3_31, tw3_32, tw1_1, tw3_33, by decide +kernel⟩
theorem ckV_L_97 : ckV RL 97 RX8 yX8_count cX8_count 2 (some .int) 1 := ⟨tw4_68, tw4_69, tw4_70, tw1_9, tw4_71, by decide +kernel⟩
theorem law_c0 {l : Launch} {D : va_G} {cI cH cT : ClassId} {aC aR : Nat → Nat → Nat} {X : Cx} {b L : Nat} {xs : Nat → Int32} (hL : HL l D cI cH cT aC aR X b L xs) {x : Int32} (hx : nx x L) {μ ν : Mu} (h : RelE μ ν) (k : ∀ μ' ν' : Mu, RelE μ' ν' → V (gA l D cI cH cT aC aR ν') X 4 μ' 759 (lvL b aC aR x) []) : V (gA l D cI cH cT aC aR ν) X 4 μ 128 (lvL b aC aR x) [] := by
  obtain ⟨r, μ', ν', e1, e2, h'⟩ := sim_card h (xs (x + 1).toNatClampNeg) (xs (x + 2).toNatClampNeg)
  refine r_aload_n (hL.1 ν) dL_law_128 2 rfl ?_
  refine r_aload_n (hL.1 ν) dL_law_129 3 rfl ?_
  refine r_iload_n (hL.1 ν) dL_law_130 0 rfl ?_
  refine r_iconst (hL.1 ν) (v := 1) dL_law_131 (by decide) ?_
  refine r_iadd (hL.1 ν) dL_law_132 ?_
  refine r_sld (hL.1 ν) hL.2.2 hx.1 dL_law_133 ?_
  refine r_aload_n (hL.1 ν) dL_law_134 3 rfl ?_
  refine r_iload_n (hL.1 ν) dL_law_135 0 rfl ?_
  refine r_iconst (hL.1 ν) (v := 2) dL_law_136 (by decide) ?_
  refine r_iadd (hL.1 ν) dL_law_137 ?_
  refine r_sld (hL.1 ν) hL.2.2 hx.2.1 dL_law_138 ?_
  refine r_callV (hL.1 ν) 0 0 (As := [.int (xs (x + 1).toNatClampNeg), .int (xs (x + 2).toNatClampNeg)]) (rest := []) (st' := [.int r]) (res := some (.int r)) (μ' := μ') (mX7_card (xs (x + 1).toNatClampNeg) (xs (x + 2).toNatClampNeg) e1) ckV_L_13 ⟨rfl, rfl, by decide, by decide⟩ kyC0 rfl rfl rfl rfl (Nat.le_of_ble_eq_true rfl) dL_law_139 rfl ?_
  refine r_aload_n (hL.1 ν) dL_law_142 1 rfl ?_
  refine r_aload_n (hL.1 ν) dL_law_143 3 rfl ?_
  refine r_iload_n (hL.1 ν) dL_law_144 0 rfl ?_
  refine r_iconst (hL.1 ν) (v := 1) dL_law_145 (by decide) ?_
  refine r_iadd (hL.1 ν) dL_law_146 ?_
  refine r_sld (hL.1 ν) hL.2.2 hx.1 dL_law_147 ?_
  refine r_aload_n (hL.1 ν) dL_law_148 3 rfl ?_
  refine r_iload_n (hL.1 ν) dL_law_149 0 rfl ?_
  refine r_iconst (hL.1 ν) (v := 2) dL_law_150 (by decide) ?_
  refine r_iadd (hL.1 ν) dL_law_151 ?_
  refine r_sld (hL.1 ν) hL.2.2 hx.2.1 dL_law_152 ?_
  refine sw_r ?_
  refine r_callV (hL.2.1 μ') 0 0 (As := [.int (xs (x + 1).toNatClampNeg), .int (xs (x + 2).toNatClampNeg)]) (rest := [.int r]) (st' := [.int r, .int r]) (res := some (.int r)) (μ' := ν') (mX8_card (xs (x + 1).toNatClampNeg) (xs (x + 2).toNatClampNeg) e2) ckV_L_17 ⟨rfl, rfl, by decide, by decide⟩ kyR0 rfl rfl rfl rfl (Nat.le_of_ble_eq_true rfl) dL_law_153 rfl ?_
  refine sw_c ?_
  exact r_icmp_eq (hL.1 ν') (tgt := 759) dL_law_156 (by decide) (fun _ => k μ' ν' h') (fun q => absurd rfl q)
theorem law_c1 {l : Launch} {D : va_G} {cI cH cT : ClassId} {aC aR : Nat → Nat → Nat} {X : Cx} {b L : Nat} {xs : Nat → Int32} (hL : HL l D cI cH cT aC aR X b L xs) {x : Int32} (hx : nx x L) {μ ν : Mu} (h : RelE μ ν) (k : ∀ μ' ν' : Mu, RelE μ' ν' → V (gA l D cI cH cT aC aR ν') X 4 μ' 759 (lvL b aC aR x) []) : V (gA l D cI cH cT aC aR ν) X 4 μ 161 (lvL b aC aR x) [] := by
  obtain ⟨r, e1, e2⟩ := sim_told h (xs (x + 1).toNatClampNeg) (xs (x + 2).toNatClampNeg)
  refine r_aload_n (hL.1 ν) dL_law_161 2 rfl ?_
  refine r_aload_n (hL.1 ν) dL_law_162 3 rfl ?_
  refine r_iload_n (hL.1 ν) dL_law_163 0 rfl ?_
  refine r_iconst (hL.1 ν) (v := 1) dL_law_164 (by decide) ?_
  refine r_iadd (hL.1 ν) dL_law_165 ?_
  refine r_sld (hL.1 ν) hL.2.2 hx.1 dL_law_166 ?_
  refine r_aload_n (hL.1 ν) dL_law_167 3 rfl ?_
  refine r_iload_n (hL.1 ν) dL_law_168 0 rfl ?_
  refine r_iconst (hL.1 ν) (v := 2) dL_law_169 (by decide) ?_
  refine r_iadd (hL.1 ν) dL_law_170 ?_
  refine r_sld (hL.1 ν) hL.2.2 hx.2.1 dL_law_171 ?_
  refine r_callV (hL.1 ν) 0 0 (As := [.int (xs (x + 1).toNatClampNeg), .int (xs (x + 2).toNatClampNeg)]) (rest := []) (st' := [.long r]) (res := some (.long r)) (μ' := μ) (mX7_told (xs (x + 1).toNatClampNeg) (xs (x + 2).toNatClampNeg) e1) ckV_L_18 ⟨rfl, rfl, by decide, by decide⟩ kyC0 rfl rfl rfl rfl (Nat.le_of_ble_eq_true rfl) dL_law_172 rfl ?_
  refine r_aload_n (hL.1 ν) dL_law_175 1 rfl ?_
  refine r_aload_n (hL.1 ν) dL_law_176 3 rfl ?_
  refine r_iload_n (hL.1 ν) dL_law_177 0 rfl ?_
  refine r_iconst (hL.1 ν) (v := 1) dL_law_178 (by decide) ?_
  refine r_iadd (hL.1 ν) dL_law_179 ?_
  refine r_sld (hL.1 ν) hL.2.2 hx.1 dL_law_180 ?_
  refine r_aload_n (hL.1 ν) dL_law_181 3 rfl ?_
  refine r_iload_n (hL.1 ν) dL_law_182 0 rfl ?_
  refine r_iconst (hL.1 ν) (v := 2) dL_law_183 (by decide) ?_
  refine r_iadd (hL.1 ν) dL_law_184 ?_
  refine r_sld (hL.1 ν) hL.2.2 hx.2.1 dL_law_185 ?_
  refine sw_r ?_
  refine r_callV (hL.2.1 μ) 0 0 (As := [.int (xs (x + 1).toNatClampNeg), .int (xs (x + 2).toNatClampNeg)]) (rest := [.long r]) (st' := [.long r, .long r]) (res := some (.long r)) (μ' := ν) (mX8_told (xs (x + 1).toNatClampNeg) (xs (x + 2).toNatClampNeg) e2) ckV_L_22 ⟨rfl, rfl, by decide, by decide⟩ kyR0 rfl rfl rfl rfl (Nat.le_of_ble_eq_true rfl) dL_law_186 rfl ?_
  refine sw_c ?_
  refine r_lcmp (hL.1 ν) dL_law_189 ?_
  exact r_if_eq (hL.1 ν) (tgt := 759) dL_law_190 (by decide) (fun _ => k μ ν h) (fun q => absurd (cmp_self r) q)
theorem law_c2 {l : Launch} {D : va_G} {cI cH cT : ClassId} {aC aR : Nat → Nat → Nat} {X : Cx} {b L : Nat} {xs : Nat → Int32} (hL : HL l D cI cH cT aC aR X b L xs) {x : Int32} (hx : nx x L) {μ ν : Mu} (h : RelE μ ν) (k : ∀ μ' ν' : Mu, RelE μ' ν' → V (gA l D cI cH cT aC aR ν') X 4 μ' 759 (lvL b aC aR x) []) : V (gA l D cI cH cT aC aR ν) X 4 μ 195 (lvL b aC aR x) [] := by
  obtain ⟨r, μ', ν', e1, e2, h'⟩ := sim_hook h (xs (x + 1).toNatClampNeg) (xs (x + 2).toNatClampNeg)
  refine r_aload_n (hL.1 ν) dL_law_195 2 rfl ?_
  refine r_aload_n (hL.1 ν) dL_law_196 3 rfl ?_
  refine r_iload_n (hL.1 ν) dL_law_197 0 rfl ?_
  refine r_iconst (hL.1 ν) (v := 1) dL_law_198 (by decide) ?_
  refine r_iadd (hL.1 ν) dL_law_199 ?_
  refine r_sld (hL.1 ν) hL.2.2 hx.1 dL_law_200 ?_
  refine r_aload_n (hL.1 ν) dL_law_201 3 rfl ?_
  refine r_iload_n (hL.1 ν) dL_law_202 0 rfl ?_
  refine r_iconst (hL.1 ν) (v := 2) dL_law_203 (by decide) ?_
  refine r_iadd (hL.1 ν) dL_law_204 ?_
  refine r_sld (hL.1 ν) hL.2.2 hx.2.1 dL_law_205 ?_
  refine r_callV (hL.1 ν) 0 0 (As := [.int (xs (x + 1).toNatClampNeg), .int (xs (x + 2).toNatClampNeg)]) (rest := []) (st' := [.int r]) (res := some (.int r)) (μ' := μ') (mX7_hook (xs (x + 1).toNatClampNeg) (xs (x + 2).toNatClampNeg) e1) ckV_L_23 ⟨rfl, rfl, by decide, by decide⟩ kyC0 rfl rfl rfl rfl (Nat.le_of_ble_eq_true rfl) dL_law_206 rfl ?_
  refine r_aload_n (hL.1 ν) dL_law_209 1 rfl ?_
  refine r_aload_n (hL.1 ν) dL_law_210 3 rfl ?_
  refine r_iload_n (hL.1 ν) dL_law_211 0 rfl ?_
  refine r_iconst (hL.1 ν) (v := 1) dL_law_212 (by decide) ?_
  refine r_iadd (hL.1 ν) dL_law_213 ?_
  refine r_sld (hL.1 ν) hL.2.2 hx.1 dL_law_214 ?_
  refine r_aload_n (hL.1 ν) dL_law_215 3 rfl ?_
  refine r_iload_n (hL.1 ν) dL_law_216 0 rfl ?_
  refine r_iconst (hL.1 ν) (v := 2) dL_law_217 (by decide) ?_
  refine r_iadd (hL.1 ν) dL_law_218 ?_
  refine r_sld (hL.1 ν) hL.2.2 hx.2.1 dL_law_219 ?_
  refine sw_r ?_
  refine r_callV (hL.2.1 μ') 0 0 (As := [.int (xs (x + 1).toNatClampNeg), .int (xs (x + 2).toNatClampNeg)]) (rest := [.int r]) (st' := [.int r, .int r]) (res := some (.int r)) (μ' := ν') (mX8_hook (xs (x + 1).toNatClampNeg) (xs (x + 2).toNatClampNeg) e2) ckV_L_26 ⟨rfl, rfl, by decide, by decide⟩ kyR0 rfl rfl rfl rfl (Nat.le_of_ble_eq_true rfl) dL_law_220 rfl ?_
  refine sw_c ?_
  exact r_icmp_eq (hL.1 ν') (tgt := 759) dL_law_223 (by decide) (fun _ => k μ' ν' h') (fun q => absurd rfl q)
theorem law_c3 {l : Launch} {D : va_G} {cI cH cT : ClassId} {aC aR : Nat → Nat → Nat} {X : Cx} {b L : Nat} {xs : Nat → Int32} (hL : HL l D cI cH cT aC aR X b L xs) {x : Int32} (hx : nx x L) {μ ν : Mu} (h : RelE μ ν) (k : ∀ μ' ν' : Mu, RelE μ' ν' → V (gA l D cI cH cT aC aR ν') X 4 μ' 759 (lvL b aC aR x) []) : V (gA l D cI cH cT aC aR ν) X 4 μ 228 (lvL b aC aR x) [] := by
  obtain ⟨r, μ', ν', e1, e2, h'⟩ := sim_plan h (xs (x + 1).toNatClampNeg) (xs (x + 2).toNatClampNeg) (xs (x + 3).toNatClampNeg) (xs (x + 4).toNatClampNeg)
  refine r_aload_n (hL.1 ν) dL_law_228 2 rfl ?_
  refine r_aload_n (hL.1 ν) dL_law_229 3 rfl ?_
  refine r_iload_n (hL.1 ν) dL_law_230 0 rfl ?_
  refine r_iconst (hL.1 ν) (v := 1) dL_law_231 (by decide) ?_
  refine r_iadd (hL.1 ν) dL_law_232 ?_
  refine r_sld (hL.1 ν) hL.2.2 hx.1 dL_law_233 ?_
  refine r_aload_n (hL.1 ν) dL_law_234 3 rfl ?_
  refine r_iload_n (hL.1 ν) dL_law_235 0 rfl ?_
  refine r_iconst (hL.1 ν) (v := 2) dL_law_236 (by decide) ?_
  refine r_iadd (hL.1 ν) dL_law_237 ?_
  refine r_sld (hL.1 ν) hL.2.2 hx.2.1 dL_law_238 ?_
  refine r_aload_n (hL.1 ν) dL_law_239 3 rfl ?_
  refine r_iload_n (hL.1 ν) dL_law_240 0 rfl ?_
  refine r_iconst (hL.1 ν) (v := 3) dL_law_241 (by decide) ?_
  refine r_iadd (hL.1 ν) dL_law_242 ?_
  refine r_sld (hL.1 ν) hL.2.2 hx.2.2.1 dL_law_243 ?_
  refine r_aload_n (hL.1 ν) dL_law_244 3 rfl ?_
  refine r_iload_n (hL.1 ν) dL_law_245 0 rfl ?_
  refine r_iconst (hL.1 ν) (v := 4) dL_law_246 (by decide) ?_
  refine r_iadd (hL.1 ν) dL_law_247 ?_
  refine r_sld (hL.1 ν) hL.2.2 hx.2.2.2 dL_law_248 ?_
  refine r_callV (hL.1 ν) 0 0 (As := [.int (xs (x + 1).toNatClampNeg), .int (xs (x + 2).toNatClampNeg), .int (xs (x + 3).toNatClampNeg), .int (xs (x + 4).toNatClampNeg)]) (rest := []) (st' := [.int r]) (res := some (.int r)) (μ' := μ') (mX7_plan (xs (x + 1).toNatClampNeg) (xs (x + 2).toNatClampNeg) (xs (x + 3).toNatClampNeg) (xs (x + 4).toNatClampNeg) e1) ckV_L_27 ⟨rfl, rfl, by decide, by decide⟩ kyC0 rfl rfl rfl rfl (Nat.le_of_ble_eq_true rfl) dL_law_249 rfl ?_
  refine r_aload_n (hL.1 ν) dL_law_252 1 rfl ?_
  refine r_aload_n (hL.1 ν) dL_law_253 3 rfl ?_
  refine r_iload_n (hL.1 ν) dL_law_254 0 rfl ?_
  refine r_iconst (hL.1 ν) (v := 1) dL_law_255 (by decide) ?_
  refine r_iadd (hL.1 ν) dL_law_256 ?_
  refine r_sld (hL.1 ν) hL.2.2 hx.1 dL_law_257 ?_
  refine r_aload_n (hL.1 ν) dL_law_258 3 rfl ?_
  refine r_iload_n (hL.1 ν) dL_law_259 0 rfl ?_
  refine r_iconst (hL.1 ν) (v := 2) dL_law_260 (by decide) ?_
  refine r_iadd (hL.1 ν) dL_law_261 ?_
  refine r_sld (hL.1 ν) hL.2.2 hx.2.1 dL_law_262 ?_
  refine r_aload_n (hL.1 ν) dL_law_263 3 rfl ?_
  refine r_iload_n (hL.1 ν) dL_law_264 0 rfl ?_
  refine r_iconst (hL.1 ν) (v := 3) dL_law_265 (by decide) ?_
  refine r_iadd (hL.1 ν) dL_law_266 ?_
  refine r_sld (hL.1 ν) hL.2.2 hx.2.2.1 dL_law_267 ?_
  refine r_aload_n (hL.1 ν) dL_law_268 3 rfl ?_
  refine r_iload_n (hL.1 ν) dL_law_269 0 rfl ?_
  refine r_iconst (hL.1 ν) (v := 4) dL_law_270 (by decide) ?_
  refine r_iadd (hL.1 ν) dL_law_271 ?_
  refine r_sld (hL.1 ν) hL.2.2 hx.2.2.2 dL_law_272 ?_
  refine sw_r ?_
  refine r_callV (hL.2.1 μ') 0 0 (As := [.int (xs (x + 1).toNatClampNeg), .int (xs (x + 2).toNatClampNeg), .int (xs (x + 3).toNatClampNeg), .int (xs (x + 4).toNatClampNeg)]) (rest := [.int r]) (st' := [.int r, .int r]) (res := some (.int r)) (μ' := ν') (mX8_plan (xs (x + 1).toNatClampNeg) (xs (x + 2).toNatClampNeg) (xs (x + 3).toNatClampNeg) (xs (x + 4).toNatClampNeg) e2) ckV_L_31 ⟨rfl, rfl, by decide, by decide⟩ kyR0 rfl rfl rfl rfl (Nat.le_of_ble_eq_true rfl) dL_law_273 rfl ?_
  refine sw_c ?_
  exact r_icmp_eq (hL.1 ν') (tgt := 759) dL_law_276 (by decide) (fun _ => k μ' ν' h') (fun q => absurd rfl q)
theorem law_c4 {l : Launch} {D : va_G} {cI cH cT : ClassId} {aC aR : Nat → Nat → Nat} {X : Cx} {b L : Nat} {xs : Nat → Int32} (hL : HL l D cI cH cT aC aR X b L xs) {x : Int32} (hx : nx x L) {μ ν : Mu} (h : RelE μ ν) (k : ∀ μ' ν' : Mu, RelE μ' ν' → V (gA l D cI cH cT aC aR ν') X 4 μ' 759 (lvL b aC aR x) []) : V (gA l D cI cH cT aC aR ν) X 4 μ 281 (lvL b aC aR x) [] := by
  obtain ⟨r, μ', ν', e1, e2, h'⟩ := sim_clearPlans h 
  refine r_aload_n (hL.1 ν) dL_law_281 2 rfl ?_
  refine r_callV (hL.1 ν) 0 0 (As := []) (rest := []) (st' := [.int r]) (res := some (.int r)) (μ' := μ') (mX7_clearPlans  e1) ckV_L_32 ⟨rfl, rfl, by decide, by decide⟩ kyC0 rfl rfl rfl rfl (Nat.le_of_ble_eq_true rfl) dL_law_282 rfl ?_
  refine r_aload_n (hL.1 ν) dL_law_285 1 rfl ?_
  refine sw_r ?_
  refine r_callV (hL.2.1 μ') 0 0 (As := []) (rest := [.int r]) (st' := [.int r, .int r]) (res := some (.int r)) (μ' := ν') (mX8_clearPlans  e2) ckV_L_36 ⟨rfl, rfl, by decide, by decide⟩ kyR0 rfl rfl rfl rfl (Nat.le_of_ble_eq_true rfl) dL_law_286 rfl ?_
  refine sw_c ?_
  exact r_icmp_eq (hL.1 ν') (tgt := 759) dL_law_289 (by decide) (fun _ => k μ' ν' h') (fun q => absurd rfl q)
theorem law_c5 {l : Launch} {D : va_G} {cI cH cT : ClassId} {aC aR : Nat → Nat → Nat} {X : Cx} {b L : Nat} {xs : Nat → Int32} (hL : HL l D cI cH cT aC aR X b L xs) {x : Int32} (hx : nx x L) {μ ν : Mu} (h : RelE μ ν) (k : ∀ μ' ν' : Mu, RelE μ' ν' → V (gA l D cI cH cT aC aR ν') X 4 μ' 759 (lvL b aC aR x) []) : V (gA l D cI cH cT aC aR ν) X 4 μ 294 (lvL b aC aR x) [] := by
  obtain ⟨r, e1, e2⟩ := sim_about h (xs (x + 1).toNatClampNeg) (xs (x + 2).toNatClampNeg)
  refine r_aload_n (hL.1 ν) dL_law_294 2 rfl ?_
  refine r_aload_n (hL.1 ν) dL_law_295 3 rfl ?_
  refine r_iload_n (hL.1 ν) dL_law_296 0 rfl ?_
  refine r_iconst (hL.1 ν) (v := 1) dL_law_297 (by decide) ?_
  refine r_iadd (hL.1 ν) dL_law_298 ?_
  refine r_sld (hL.1 ν) hL.2.2 hx.1 dL_law_299 ?_
  refine r_aload_n (hL.1 ν) dL_law_300 3 rfl ?_
  refine r_iload_n (hL.1 ν) dL_law_301 0 rfl ?_
  refine r_iconst (hL.1 ν) (v := 2) dL_law_302 (by decide) ?_
  refine r_iadd (hL.1 ν) dL_law_303 ?_
  refine r_sld (hL.1 ν) hL.2.2 hx.2.1 dL_law_304 ?_
  refine r_callV (hL.1 ν) 0 0 (As := [.int (xs (x + 1).toNatClampNeg), .int (xs (x + 2).toNatClampNeg)]) (rest := []) (st' := [.int r]) (res := some (.int r)) (μ' := μ) (mX7_about (xs (x + 1).toNatClampNeg) (xs (x + 2).toNatClampNeg) e1) ckV_L_37 ⟨rfl, rfl, by decide, by decide⟩ kyC0 rfl rfl rfl rfl (Nat.le_of_ble_eq_true rfl) dL_law_305 rfl ?_
  refine r_aload_n (hL.1 ν) dL_law_308 1 rfl ?_
  refine r_aload_n (hL.1 ν) dL_law_309 3 rfl ?_
  refine r_iload_n (hL.1 ν) dL_law_310 0 rfl ?_
  refine r_iconst (hL.1 ν) (v := 1) dL_law_311 (by decide) ?_
  refine r_iadd (hL.1 ν) dL_law_312 ?_
  refine r_sld (hL.1 ν) hL.2.2 hx.1 dL_law_313 ?_
  refine r_aload_n (hL.1 ν) dL_law_314 3 rfl ?_
  refine r_iload_n (hL.1 ν) dL_law_315 0 rfl ?_
  refine r_iconst (hL.1 ν) (v := 2) dL_law_316 (by decide) ?_
  refine r_iadd (hL.1 ν) dL_law_317 ?_
  refine r_sld (hL.1 ν) hL.2.2 hx.2.1 dL_law_318 ?_
  refine sw_r ?_
  refine r_callV (hL.2.1 μ) 0 0 (As := [.int (xs (x + 1).toNatClampNeg), .int (xs (x + 2).toNatClampNeg)]) (rest := [.int r]) (st' := [.int r, .int r]) (res := some (.int r)) (μ' := ν) (mX8_about (xs (x + 1).toNatClampNeg) (xs (x + 2).toNatClampNeg) e2) ckV_L_40 ⟨rfl, rfl, by decide, by decide⟩ kyR0 rfl rfl rfl rfl (Nat.le_of_ble_eq_true rfl) dL_law_319 rfl ?_
  refine sw_c ?_
  exact r_icmp_eq (hL.1 ν) (tgt := 759) dL_law_322 (by decide) (fun _ => k μ ν h) (fun q => absurd rfl q)
theorem law_c6 {l : Launch} {D : va_G} {cI cH cT : ClassId} {aC aR : Nat → Nat → Nat} {X : Cx} {b L : Nat} {xs : Nat → Int32} (hL : HL l D cI cH cT aC aR X b L xs) {x : Int32} (hx : nx x L) {μ ν : Mu} (h : RelE μ ν) (k : ∀ μ' ν' : Mu, RelE μ' ν' → V (gA l D cI cH cT aC aR ν') X 4 μ' 759 (lvL b aC aR x) []) : V (gA l D cI cH cT aC aR ν) X 4 μ 327 (lvL b aC aR x) [] := by
  obtain ⟨r, μ', ν', e1, e2, h'⟩ := sim_tray h (xs (x + 1).toNatClampNeg) (xs (x + 2).toNatClampNeg)
  refine r_aload_n (hL.1 ν) dL_law_327 2 rfl ?_
  refine r_aload_n (hL.1 ν) dL_law_328 3 rfl ?_
  refine r_iload_n (hL.1 ν) dL_law_329 0 rfl ?_
  refine r_iconst (hL.1 ν) (v := 1) dL_law_330 (by decide) ?_
  refine r_iadd (hL.1 ν) dL_law_331 ?_
  refine r_sld (hL.1 ν) hL.2.2 hx.1 dL_law_332 ?_
  refine r_aload_n (hL.1 ν) dL_law_333 3 rfl ?_
  refine r_iload_n (hL.1 ν) dL_law_334 0 rfl ?_
  refine r_iconst (hL.1 ν) (v := 2) dL_law_335 (by decide) ?_
  refine r_iadd (hL.1 ν) dL_law_336 ?_
  refine r_sld (hL.1 ν) hL.2.2 hx.2.1 dL_law_337 ?_
  refine r_callV (hL.1 ν) 0 0 (As := [.int (xs (x + 1).toNatClampNeg), .int (xs (x + 2).toNatClampNeg)]) (rest := []) (st' := [.int r]) (res := some (.int r)) (μ' := μ') (mX7_tray (xs (x + 1).toNatClampNeg) (xs (x + 2).toNatClampNeg) e1) ckV_L_41 ⟨rfl, rfl, by decide, by decide⟩ kyC0 rfl rfl rfl rfl (Nat.le_of_ble_eq_true rfl) dL_law_338 rfl ?_
  refine r_aload_n (hL.1 ν) dL_law_341 1 rfl ?_
  refine r_aload_n (hL.1 ν) dL_law_342 3 rfl ?_
  refine r_iload_n (hL.1 ν) dL_law_343 0 rfl ?_
  refine r_iconst (hL.1 ν) (v := 1) dL_law_344 (by decide) ?_
  refine r_iadd (hL.1 ν) dL_law_345 ?_
  refine r_sld (hL.1 ν) hL.2.2 hx.1 dL_law_346 ?_
  refine r_aload_n (hL.1 ν) dL_law_347 3 rfl ?_
  refine r_iload_n (hL.1 ν) dL_law_348 0 rfl ?_
  refine r_iconst (hL.1 ν) (v := 2) dL_law_349 (by decide) ?_
  refine r_iadd (hL.1 ν) dL_law_350 ?_
  refine r_sld (hL.1 ν) hL.2.2 hx.2.1 dL_law_351 ?_
  refine sw_r ?_
  refine r_callV (hL.2.1 μ') 0 0 (As := [.int (xs (x + 1).toNatClampNeg), .int (xs (x + 2).toNatClampNeg)]) (rest := [.int r]) (st' := [.int r, .int r]) (res := some (.int r)) (μ' := ν') (mX8_tray (xs (x + 1).toNatClampNeg) (xs (x + 2).toNatClampNeg) e2) ckV_L_44 ⟨rfl, rfl, by decide, by decide⟩ kyR0 rfl rfl rfl rfl (Nat.le_of_ble_eq_true rfl) dL_law_352 rfl ?_
  refine sw_c ?_
  exact r_icmp_eq (hL.1 ν') (tgt := 759) dL_law_355 (by decide) (fun _ => k μ' ν' h') (fun q => absurd rfl q)
theorem law_c7 {l : Launch} {D : va_G} {cI cH cT : ClassId} {aC aR : Nat → Nat → Nat} {X : Cx} {b L : Nat} {xs : Nat → Int32} (hL : HL l D cI cH cT aC aR X b L xs) {x : Int32} (hx : nx x L) {μ ν : Mu} (h : RelE μ ν) (k : ∀ μ' ν' : Mu, RelE μ' ν' → V (gA l D cI cH cT aC aR ν') X 4 μ' 759 (lvL b aC aR x) []) : V (gA l D cI cH cT aC aR ν) X 4 μ 360 (lvL b aC aR x) [] := by
  obtain ⟨r, μ', ν', e1, e2, h'⟩ := sim_put h (xs (x + 1).toNatClampNeg) (xs (x + 2).toNatClampNeg)
  refine r_aload_n (hL.1 ν) dL_law_360 2 rfl ?_
  refine r_aload_n (hL.1 ν) dL_law_361 3 rfl ?_
  refine r_iload_n (hL.1 ν) dL_law_362 0 rfl ?_
  refine r_iconst (hL.1 ν) (v := 1) dL_law_363 (by decide) ?_
  refine r_iadd (hL.1 ν) dL_law_364 ?_
  refine r_sld (hL.1 ν) hL.2.2 hx.1 dL_law_365 ?_
  refine r_aload_n (hL.1 ν) dL_law_366 3 rfl ?_
  refine r_iload_n (hL.1 ν) dL_law_367 0 rfl ?_
  refine r_iconst (hL.1 ν) (v := 2) dL_law_368 (by decide) ?_
  refine r_iadd (hL.1 ν) dL_law_369 ?_
  refine r_sld (hL.1 ν) hL.2.2 hx.2.1 dL_law_370 ?_
  refine r_callV (hL.1 ν) 0 0 (As := [.int (xs (x + 1).toNatClampNeg), .int (xs (x + 2).toNatClampNeg)]) (rest := []) (st' := [.int r]) (res := some (.int r)) (μ' := μ') (mX7_put (xs (x + 1).toNatClampNeg) (xs (x + 2).toNatClampNeg) e1) ckV_L_45 ⟨rfl, rfl, by decide, by decide⟩ kyC0 rfl rfl rfl rfl (Nat.le_of_ble_eq_true rfl) dL_law_371 rfl ?_
  refine r_aload_n (hL.1 ν) dL_law_374 1 rfl ?_
  refine r_aload_n (hL.1 ν) dL_law_375 3 rfl ?_
  refine r_iload_n (hL.1 ν) dL_law_376 0 rfl ?_
  refine r_iconst (hL.1 ν) (v := 1) dL_law_377 (by decide) ?_
  refine r_iadd (hL.1 ν) dL_law_378 ?_
  refine r_sld (hL.1 ν) hL.2.2 hx.1 dL_law_379 ?_
  refine r_aload_n (hL.1 ν) dL_law_380 3 rfl ?_
  refine r_iload_n (hL.1 ν) dL_law_381 0 rfl ?_
  refine r_iconst (hL.1 ν) (v := 2) dL_law_382 (by decide) ?_
  refine r_iadd (hL.1 ν) dL_law_383 ?_
  refine r_sld (hL.1 ν) hL.2.2 hx.2.1 dL_law_384 ?_
  refine sw_r ?_
  refine r_callV (hL.2.1 μ') 0 0 (As := [.int (xs (x + 1).toNatClampNeg), .int (xs (x + 2).toNatClampNeg)]) (rest := [.int r]) (st' := [.int r, .int r]) (res := some (.int r)) (μ' := ν') (mX8_put (xs (x + 1).toNatClampNeg) (xs (x + 2).toNatClampNeg) e2) ckV_L_48 ⟨rfl, rfl, by decide, by decide⟩ kyR0 rfl rfl rfl rfl (Nat.le_of_ble_eq_true rfl) dL_law_385 rfl ?_
  refine sw_c ?_
  exact r_icmp_eq (hL.1 ν') (tgt := 759) dL_law_388 (by decide) (fun _ => k μ' ν' h') (fun q => absurd rfl q)
theorem law_c8 {l : Launch} {D : va_G} {cI cH cT : ClassId} {aC aR : Nat → Nat → Nat} {X : Cx} {b L : Nat} {xs : Nat → Int32} (hL : HL l D cI cH cT aC aR X b L xs) {x : Int32} (hx : nx x L) {μ ν : Mu} (h : RelE μ ν) (k : ∀ μ' ν' : Mu, RelE μ' ν' → V (gA l D cI cH cT aC aR ν') X 4 μ' 759 (lvL b aC aR x) []) : V (gA l D cI cH cT aC aR ν) X 4 μ 393 (lvL b aC aR x) [] := by
  obtain ⟨r, μ', ν', e1, e2, h'⟩ := sim_take h (xs (x + 1).toNatClampNeg) (xs (x + 2).toNatClampNeg)
  refine r_aload_n (hL.1 ν) dL_law_393 2 rfl ?_
  refine r_aload_n (hL.1 ν) dL_law_394 3 rfl ?_
  refine r_iload_n (hL.1 ν) dL_law_395 0 rfl ?_
  refine r_iconst (hL.1 ν) (v := 1) dL_law_396 (by decide) ?_
  refine r_iadd (hL.1 ν) dL_law_397 ?_
  refine r_sld (hL.1 ν) hL.2.2 hx.1 dL_law_398 ?_
  refine r_aload_n (hL.1 ν) dL_law_399 3 rfl ?_
  refine r_iload_n (hL.1 ν) dL_law_400 0 rfl ?_
  refine r_iconst (hL.1 ν) (v := 2) dL_law_401 (by decide) ?_
  refine r_iadd (hL.1 ν) dL_law_402 ?_
  refine r_sld (hL.1 ν) hL.2.2 hx.2.1 dL_law_403 ?_
  refine r_callV (hL.1 ν) 0 0 (As := [.int (xs (x + 1).toNatClampNeg), .int (xs (x + 2).toNatClampNeg)]) (rest := []) (st' := [.int r]) (res := some (.int r)) (μ' := μ') (mX7_take (xs (x + 1).toNatClampNeg) (xs (x + 2).toNatClampNeg) e1) ckV_L_49 ⟨rfl, rfl, by decide, by decide⟩ kyC0 rfl rfl rfl rfl (Nat.le_of_ble_eq_true rfl) dL_law_404 rfl ?_
  refine r_aload_n (hL.1 ν) dL_law_407 1 rfl ?_
  refine r_aload_n (hL.1 ν) dL_law_408 3 rfl ?_
  refine r_iload_n (hL.1 ν) dL_law_409 0 rfl ?_
  refine r_iconst (hL.1 ν) (v := 1) dL_law_410 (by decide) ?_
  refine r_iadd (hL.1 ν) dL_law_411 ?_
  refine r_sld (hL.1 ν) hL.2.2 hx.1 dL_law_412 ?_
  refine r_aload_n (hL.1 ν) dL_law_413 3 rfl ?_
  refine r_iload_n (hL.1 ν) dL_law_414 0 rfl ?_
  refine r_iconst (hL.1 ν) (v := 2) dL_law_415 (by decide) ?_
  refine r_iadd (hL.1 ν) dL_law_416 ?_
  refine r_sld (hL.1 ν) hL.2.2 hx.2.1 dL_law_417 ?_
  refine sw_r ?_
  refine r_callV (hL.2.1 μ') 0 0 (As := [.int (xs (x + 1).toNatClampNeg), .int (xs (x + 2).toNatClampNeg)]) (rest := [.int r]) (st' := [.int r, .int r]) (res := some (.int r)) (μ' := ν') (mX8_take (xs (x + 1).toNatClampNeg) (xs (x + 2).toNatClampNeg) e2) ckV_L_52 ⟨rfl, rfl, by decide, by decide⟩ kyR0 rfl rfl rfl rfl (Nat.le_of_ble_eq_true rfl) dL_law_418 rfl ?_
  refine sw_c ?_
  exact r_icmp_eq (hL.1 ν') (tgt := 759) dL_law_421 (by decide) (fun _ => k μ' ν' h') (fun q => absurd rfl q)
theorem law_c9 {l : Launch} {D : va_G} {cI cH cT : ClassId} {aC aR : Nat → Nat → Nat} {X : Cx} {b L : Nat} {xs : Nat → Int32} (hL : HL l D cI cH cT aC aR X b L xs) {x : Int32} (hx : nx x L) {μ ν : Mu} (h : RelE μ ν) (k : ∀ μ' ν' : Mu, RelE μ' ν' → V (gA l D cI cH cT aC aR ν') X 4 μ' 759 (lvL b aC aR x) []) : V (gA l D cI cH cT aC aR ν) X 4 μ 426 (lvL b aC aR x) [] := by
  obtain ⟨r, μ', ν', e1, e2, h'⟩ := sim_first h (xs (x + 1).toNatClampNeg)
  refine r_aload_n (hL.1 ν) dL_law_426 2 rfl ?_
  refine r_aload_n (hL.1 ν) dL_law_427 3 rfl ?_
  refine r_iload_n (hL.1 ν) dL_law_428 0 rfl ?_
  refine r_iconst (hL.1 ν) (v := 1) dL_law_429 (by decide) ?_
  refine r_iadd (hL.1 ν) dL_law_430 ?_
  refine r_sld (hL.1 ν) hL.2.2 hx.1 dL_law_431 ?_
  refine r_callV (hL.1 ν) 0 0 (As := [.int (xs (x + 1).toNatClampNeg)]) (rest := []) (st' := [.int r]) (res := some (.int r)) (μ' := μ') (mX7_first (xs (x + 1).toNatClampNeg) e1) ckV_L_53 ⟨rfl, rfl, by decide, by decide⟩ kyC0 rfl rfl rfl rfl (Nat.le_of_ble_eq_true rfl) dL_law_432 rfl ?_
  refine r_aload_n (hL.1 ν) dL_law_435 1 rfl ?_
  refine r_aload_n (hL.1 ν) dL_law_436 3 rfl ?_
  refine r_iload_n (hL.1 ν) dL_law_437 0 rfl ?_
  refine r_iconst (hL.1 ν) (v := 1) dL_law_438 (by decide) ?_
  refine r_iadd (hL.1 ν) dL_law_439 ?_
  refine r_sld (hL.1 ν) hL.2.2 hx.1 dL_law_440 ?_
  refine sw_r ?_
  refine r_callV (hL.2.1 μ') 0 0 (As := [.int (xs (x + 1).toNatClampNeg)]) (rest := [.int r]) (st' := [.int r, .int r]) (res := some (.int r)) (μ' := ν') (mX8_first (xs (x + 1).toNatClampNeg) e2) ckV_L_57 ⟨rfl, rfl, by decide, by decide⟩ kyR0 rfl rfl rfl rfl (Nat.le_of_ble_eq_true rfl) dL_law_441 rfl ?_
  refine sw_c ?_
  exact r_icmp_eq (hL.1 ν') (tgt := 759) dL_law_444 (by decide) (fun _ => k μ' ν' h') (fun q => absurd rfl q)
theorem law_c10 {l : Launch} {D : va_G} {cI cH cT : ClassId} {aC aR : Nat → Nat → Nat} {X : Cx} {b L : Nat} {xs : Nat → Int32} (hL : HL l D cI cH cT aC aR X b L xs) {x : Int32} (hx : nx x L) {μ ν : Mu} (h : RelE μ ν) (k : ∀ μ' ν' : Mu, RelE μ' ν' → V (gA l D cI cH cT aC aR ν') X 4 μ' 759 (lvL b aC aR x) []) : V (gA l D cI cH cT aC aR ν) X 4 μ 449 (lvL b aC aR x) [] := by
  obtain ⟨r, μ', ν', e1, e2, h'⟩ := sim_find h (xs (x + 1).toNatClampNeg) (xs (x + 2).toNatClampNeg)
  refine r_aload_n (hL.1 ν) dL_law_449 2 rfl ?_
  refine r_aload_n (hL.1 ν) dL_law_450 3 rfl ?_
  refine r_iload_n (hL.1 ν) dL_law_451 0 rfl ?_
  refine r_iconst (hL.1 ν) (v := 1) dL_law_452 (by decide) ?_
  refine r_iadd (hL.1 ν) dL_law_453 ?_
  refine r_sld (hL.1 ν) hL.2.2 hx.1 dL_law_454 ?_
  refine r_aload_n (hL.1 ν) dL_law_455 3 rfl ?_
  refine r_iload_n (hL.1 ν) dL_law_456 0 rfl ?_
  refine r_iconst (hL.1 ν) (v := 2) dL_law_457 (by decide) ?_
  refine r_iadd (hL.1 ν) dL_law_458 ?_
  refine r_sld (hL.1 ν) hL.2.2 hx.2.1 dL_law_459 ?_
  refine r_callV (hL.1 ν) 0 0 (As := [.int (xs (x + 1).toNatClampNeg), .int (xs (x + 2).toNatClampNeg)]) (rest := []) (st' := [.int r]) (res := some (.int r)) (μ' := μ') (mX7_find (xs (x + 1).toNatClampNeg) (xs (x + 2).toNatClampNeg) e1) ckV_L_58 ⟨rfl, rfl, by decide, by decide⟩ kyC0 rfl rfl rfl rfl (Nat.le_of_ble_eq_true rfl) dL_law_460 rfl ?_
  refine r_aload_n (hL.1 ν) dL_law_463 1 rfl ?_
  refine r_aload_n (hL.1 ν) dL_law_464 3 rfl ?_
  refine r_iload_n (hL.1 ν) dL_law_465 0 rfl ?_
  refine r_iconst (hL.1 ν) (v := 1) dL_law_466 (by decide) ?_
  refine r_iadd (hL.1 ν) dL_law_467 ?_
  refine r_sld (hL.1 ν) hL.2.2 hx.1 dL_law_468 ?_
  refine r_aload_n (hL.1 ν) dL_law_469 3 rfl ?_
  refine r_iload_n (hL.1 ν) dL_law_470 0 rfl ?_
  refine r_iconst (hL.1 ν) (v := 2) dL_law_471 (by decide) ?_
  refine r_iadd (hL.1 ν) dL_law_472 ?_
  refine r_sld (hL.1 ν) hL.2.2 hx.2.1 dL_law_473 ?_
  refine sw_r ?_
  refine r_callV (hL.2.1 μ') 0 0 (As := [.int (xs (x + 1).toNatClampNeg), .int (xs (x + 2).toNatClampNeg)]) (rest := [.int r]) (st' := [.int r, .int r]) (res := some (.int r)) (μ' := ν') (mX8_find (xs (x + 1).toNatClampNeg) (xs (x + 2).toNatClampNeg) e2) ckV_L_61 ⟨rfl, rfl, by decide, by decide⟩ kyR0 rfl rfl rfl rfl (Nat.le_of_ble_eq_true rfl) dL_law_474 rfl ?_
  refine sw_c ?_
  exact r_icmp_eq (hL.1 ν') (tgt := 759) dL_law_477 (by decide) (fun _ => k μ' ν' h') (fun q => absurd rfl q)
theorem law_c11 {l : Launch} {D : va_G} {cI cH cT : ClassId} {aC aR : Nat → Nat → Nat} {X : Cx} {b L : Nat} {xs : Nat → Int32} (hL : HL l D cI cH cT aC aR X b L xs) {x : Int32} (hx : nx x L) {μ ν : Mu} (h : RelE μ ν) (k : ∀ μ' ν' : Mu, RelE μ' ν' → V (gA l D cI cH cT aC aR ν') X 4 μ' 759 (lvL b aC aR x) []) : V (gA l D cI cH cT aC aR ν) X 4 μ 482 (lvL b aC aR x) [] := by
  obtain ⟨r, μ', ν', e1, e2, h'⟩ := sim_sort h (xs (x + 1).toNatClampNeg) (xs (x + 2).toNatClampNeg)
  refine r_aload_n (hL.1 ν) dL_law_482 2 rfl ?_
  refine r_aload_n (hL.1 ν) dL_law_483 3 rfl ?_
  refine r_iload_n (hL.1 ν) dL_law_484 0 rfl ?_
  refine r_iconst (hL.1 ν) (v := 1) dL_law_485 (by decide) ?_
  refine r_iadd (hL.1 ν) dL_law_486 ?_
  refine r_sld (hL.1 ν) hL.2.2 hx.1 dL_law_487 ?_
  refine r_aload_n (hL.1 ν) dL_law_488 3 rfl ?_
  refine r_iload_n (hL.1 ν) dL_law_489 0 rfl ?_
  refine r_iconst (hL.1 ν) (v := 2) dL_law_490 (by decide) ?_
  refine r_iadd (hL.1 ν) dL_law_491 ?_
  refine r_sld (hL.1 ν) hL.2.2 hx.2.1 dL_law_492 ?_
  refine r_callV (hL.1 ν) 0 0 (As := [.int (xs (x + 1).toNatClampNeg), .int (xs (x + 2).toNatClampNeg)]) (rest := []) (st' := [.int r]) (res := some (.int r)) (μ' := μ') (mX7_sort (xs (x + 1).toNatClampNeg) (xs (x + 2).toNatClampNeg) e1) ckV_L_62 ⟨rfl, rfl, by decide, by decide⟩ kyC0 rfl rfl rfl rfl (Nat.le_of_ble_eq_true rfl) dL_law_493 rfl ?_
  refine r_aload_n (hL.1 ν) dL_law_496 1 rfl ?_
  refine r_aload_n (hL.1 ν) dL_law_497 3 rfl ?_
  refine r_iload_n (hL.1 ν) dL_law_498 0 rfl ?_
  refine r_iconst (hL.1 ν) (v := 1) dL_law_499 (by decide) ?_
  refine r_iadd (hL.1 ν) dL_law_500 ?_
  refine r_sld (hL.1 ν) hL.2.2 hx.1 dL_law_501 ?_
  refine r_aload_n (hL.1 ν) dL_law_502 3 rfl ?_
  refine r_iload_n (hL.1 ν) dL_law_503 0 rfl ?_
  refine r_iconst (hL.1 ν) (v := 2) dL_law_504 (by decide) ?_
  refine r_iadd (hL.1 ν) dL_law_505 ?_
  refine r_sld (hL.1 ν) hL.2.2 hx.2.1 dL_law_506 ?_
  refine sw_r ?_
  refine r_callV (hL.2.1 μ') 0 0 (As := [.int (xs (x + 1).toNatClampNeg), .int (xs (x + 2).toNatClampNeg)]) (rest := [.int r]) (st' := [.int r, .int r]) (res := some (.int r)) (μ' := ν') (mX8_sort (xs (x + 1).toNatClampNeg) (xs (x + 2).toNatClampNeg) e2) ckV_L_65 ⟨rfl, rfl, by decide, by decide⟩ kyR0 rfl rfl rfl rfl (Nat.le_of_ble_eq_true rfl) dL_law_507 rfl ?_
  refine sw_c ?_
  exact r_icmp_eq (hL.1 ν') (tgt := 759) dL_law_510 (by decide) (fun _ => k μ' ν' h') (fun q => absurd rfl q)
theorem law_c12 {l : Launch} {D : va_G} {cI cH cT : ClassId} {aC aR : Nat → Nat → Nat} {X : Cx} {b L : Nat} {xs : Nat → Int32} (hL : HL l D cI cH cT aC aR X b L xs) {x : Int32} (hx : nx x L) {μ ν : Mu} (h : RelE μ ν) (k : ∀ μ' ν' : Mu, RelE μ' ν' → V (gA l D cI cH cT aC aR ν') X 4 μ' 759 (lvL b aC aR x) []) : V (gA l D cI cH cT aC aR ν) X 4 μ 515 (lvL b aC aR x) [] := by
  obtain ⟨r, μ', ν', e1, e2, h'⟩ := sim_filter h (xs (x + 1).toNatClampNeg) (xs (x + 2).toNatClampNeg)
  refine r_aload_n (hL.1 ν) dL_law_515 2 rfl ?_
  refine r_aload_n (hL.1 ν) dL_law_516 3 rfl ?_
  refine r_iload_n (hL.1 ν) dL_law_517 0 rfl ?_
  refine r_iconst (hL.1 ν) (v := 1) dL_law_518 (by decide) ?_
  refine r_iadd (hL.1 ν) dL_law_519 ?_
  refine r_sld (hL.1 ν) hL.2.2 hx.1 dL_law_520 ?_
  refine r_aload_n (hL.1 ν) dL_law_521 3 rfl ?_
  refine r_iload_n (hL.1 ν) dL_law_522 0 rfl ?_
  refine r_iconst (hL.1 ν) (v := 2) dL_law_523 (by decide) ?_
  refine r_iadd (hL.1 ν) dL_law_524 ?_
  refine r_sld (hL.1 ν) hL.2.2 hx.2.1 dL_law_525 ?_
  refine r_callV (hL.1 ν) 0 0 (As := [.int (xs (x + 1).toNatClampNeg), .int (xs (x + 2).toNatClampNeg)]) (rest := []) (st' := [.int r]) (res := some (.int r)) (μ' := μ') (mX7_filter (xs (x + 1).toNatClampNeg) (xs (x + 2).toNatClampNeg) e1) ckV_L_66 ⟨rfl, rfl, by decide, by decide⟩ kyC0 rfl rfl rfl rfl (Nat.le_of_ble_eq_true rfl) dL_law_526 rfl ?_
  refine r_aload_n (hL.1 ν) dL_law_529 1 rfl ?_
  refine r_aload_n (hL.1 ν) dL_law_530 3 rfl ?_
  refine r_iload_n (hL.1 ν) dL_law_531 0 rfl ?_
  refine r_iconst (hL.1 ν) (v := 1) dL_law_532 (by decide) ?_
  refine r_iadd (hL.1 ν) dL_law_533 ?_
  refine r_sld (hL.1 ν) hL.2.2 hx.1 dL_law_534 ?_
  refine r_aload_n (hL.1 ν) dL_law_535 3 rfl ?_
  refine r_iload_n (hL.1 ν) dL_law_536 0 rfl ?_
  refine r_iconst (hL.1 ν) (v := 2) dL_law_537 (by decide) ?_
  refine r_iadd (hL.1 ν) dL_law_538 ?_
  refine r_sld (hL.1 ν) hL.2.2 hx.2.1 dL_law_539 ?_
  refine sw_r ?_
  refine r_callV (hL.2.1 μ') 0 0 (As := [.int (xs (x + 1).toNatClampNeg), .int (xs (x + 2).toNatClampNeg)]) (rest := [.int r]) (st' := [.int r, .int r]) (res := some (.int r)) (μ' := ν') (mX8_filter (xs (x + 1).toNatClampNeg) (xs (x + 2).toNatClampNeg) e2) ckV_L_69 ⟨rfl, rfl, by decide, by decide⟩ kyR0 rfl rfl rfl rfl (Nat.le_of_ble_eq_true rfl) dL_law_540 rfl ?_
  refine sw_c ?_
  exact r_icmp_eq (hL.1 ν') (tgt := 759) dL_law_543 (by decide) (fun _ => k μ' ν' h') (fun q => absurd rfl q)
theorem law_c13 {l : Launch} {D : va_G} {cI cH cT : ClassId} {aC aR : Nat → Nat → Nat} {X : Cx} {b L : Nat} {xs : Nat → Int32} (hL : HL l D cI cH cT aC aR X b L xs) {x : Int32} (hx : nx x L) {μ ν : Mu} (h : RelE μ ν) (k : ∀ μ' ν' : Mu, RelE μ' ν' → V (gA l D cI cH cT aC aR ν') X 4 μ' 759 (lvL b aC aR x) []) : V (gA l D cI cH cT aC aR ν) X 4 μ 548 (lvL b aC aR x) [] := by
  obtain ⟨r, μ', ν', e1, e2, h'⟩ := sim_change h (xs (x + 1).toNatClampNeg) (xs (x + 2).toNatClampNeg)
  refine r_aload_n (hL.1 ν) dL_law_548 2 rfl ?_
  refine r_aload_n (hL.1 ν) dL_law_549 3 rfl ?_
  refine r_iload_n (hL.1 ν) dL_law_550 0 rfl ?_
  refine r_iconst (hL.1 ν) (v := 1) dL_law_551 (by decide) ?_
  refine r_iadd (hL.1 ν) dL_law_552 ?_
  refine r_sld (hL.1 ν) hL.2.2 hx.1 dL_law_553 ?_
  refine r_aload_n (hL.1 ν) dL_law_554 3 rfl ?_
  refine r_iload_n (hL.1 ν) dL_law_555 0 rfl ?_
  refine r_iconst (hL.1 ν) (v := 2) dL_law_556 (by decide) ?_
  refine r_iadd (hL.1 ν) dL_law_557 ?_
  refine r_sld (hL.1 ν) hL.2.2 hx.2.1 dL_law_558 ?_
  refine r_callV (hL.1 ν) 0 0 (As := [.int (xs (x + 1).toNatClampNeg), .int (xs (x + 2).toNatClampNeg)]) (rest := []) (st' := [.int r]) (res := some (.int r)) (μ' := μ') (mX7_change (xs (x + 1).toNatClampNeg) (xs (x + 2).toNatClampNeg) e1) ckV_L_70 ⟨rfl, rfl, by decide, by decide⟩ kyC0 rfl rfl rfl rfl (Nat.le_of_ble_eq_true rfl) dL_law_559 rfl ?_
  refine r_aload_n (hL.1 ν) dL_law_562 1 rfl ?_
  refine r_aload_n (hL.1 ν) dL_law_563 3 rfl ?_
  refine r_iload_n (hL.1 ν) dL_law_564 0 rfl ?_
  refine r_iconst (hL.1 ν) (v := 1) dL_law_565 (by decide) ?_
  refine r_iadd (hL.1 ν) dL_law_566 ?_
  refine r_sld (hL.1 ν) hL.2.2 hx.1 dL_law_567 ?_
  refine r_aload_n (hL.1 ν) dL_law_568 3 rfl ?_
  refine r_iload_n (hL.1 ν) dL_law_569 0 rfl ?_
  refine r_iconst (hL.1 ν) (v := 2) dL_law_570 (by decide) ?_
  refine r_iadd (hL.1 ν) dL_law_571 ?_
  refine r_sld (hL.1 ν) hL.2.2 hx.2.1 dL_law_572 ?_
  refine sw_r ?_
  refine r_callV (hL.2.1 μ') 0 0 (As := [.int (xs (x + 1).toNatClampNeg), .int (xs (x + 2).toNatClampNeg)]) (rest := [.int r]) (st' := [.int r, .int r]) (res := some (.int r)) (μ' := ν') (mX8_change (xs (x + 1).toNatClampNeg) (xs (x + 2).toNatClampNeg) e2) ckV_L_73 ⟨rfl, rfl, by decide, by decide⟩ kyR0 rfl rfl rfl rfl (Nat.le_of_ble_eq_true rfl) dL_law_573 rfl ?_
  refine sw_c ?_
  exact r_icmp_eq (hL.1 ν') (tgt := 759) dL_law_576 (by decide) (fun _ => k μ' ν' h') (fun q => absurd rfl q)
theorem law_c14 {l : Launch} {D : va_G} {cI cH cT : ClassId} {aC aR : Nat → Nat → Nat} {X : Cx} {b L : Nat} {xs : Nat → Int32} (hL : HL l D cI cH cT aC aR X b L xs) {x : Int32} (hx : nx x L) {μ ν : Mu} (h : RelE μ ν) (k : ∀ μ' ν' : Mu, RelE μ' ν' → V (gA l D cI cH cT aC aR ν') X 4 μ' 759 (lvL b aC aR x) []) : V (gA l D cI cH cT aC aR ν) X 4 μ 581 (lvL b aC aR x) [] := by
  obtain ⟨r, μ', ν', e1, e2, h'⟩ := sim_all h (xs (x + 1).toNatClampNeg) (xs (x + 2).toNatClampNeg)
  refine r_aload_n (hL.1 ν) dL_law_581 2 rfl ?_
  refine r_aload_n (hL.1 ν) dL_law_582 3 rfl ?_
  refine r_iload_n (hL.1 ν) dL_law_583 0 rfl ?_
  refine r_iconst (hL.1 ν) (v := 1) dL_law_584 (by decide) ?_
  refine r_iadd (hL.1 ν) dL_law_585 ?_
  refine r_sld (hL.1 ν) hL.2.2 hx.1 dL_law_586 ?_
  refine r_aload_n (hL.1 ν) dL_law_587 3 rfl ?_
  refine r_iload_n (hL.1 ν) dL_law_588 0 rfl ?_
  refine r_iconst (hL.1 ν) (v := 2) dL_law_589 (by decide) ?_
  refine r_iadd (hL.1 ν) dL_law_590 ?_
  refine r_sld (hL.1 ν) hL.2.2 hx.2.1 dL_law_591 ?_
  refine r_callV (hL.1 ν) 0 0 (As := [.int (xs (x + 1).toNatClampNeg), .int (xs (x + 2).toNatClampNeg)]) (rest := []) (st' := [.int r]) (res := some (.int r)) (μ' := μ') (mX7_all (xs (x + 1).toNatClampNeg) (xs (x + 2).toNatClampNeg) e1) ckV_L_74 ⟨rfl, rfl, by decide, by decide⟩ kyC0 rfl rfl rfl rfl (Nat.le_of_ble_eq_true rfl) dL_law_592 rfl ?_
  refine r_aload_n (hL.1 ν) dL_law_595 1 rfl ?_
  refine r_aload_n (hL.1 ν) dL_law_596 3 rfl ?_
  refine r_iload_n (hL.1 ν) dL_law_597 0 rfl ?_
  refine r_iconst (hL.1 ν) (v := 1) dL_law_598 (by decide) ?_
  refine r_iadd (hL.1 ν) dL_law_599 ?_
  refine r_sld (hL.1 ν) hL.2.2 hx.1 dL_law_600 ?_
  refine r_aload_n (hL.1 ν) dL_law_601 3 rfl ?_
  refine r_iload_n (hL.1 ν) dL_law_602 0 rfl ?_
  refine r_iconst (hL.1 ν) (v := 2) dL_law_603 (by decide) ?_
  refine r_iadd (hL.1 ν) dL_law_604 ?_
  refine r_sld (hL.1 ν) hL.2.2 hx.2.1 dL_law_605 ?_
  refine sw_r ?_
  refine r_callV (hL.2.1 μ') 0 0 (As := [.int (xs (x + 1).toNatClampNeg), .int (xs (x + 2).toNatClampNeg)]) (rest := [.int r]) (st' := [.int r, .int r]) (res := some (.int r)) (μ' := ν') (mX8_all (xs (x + 1).toNatClampNeg) (xs (x + 2).toNatClampNeg) e2) ckV_L_77 ⟨rfl, rfl, by decide, by decide⟩ kyR0 rfl rfl rfl rfl (Nat.le_of_ble_eq_true rfl) dL_law_606 rfl ?_
  refine sw_c ?_
  exact r_icmp_eq (hL.1 ν') (tgt := 759) dL_law_609 (by decide) (fun _ => k μ' ν' h') (fun q => absurd rfl q)
theorem law_c15 {l : Launch} {D : va_G} {cI cH cT : ClassId} {aC aR : Nat → Nat → Nat} {X : Cx} {b L : Nat} {xs : Nat → Int32} (hL : HL l D cI cH cT aC aR X b L xs) {x : Int32} (hx : nx x L) {μ ν : Mu} (h : RelE μ ν) (k : ∀ μ' ν' : Mu, RelE μ' ν' → V (gA l D cI cH cT aC aR ν') X 4 μ' 759 (lvL b aC aR x) []) : V (gA l D cI cH cT aC aR ν) X 4 μ 614 (lvL b aC aR x) [] := by
  obtain ⟨r, e1, e2⟩ := sim_at h (xs (x + 1).toNatClampNeg) (xs (x + 2).toNatClampNeg)
  refine r_aload_n (hL.1 ν) dL_law_614 2 rfl ?_
  refine r_aload_n (hL.1 ν) dL_law_615 3 rfl ?_
  refine r_iload_n (hL.1 ν) dL_law_616 0 rfl ?_
  refine r_iconst (hL.1 ν) (v := 1) dL_law_617 (by decide) ?_
  refine r_iadd (hL.1 ν) dL_law_618 ?_
  refine r_sld (hL.1 ν) hL.2.2 hx.1 dL_law_619 ?_
  refine r_aload_n (hL.1 ν) dL_law_620 3 rfl ?_
  refine r_iload_n (hL.1 ν) dL_law_621 0 rfl ?_
  refine r_iconst (hL.1 ν) (v := 2) dL_law_622 (by decide) ?_
  refine r_iadd (hL.1 ν) dL_law_623 ?_
  refine r_sld (hL.1 ν) hL.2.2 hx.2.1 dL_law_624 ?_
  refine r_callV (hL.1 ν) 0 0 (As := [.int (xs (x + 1).toNatClampNeg), .int (xs (x + 2).toNatClampNeg)]) (rest := []) (st' := [.int r]) (res := some (.int r)) (μ' := μ) (mX7_at (xs (x + 1).toNatClampNeg) (xs (x + 2).toNatClampNeg) e1) ckV_L_78 ⟨rfl, rfl, by decide, by decide⟩ kyC0 rfl rfl rfl rfl (Nat.le_of_ble_eq_true rfl) dL_law_625 rfl ?_
  refine r_aload_n (hL.1 ν) dL_law_628 1 rfl ?_
  refine r_aload_n (hL.1 ν) dL_law_629 3 rfl ?_
  refine r_iload_n (hL.1 ν) dL_law_630 0 rfl ?_
  refine r_iconst (hL.1 ν) (v := 1) dL_law_631 (by decide) ?_
  refine r_iadd (hL.1 ν) dL_law_632 ?_
  refine r_sld (hL.1 ν) hL.2.2 hx.1 dL_law_633 ?_
  refine r_aload_n (hL.1 ν) dL_law_634 3 rfl ?_
  refine r_iload_n (hL.1 ν) dL_law_635 0 rfl ?_
  refine r_iconst (hL.1 ν) (v := 2) dL_law_636 (by decide) ?_
  refine r_iadd (hL.1 ν) dL_law_637 ?_
  refine r_sld (hL.1 ν) hL.2.2 hx.2.1 dL_law_638 ?_
  refine sw_r ?_
  refine r_callV (hL.2.1 μ) 0 0 (As := [.int (xs (x + 1).toNatClampNeg), .int (xs (x + 2).toNatClampNeg)]) (rest := [.int r]) (st' := [.int r, .int r]) (res := some (.int r)) (μ' := ν) (mX8_at (xs (x + 1).toNatClampNeg) (xs (x + 2).toNatClampNeg) e2) ckV_L_81 ⟨rfl, rfl, by decide, by decide⟩ kyR0 rfl rfl rfl rfl (Nat.le_of_ble_eq_true rfl) dL_law_639 rfl ?_
  refine sw_c ?_
  exact r_icmp_eq (hL.1 ν) (tgt := 759) dL_law_642 (by decide) (fun _ => k μ ν h) (fun q => absurd rfl q)
theorem law_c16 {l : Launch} {D : va_G} {cI cH cT : ClassId} {aC aR : Nat → Nat → Nat} {X : Cx} {b L : Nat} {xs : Nat → Int32} (hL : HL l D cI cH cT aC aR X b L xs) {x : Int32} (hx : nx x L) {μ ν : Mu} (h : RelE μ ν) (k : ∀ μ' ν' : Mu, RelE μ' ν' → V (gA l D cI cH cT aC aR ν') X 4 μ' 759 (lvL b aC aR x) []) : V (gA l D cI cH cT aC aR ν) X 4 μ 647 (lvL b aC aR x) [] := by
  obtain ⟨r, e1, e2⟩ := sim_whole h (xs (x + 1).toNatClampNeg) (xs (x + 2).toNatClampNeg)
  refine r_aload_n (hL.1 ν) dL_law_647 2 rfl ?_
  refine r_aload_n (hL.1 ν) dL_law_648 3 rfl ?_
  refine r_iload_n (hL.1 ν) dL_law_649 0 rfl ?_
  refine r_iconst (hL.1 ν) (v := 1) dL_law_650 (by decide) ?_
  refine r_iadd (hL.1 ν) dL_law_651 ?_
  refine r_sld (hL.1 ν) hL.2.2 hx.1 dL_law_652 ?_
  refine r_aload_n (hL.1 ν) dL_law_653 3 rfl ?_
  refine r_iload_n (hL.1 ν) dL_law_654 0 rfl ?_
  refine r_iconst (hL.1 ν) (v := 2) dL_law_655 (by decide) ?_
  refine r_iadd (hL.1 ν) dL_law_656 ?_
  refine r_sld (hL.1 ν) hL.2.2 hx.2.1 dL_law_657 ?_
  refine r_callV (hL.1 ν) 0 0 (As := [.int (xs (x + 1).toNatClampNeg), .int (xs (x + 2).toNatClampNeg)]) (rest := []) (st' := [.int r]) (res := some (.int r)) (μ' := μ) (mX7_whole (xs (x + 1).toNatClampNeg) (xs (x + 2).toNatClampNeg) e1) ckV_L_82 ⟨rfl, rfl, by decide, by decide⟩ kyC0 rfl rfl rfl rfl (Nat.le_of_ble_eq_true rfl) dL_law_658 rfl ?_
  refine r_aload_n (hL.1 ν) dL_law_661 1 rfl ?_
  refine r_aload_n (hL.1 ν) dL_law_662 3 rfl ?_
  refine r_iload_n (hL.1 ν) dL_law_663 0 rfl ?_
  refine r_iconst (hL.1 ν) (v := 1) dL_law_664 (by decide) ?_
  refine r_iadd (hL.1 ν) dL_law_665 ?_
  refine r_sld (hL.1 ν) hL.2.2 hx.1 dL_law_666 ?_
  refine r_aload_n (hL.1 ν) dL_law_667 3 rfl ?_
  refine r_iload_n (hL.1 ν) dL_law_668 0 rfl ?_
  refine r_iconst (hL.1 ν) (v := 2) dL_law_669 (by decide) ?_
  refine r_iadd (hL.1 ν) dL_law_670 ?_
  refine r_sld (hL.1 ν) hL.2.2 hx.2.1 dL_law_671 ?_
  refine sw_r ?_
  refine r_callV (hL.2.1 μ) 0 0 (As := [.int (xs (x + 1).toNatClampNeg), .int (xs (x + 2).toNatClampNeg)]) (rest := [.int r]) (st' := [.int r, .int r]) (res := some (.int r)) (μ' := ν) (mX8_whole (xs (x + 1).toNatClampNeg) (xs (x + 2).toNatClampNeg) e2) ckV_L_85 ⟨rfl, rfl, by decide, by decide⟩ kyR0 rfl rfl rfl rfl (Nat.le_of_ble_eq_true rfl) dL_law_672 rfl ?_
  refine sw_c ?_
  exact r_icmp_eq (hL.1 ν) (tgt := 759) dL_law_675 (by decide) (fun _ => k μ ν h) (fun q => absurd rfl q)
theorem law_c17 {l : Launch} {D : va_G} {cI cH cT : ClassId} {aC aR : Nat → Nat → Nat} {X : Cx} {b L : Nat} {xs : Nat → Int32} (hL : HL l D cI cH cT aC aR X b L xs) {x : Int32} (hx : nx x L) {μ ν : Mu} (h : RelE μ ν) (k : ∀ μ' ν' : Mu, RelE μ' ν' → V (gA l D cI cH cT aC aR ν') X 4 μ' 759 (lvL b aC aR x) []) : V (gA l D cI cH cT aC aR ν) X 4 μ 680 (lvL b aC aR x) [] := by
  obtain ⟨r, e1, e2⟩ := sim_same h (xs (x + 1).toNatClampNeg) (xs (x + 2).toNatClampNeg)
  refine r_aload_n (hL.1 ν) dL_law_680 2 rfl ?_
  refine r_aload_n (hL.1 ν) dL_law_681 3 rfl ?_
  refine r_iload_n (hL.1 ν) dL_law_682 0 rfl ?_
  refine r_iconst (hL.1 ν) (v := 1) dL_law_683 (by decide) ?_
  refine r_iadd (hL.1 ν) dL_law_684 ?_
  refine r_sld (hL.1 ν) hL.2.2 hx.1 dL_law_685 ?_
  refine r_aload_n (hL.1 ν) dL_law_686 3 rfl ?_
  refine r_iload_n (hL.1 ν) dL_law_687 0 rfl ?_
  refine r_iconst (hL.1 ν) (v := 2) dL_law_688 (by decide) ?_
  refine r_iadd (hL.1 ν) dL_law_689 ?_
  refine r_sld (hL.1 ν) hL.2.2 hx.2.1 dL_law_690 ?_
  refine r_callV (hL.1 ν) 0 0 (As := [.int (xs (x + 1).toNatClampNeg), .int (xs (x + 2).toNatClampNeg)]) (rest := []) (st' := [.int r]) (res := some (.int r)) (μ' := μ) (mX7_same (xs (x + 1).toNatClampNeg) (xs (x + 2).toNatClampNeg) e1) ckV_L_86 ⟨rfl, rfl, by decide, by decide⟩ kyC0 rfl rfl rfl rfl (Nat.le_of_ble_eq_true rfl) dL_law_691 rfl ?_
  refine r_aload_n (hL.1 ν) dL_law_694 1 rfl ?_
  refine r_aload_n (hL.1 ν) dL_law_695 3 rfl ?_
  refine r_iload_n (hL.1 ν) dL_law_696 0 rfl ?_
  refine r_iconst (hL.1 ν) (v := 1) dL_law_697 (by decide) ?_
  refine r_iadd (hL.1 ν) dL_law_698 ?_
  refine r_sld (hL.1 ν) hL.2.2 hx.1 dL_law_699 ?_
  refine r_aload_n (hL.1 ν) dL_law_700 3 rfl ?_
  refine r_iload_n (hL.1 ν) dL_law_701 0 rfl ?_
  refine r_iconst (hL.1 ν) (v := 2) dL_law_702 (by decide) ?_
  refine r_iadd (hL.1 ν) dL_law_703 ?_
  refine r_sld (hL.1 ν) hL.2.2 hx.2.1 dL_law_704 ?_
  refine sw_r ?_
  refine r_callV (hL.2.1 μ) 0 0 (As := [.int (xs (x + 1).toNatClampNeg), .int (xs (x + 2).toNatClampNeg)]) (rest := [.int r]) (st' := [.int r, .int r]) (res := some (.int r)) (μ' := ν) (mX8_same (xs (x + 1).toNatClampNeg) (xs (x + 2).toNatClampNeg) e2) ckV_L_89 ⟨rfl, rfl, by decide, by decide⟩ kyR0 rfl rfl rfl rfl (Nat.le_of_ble_eq_true rfl) dL_law_705 rfl ?_
  refine sw_c ?_
  exact r_icmp_eq (hL.1 ν) (tgt := 759) dL_law_708 (by decide) (fun _ => k μ ν h) (fun q => absurd rfl q)
theorem law_c18 {l : Launch} {D : va_G} {cI cH cT : ClassId} {aC aR : Nat → Nat → Nat} {X : Cx} {b L : Nat} {xs : Nat → Int32} (hL : HL l D cI cH cT aC aR X b L xs) {x : Int32} (hx : nx x L) {μ ν : Mu} (h : RelE μ ν) (k : ∀ μ' ν' : Mu, RelE μ' ν' → V (gA l D cI cH cT aC aR ν') X 4 μ' 759 (lvL b aC aR x) []) : V (gA l D cI cH cT aC aR ν) X 4 μ 713 (lvL b aC aR x) [] := by
  obtain ⟨r, e1, e2⟩ := sim_thrown h (xs (x + 1).toNatClampNeg)
  refine r_aload_n (hL.1 ν) dL_law_713 2 rfl ?_
  refine r_aload_n (hL.1 ν) dL_law_714 3 rfl ?_
  refine r_iload_n (hL.1 ν) dL_law_715 0 rfl ?_
  refine r_iconst (hL.1 ν) (v := 1) dL_law_716 (by decide) ?_
  refine r_iadd (hL.1 ν) dL_law_717 ?_
  refine r_sld (hL.1 ν) hL.2.2 hx.1 dL_law_718 ?_
  refine r_callV (hL.1 ν) 0 0 (As := [.int (xs (x + 1).toNatClampNeg)]) (rest := []) (st' := [.int r]) (res := some (.int r)) (μ' := μ) (mX7_thrown (xs (x + 1).toNatClampNeg) e1) ckV_L_90 ⟨rfl, rfl, by decide, by decide⟩ kyC0 rfl rfl rfl rfl (Nat.le_of_ble_eq_true rfl) dL_law_719 rfl ?_
  refine r_aload_n (hL.1 ν) dL_law_722 1 rfl ?_
  refine r_aload_n (hL.1 ν) dL_law_723 3 rfl ?_
  refine r_iload_n (hL.1 ν) dL_law_724 0 rfl ?_
  refine r_iconst (hL.1 ν) (v := 1) dL_law_725 (by decide) ?_
  refine r_iadd (hL.1 ν) dL_law_726 ?_
  refine r_sld (hL.1 ν) hL.2.2 hx.1 dL_law_727 ?_
  refine sw_r ?_
  refine r_callV (hL.2.1 μ) 0 0 (As := [.int (xs (x + 1).toNatClampNeg)]) (rest := [.int r]) (st' := [.int r, .int r]) (res := some (.int r)) (μ' := ν) (mX8_thrown (xs (x + 1).toNatClampNeg) e2) ckV_L_93 ⟨rfl, rfl, by decide, by decide⟩ kyR0 rfl rfl rfl rfl (Nat.le_of_ble_eq_true rfl) dL_law_728 rfl ?_
  refine sw_c ?_
  exact r_icmp_eq (hL.1 ν) (tgt := 759) dL_law_731 (by decide) (fun _ => k μ ν h) (fun q => absurd rfl q)
theorem law_c19 {l : Launch} {D : va_G} {cI cH cT : ClassId} {aC aR : Nat → Nat → Nat} {X : Cx} {b L : Nat} {xs : Nat → Int32} (hL : HL l D cI cH cT aC aR X b L xs) {x : Int32} (hx : nx x L) {μ ν : Mu} (h : RelE μ ν) (k : ∀ μ' ν' : Mu, RelE μ' ν' → V (gA l D cI cH cT aC aR ν') X 4 μ' 759 (lvL b aC aR x) []) : V (gA l D cI cH cT aC aR ν) X 4 μ 736 (lvL b aC aR x) [] := by
  obtain ⟨r, e1, e2⟩ := sim_count h (xs (x + 1).toNatClampNeg)
  refine r_aload_n (hL.1 ν) dL_law_736 2 rfl ?_
  refine r_aload_n (hL.1 ν) dL_law_737 3 rfl ?_
  refine r_iload_n (hL.1 ν) dL_law_738 0 rfl ?_
  refine r_iconst (hL.1 ν) (v := 1) dL_law_739 (by decide) ?_
  refine r_iadd (hL.1 ν) dL_law_740 ?_
  refine r_sld (hL.1 ν) hL.2.2 hx.1 dL_law_741 ?_
  refine r_callV (hL.1 ν) 0 0 (As := [.int (xs (x + 1).toNatClampNeg)]) (rest := []) (st' := [.int r]) (res := some (.int r)) (μ' := μ) (mX7_count (xs (x + 1).toNatClampNeg) e1) ckV_L_94 ⟨rfl, rfl, by decide, by decide⟩ kyC0 rfl rfl rfl rfl (Nat.le_of_ble_eq_true rfl) dL_law_742 rfl ?_
  refine r_aload_n (hL.1 ν) dL_law_745 1 rfl ?_
  refine r_aload_n (hL.1 ν) dL_law_746 3 rfl ?_
  refine r_iload_n (hL.1 ν) dL_law_747 0 rfl ?_
  refine r_iconst (hL.1 ν) (v := 1) dL_law_748 (by decide) ?_
  refine r_iadd (hL.1 ν) dL_law_749 ?_
  refine r_sld (hL.1 ν) hL.2.2 hx.1 dL_law_750 ?_
  refine sw_r ?_
  refine r_callV (hL.2.1 μ) 0 0 (As := [.int (xs (x + 1).toNatClampNeg)]) (rest := [.int r]) (st' := [.int r, .int r]) (res := some (.int r)) (μ' := ν) (mX8_count (xs (x + 1).toNatClampNeg) e2) ckV_L_97 ⟨rfl, rfl, by decide, by decide⟩ kyR0 rfl rfl rfl rfl (Nat.le_of_ble_eq_true rfl) dL_law_751 rfl ?_
  refine sw_c ?_
  exact r_icmp_eq (hL.1 ν) (tgt := 759) dL_law_754 (by decide) (fun _ => k μ ν h) (fun q => absurd rfl q)
theorem law_sw {l : Launch} {D : va_G} {cI cH cT : ClassId} {aC aR : Nat → Nat → Nat} {X : Cx} {b L : Nat} {xs : Nat → Int32} (hL : HL l D cI cH cT aC aR X b L xs) {x : Int32} (hx : nx x L) {μ ν : Mu} (h : RelE μ ν) (k : ∀ μ' ν' : Mu, RelE μ' ν' → V (gA l D cI cH cT aC aR ν') X 4 μ' 759 (lvL b aC aR x) []) (v : Int32) : V (gA l D cI cH cT aC aR ν) X 4 μ 32 (lvL b aC aR x) [.int v] := by
  by_cases c0 : v = 0
  · exact r_tsw (hL.1 ν) (tgt := 128) dL_law_32 0 c0 (by decide) (by decide) rfl (by decide) (law_c0 hL hx h k)
  by_cases c1 : v = 1
  · exact r_tsw (hL.1 ν) (tgt := 161) dL_law_32 1 c1 (by decide) (by decide) rfl (by decide) (law_c1 hL hx h k)
  by_cases c2 : v = 2
  · exact r_tsw (hL.1 ν) (tgt := 195) dL_law_32 2 c2 (by decide) (by decide) rfl (by decide) (law_c2 hL hx h k)
  by_cases c3 : v = 3
  · exact r_tsw (hL.1 ν) (tgt := 228) dL_law_32 3 c3 (by decide) (by decide) rfl (by decide) (law_c3 hL hx h k)
  by_cases c4 : v = 4
  · exact r_tsw (hL.1 ν) (tgt := 281) dL_law_32 4 c4 (by decide) (by decide) rfl (by decide) (law_c4 hL hx h k)
  by_cases c5 : v = 5
  · exact r_tsw (hL.1 ν) (tgt := 294) dL_law_32 5 c5 (by decide) (by decide) rfl (by decide) (law_c5 hL hx h k)
  by_cases c6 : v = 6
  · exact r_tsw (hL.1 ν) (tgt := 327) dL_law_32 6 c6 (by decide) (by decide) rfl (by decide) (law_c6 hL hx h k)
  by_cases c7 : v = 7
  · exact r_tsw (hL.1 ν) (tgt := 360) dL_law_32 7 c7 (by decide) (by decide) rfl (by decide) (law_c7 hL hx h k)
  by_cases c8 : v = 8
  · exact r_tsw (hL.1 ν) (tgt := 393) dL_law_32 8 c8 (by decide) (by decide) rfl (by decide) (law_c8 hL hx h k)
  by_cases c9 : v = 9
  · exact r_tsw (hL.1 ν) (tgt := 426) dL_law_32 9 c9 (by decide) (by decide) rfl (by decide) (law_c9 hL hx h k)
  by_cases c10 : v = 10
  · exact r_tsw (hL.1 ν) (tgt := 449) dL_law_32 10 c10 (by decide) (by decide) rfl (by decide) (law_c10 hL hx h k)
  by_cases c11 : v = 11
  · exact r_tsw (hL.1 ν) (tgt := 482) dL_law_32 11 c11 (by decide) (by decide) rfl (by decide) (law_c11 hL hx h k)
  by_cases c12 : v = 12
  · exact r_tsw (hL.1 ν) (tgt := 515) dL_law_32 12 c12 (by decide) (by decide) rfl (by decide) (law_c12 hL hx h k)
  by_cases c13 : v = 13
  · exact r_tsw (hL.1 ν) (tgt := 548) dL_law_32 13 c13 (by decide) (by decide) rfl (by decide) (law_c13 hL hx h k)
  by_cases c14 : v = 14
  · exact r_tsw (hL.1 ν) (tgt := 581) dL_law_32 14 c14 (by decide) (by decide) rfl (by decide) (law_c14 hL hx h k)
  by_cases c15 : v = 15
  · exact r_tsw (hL.1 ν) (tgt := 614) dL_law_32 15 c15 (by decide) (by decide) rfl (by decide) (law_c15 hL hx h k)
  by_cases c16 : v = 16
  · exact r_tsw (hL.1 ν) (tgt := 647) dL_law_32 16 c16 (by decide) (by decide) rfl (by decide) (law_c16 hL hx h k)
  by_cases c17 : v = 17
  · exact r_tsw (hL.1 ν) (tgt := 680) dL_law_32 17 c17 (by decide) (by decide) rfl (by decide) (law_c17 hL hx h k)
  by_cases c18 : v = 18
  · exact r_tsw (hL.1 ν) (tgt := 713) dL_law_32 18 c18 (by decide) (by decide) rfl (by decide) (law_c18 hL hx h k)
  by_cases c19 : v = 19
  · exact r_tsw (hL.1 ν) (tgt := 736) dL_law_32 19 c19 (by decide) (by decide) rfl (by decide) (law_c19 hL hx h k)
  have ho : v.toInt < 0 ∨ 19 < v.toInt := by
    refine sw_out 20 (by decide) (fun j hj => ?_)
    rcases (show j = 0 ∨ j = 1 ∨ j = 2 ∨ j = 3 ∨ j = 4 ∨ j = 5 ∨ j = 6 ∨ j = 7 ∨ j = 8 ∨ j = 9 ∨ j = 10 ∨ j = 11 ∨ j = 12 ∨ j = 13 ∨ j = 14 ∨ j = 15 ∨ j = 16 ∨ j = 17 ∨ j = 18 ∨ j = 19 by omega) with rfl | rfl | rfl | rfl | rfl | rfl | rfl | rfl | rfl | rfl | rfl | rfl | rfl | rfl | rfl | rfl | rfl | rfl | rfl | rfl
    · exact c0
    · exact c1
    · exact c2
    · exact c3
    · exact c4
    · exact c5
    · exact c6
    · exact c7
    · exact c8
    · exact c9
    · exact c10
    · exact c11
    · exact c12
    · exact c13
    · exact c14
    · exact c15
    · exact c16
    · exact c17
    · exact c18
    · exact c19
  exact r_tswo (hL.1 ν) (tgt := 759) dL_law_32 ho (by decide) (k μ ν h)
theorem gt_out {L i : Nat} (hL : L ≤ 2560) (hi : i < 2 ^ 31) (h : ¬ (nI L - 5 < nI i)) : i + 5 ≤ L := by
  have e5 : (5 : Int32) = nI 5 := by decide
  rcases Nat.lt_or_ge L 5 with q | q
  · refine absurd ?_ h
    have h0 : nI L - 5 < 0 := by
      rcases (show L = 0 ∨ L = 1 ∨ L = 2 ∨ L = 3 ∨ L = 4 by omega) with rfl | rfl | rfl | rfl | rfl <;> decide
    have h1 : (0 : Int32) ≤ nI i := nI_pos' hi
    exact Int32.lt_of_lt_of_le h0 h1
  · have e : nI L - 5 = nI (L - 5) := by
      rw [e5, show nI L = nI (L - 5) + nI 5 by rw [nI_add, show L - 5 + 5 = L by omega], Int32.add_sub_cancel]
    rw [e, nI_ltI (by omega) hi] at h
    omega
/-- THE LAW'S LOOP: at its head, with i numbers read, the two memories are related -/
theorem law_loop {l : Launch} {D : va_G} {cI cH cT : ClassId} {aC aR : Nat → Nat → Nat} {X : Cx} {b L : Nat} {xs : Nat → Int32} (hL : HL l D cI cH cT aC aR X b L xs) (hl : L ≤ 2560) (fin : ∀ (x : Int32) (μ ν : Mu), V (gA l D cI cH cT aC aR ν) X 4 μ 766 (lvL b aC aR x) [.int 1]) :
    ∀ (n i : Nat) (x : Int32) (μ ν : Mu), i ≤ L → L + 1 ≤ i + n → x = nI i → RelE μ ν → V (gA l D cI cH cT aC aR ν) X 4 μ 18 (lvL b aC aR x) [] := by
  intro n
  induction n with
  | zero =>
    intro i x μ ν h1 h2
    exact absurd h2 (by omega)
  | succ n ih =>
    intro i x μ ν hi hin ex h
    refine r_iload_n (hL.1 ν) dL_law_18 0 rfl ?_
    refine r_aload_n (hL.1 ν) dL_law_19 3 rfl ?_
    refine r_slen (hL.1 ν) hL.2.2 dL_law_20 ?_
    refine r_iconst (hL.1 ν) (v := 5) dL_law_21 (by decide) ?_
    refine r_isub (hL.1 ν) dL_law_22 ?_
    refine r_icmp_gt (hL.1 ν) (tgt := 765) dL_law_23 (by decide) (fun _ => ?_) (fun c1 => ?_)
    · refine r_iconst (hL.1 ν) (v := 1) dL_law_765 (by decide) ?_
      exact fin x μ ν
    · have hlt : i + 5 ≤ L := gt_out hl (by omega) (by rw [← ex]; exact c1)
      have a1 : x + 1 = nI (i + 1) := by rw [ex, ← nI_add]; rfl
      have a2 : x + 2 = nI (i + 2) := by rw [ex, ← nI_add]; rfl
      have a3 : x + 3 = nI (i + 3) := by rw [ex, ← nI_add]; rfl
      have a4 : x + 4 = nI (i + 4) := by rw [ex, ← nI_add]; rfl
      have h0 : vp_in x L := by rw [ex]; exact vp_in_nI (by omega) (by omega)
      have hx : nx x L := ⟨by rw [a1]; exact vp_in_nI (by omega) (by omega), by rw [a2]; exact vp_in_nI (by omega) (by omega), by rw [a3]; exact vp_in_nI (by omega) (by omega), by rw [a4]; exact vp_in_nI (by omega) (by omega)⟩
      refine r_aload_n (hL.1 ν) dL_law_26 3 rfl ?_
      refine r_iload_n (hL.1 ν) dL_law_27 0 rfl ?_
      refine r_sld (hL.1 ν) hL.2.2 h0 dL_law_28 ?_
      refine r_bipush (hL.1 ν) (v := 31) dL_law_29 (by decide) ?_
      refine r_iand (hL.1 ν) dL_law_31 ?_
      refine law_sw hL hx h (fun μ' ν' h' => ?_) _
      have a5 : x + 5 = nI (i + 5) := by rw [ex, ← nI_add]; rfl
      refine r_iinc (hL.1 ν') (j := 0) (v := x + 5) dL_law_759 rfl rfl (by decide) rfl ?_
      refine r_goto (hL.1 ν') (tgt := 18) dL_law_762 (by decide) ?_
      exact ih (i + 5) (x + 5) μ' ν' hlt (by omega) a5 h'

