abbrev rmX8_in : Room := { frames := 0, cells := 0, slots := 0, locals := 0 }
noncomputable def jX8_in (a1 : Int64) (a2 : Int64) (a3 : Int64) : Option (Int32) := if (lg_cmp a1 a2) < 0 then some 0 else if 0 < (lg_cmp a1 a3) then some 0 else some 1
set_option maxHeartbeats 4000000 in
set_option maxRecDepth 100000 in
theorem mX8_in {l : Launch} {D : va_G} {cI cH cT : ClassId} {ad : Nat → Nat → Nat} {Z : va_W} {μ : Mu} {r : Int32} (a1 : Int64) (a2 : Int64) (a3 : Int64) (h : jX8_in a1 a2 a3 = some r) : CT (gR l D cI cH cT ad Z) yX8_in (.code yX8_in cX8_in 6 (some .boolean) :: wsL_law) rmX8_in [.long a1, .long a2, .long a3] μ (some (.int r)) μ := by
  refine ct_of (own := RX8) (by decide) ⟨rfl, rfl⟩ (Nat.le_of_ble_eq_true rfl) rfl (fun X hX hQ => ?_)
  have hX : HX (gR l D cI cH cT ad Z) X cX8_in 6 RX8 rmX8_in (some .boolean) := hX
  show V (gR l D cI cH cT ad Z) X 6 μ 0 [(0, .long a1), (2, .long a2), (4, .long a3)] []
  unfold jX8_in at h
  refine r_lload_n hX dX8_in_0 0 rfl ?_
  refine r_lload_n hX dX8_in_1 1 rfl ?_
  refine r_lcmp hX dX8_in_2 ?_
  refine r_if_lt hX (tgt := 17) dX8_in_3 (by decide) (fun hc1 => ?_) (fun hc1 => ?_)
  · have h := ite_t hc1 h
    refine r_iconst hX dX8_in_17 (v := 0) (by decide) ?_
    exact r_zret hX (Or.inl rfl) hQ (Option.some.inj h) rfl dX8_in_18
  · have h := ite_f hc1 h
    refine r_lload_n hX dX8_in_6 0 rfl ?_
    refine r_lload hX dX8_in_7 2 rfl ?_
    refine r_lcmp hX dX8_in_9 ?_
    refine r_if_gt hX (tgt := 17) dX8_in_10 (by decide) (fun hc2 => ?_) (fun hc2 => ?_)
    · have h := ite_t hc2 h
      refine r_iconst hX dX8_in_17 (v := 0) (by decide) ?_
      exact r_zret hX (Or.inl rfl) hQ (Option.some.inj h) rfl dX8_in_18
    · have h := ite_f hc2 h
      refine r_iconst hX dX8_in_13 (v := 1) (by decide) ?_
      refine r_goto hX (tgt := 18) dX8_in_14 (by decide) ?_
      exact r_zret hX (Or.inr rfl) hQ (Option.some.inj h) rfl dX8_in_18
abbrev rmX8_isCard : Room := { frames := 1, cells := 0, slots := 0, locals := 25 }
noncomputable def jX8_isCard (μ : Mu) (a1 : Int32) : Option (Int32) := (jX8_in a1.toInt64 0 (((μ 0 0 0) - 1).toInt64)).bind (fun r2 => if r2 = 0 ∨ r2 = 1 then some r2 else none)
set_option maxHeartbeats 4000000 in
set_option maxRecDepth 100000 in
theorem mX8_isCard {l : Launch} {D : va_G} {cI cH cT : ClassId} {ad : Nat → Nat → Nat} {Z : va_W} {μ : Mu} {r : Int32} (a1 : Int32) (h : jX8_isCard μ a1 = some r) : CT (gR l D cI cH cT ad Z) yX8_isCard (.code yX8_isCard cX8_isCard 2 (some .boolean) :: wsL_law) rmX8_isCard [.ref (ad 0 0), .int a1] μ (some (.int r)) μ := by
  refine ct_of (own := RX8) (by decide) ⟨rfl, rfl⟩ (Nat.le_of_ble_eq_true rfl) rfl (fun X hX hQ => ?_)
  have hX : HX (gR l D cI cH cT ad Z) X cX8_isCard 2 RX8 rmX8_isCard (some .boolean) := hX
  show V (gR l D cI cH cT ad Z) X 2 μ 0 [(0, .ref (ad 0 0)), (1, .int a1)] []
  unfold jX8_isCard at h
  refine r_iload_n hX dX8_isCard_0 1 rfl ?_
  refine r_i2l hX dX8_isCard_1 ?_
  refine r_lconst hX dX8_isCard_2 (v := 0) (by decide) ?_
  refine r_aload_n hX dX8_isCard_3 0 rfl ?_
  refine r_get hX 0 0 kyR0 rfl rfl inlX8 0 (by decide) tw3_40 (v := .int (μ 0 0 0)) rfl dX8_isCard_4 ?_
  refine r_iconst hX dX8_isCard_7 (v := 1) (by decide) ?_
  refine r_isub hX dX8_isCard_8 ?_
  refine r_i2l hX dX8_isCard_9 ?_
  obtain ⟨r2, hq1, h⟩ := bind_ex h
  refine r_callS hX (As := [.long a1.toInt64, .long 0, .long (((μ 0 0 0) - 1).toInt64)]) (rest := []) (st' := [.int r2]) (res := (some (.int r2))) (μ' := μ) (mX8_in a1.toInt64 0 (((μ 0 0 0) - 1).toInt64) hq1) ckS_X8_68 ⟨rfl, rfl, by decide, by decide⟩ rfl rfl (Nat.le_of_ble_eq_true rfl) dX8_isCard_10 rfl ?_
  obtain ⟨hz3, h⟩ := ite_some h
  exact r_zret hX hz3 hQ (Option.some.inj h) rfl dX8_isCard_13
abbrev rmX8_isHook : Room := { frames := 1, cells := 0, slots := 0, locals := 25 }
noncomputable def jX8_isHook (μ : Mu) (a1 : Int32) : Option (Int32) := (jX8_in a1.toInt64 0 (((μ 0 0 3) - 1).toInt64)).bind (fun r2 => if r2 = 0 ∨ r2 = 1 then some r2 else none)
set_option maxHeartbeats 4000000 in
set_option maxRecDepth 100000 in
theorem mX8_isHook {l : Launch} {D : va_G} {cI cH cT : ClassId} {ad : Nat → Nat → Nat} {Z : va_W} {μ : Mu} {r : Int32} (a1 : Int32) (h : jX8_isHook μ a1 = some r) : CT (gR l D cI cH cT ad Z) yX8_isHook (.code yX8_isHook cX8_isHook 2 (some .boolean) :: wsL_law) rmX8_isHook [.ref (ad 0 0), .int a1] μ (some (.int r)) μ := by
  refine ct_of (own := RX8) (by decide) ⟨rfl, rfl⟩ (Nat.le_of_ble_eq_true rfl) rfl (fun X hX hQ => ?_)
  have hX : HX (gR l D cI cH cT ad Z) X cX8_isHook 2 RX8 rmX8_isHook (some .boolean) := hX
  show V (gR l D cI cH cT ad Z) X 2 μ 0 [(0, .ref (ad 0 0)), (1, .int a1)] []
  unfold jX8_isHook at h
  refine r_iload_n hX dX8_isHook_0 1 rfl ?_
  refine r_i2l hX dX8_isHook_1 ?_
  refine r_lconst hX dX8_isHook_2 (v := 0) (by decide) ?_
  refine r_aload_n hX dX8_isHook_3 0 rfl ?_
  refine r_get hX 0 0 kyR0 rfl rfl inlX8 3 (by decide) tw3_43 (v := .int (μ 0 0 3)) rfl dX8_isHook_4 ?_
  refine r_iconst hX dX8_isHook_7 (v := 1) (by decide) ?_
  refine r_isub hX dX8_isHook_8 ?_
  refine r_i2l hX dX8_isHook_9 ?_
  obtain ⟨r2, hq1, h⟩ := bind_ex h
  refine r_callS hX (As := [.long a1.toInt64, .long 0, .long (((μ 0 0 3) - 1).toInt64)]) (rest := []) (st' := [.int r2]) (res := (some (.int r2))) (μ' := μ) (mX8_in a1.toInt64 0 (((μ 0 0 3) - 1).toInt64) hq1) ckS_X8_68 ⟨rfl, rfl, by decide, by decide⟩ rfl rfl (Nat.le_of_ble_eq_true rfl) dX8_isHook_10 rfl ?_
  obtain ⟨hz3, h⟩ := ite_some h
  exact r_zret hX hz3 hQ (Option.some.inj h) rfl dX8_isHook_13
abbrev rmX8_isTray : Room := { frames := 1, cells := 0, slots := 0, locals := 25 }
noncomputable def jX8_isTray (μ : Mu) (a1 : Int32) : Option (Int32) := (jX8_in a1.toInt64 0 (((μ 0 0 14) - 1).toInt64)).bind (fun r2 => if r2 = 0 ∨ r2 = 1 then some r2 else none)
set_option maxHeartbeats 4000000 in
set_option maxRecDepth 100000 in
theorem mX8_isTray {l : Launch} {D : va_G} {cI cH cT : ClassId} {ad : Nat → Nat → Nat} {Z : va_W} {μ : Mu} {r : Int32} (a1 : Int32) (h : jX8_isTray μ a1 = some r) : CT (gR l D cI cH cT ad Z) yX8_isTray (.code yX8_isTray cX8_isTray 2 (some .boolean) :: wsL_law) rmX8_isTray [.ref (ad 0 0), .int a1] μ (some (.int r)) μ := by
  refine ct_of (own := RX8) (by decide) ⟨rfl, rfl⟩ (Nat.le_of_ble_eq_true rfl) rfl (fun X hX hQ => ?_)
  have hX : HX (gR l D cI cH cT ad Z) X cX8_isTray 2 RX8 rmX8_isTray (some .boolean) := hX
  show V (gR l D cI cH cT ad Z) X 2 μ 0 [(0, .ref (ad 0 0)), (1, .int a1)] []
  unfold jX8_isTray at h
  refine r_iload_n hX dX8_isTray_0 1 rfl ?_
  refine r_i2l hX dX8_isTray_1 ?_
  refine r_lconst hX dX8_isTray_2 (v := 0) (by decide) ?_
  refine r_aload_n hX dX8_isTray_3 0 rfl ?_
  refine r_get hX 0 0 kyR0 rfl rfl inlX8 14 (by decide) tw3_54 (v := .int (μ 0 0 14)) rfl dX8_isTray_4 ?_
  refine r_iconst hX dX8_isTray_7 (v := 1) (by decide) ?_
  refine r_isub hX dX8_isTray_8 ?_
  refine r_i2l hX dX8_isTray_9 ?_
  obtain ⟨r2, hq1, h⟩ := bind_ex h
  refine r_callS hX (As := [.long a1.toInt64, .long 0, .long (((μ 0 0 14) - 1).toInt64)]) (rest := []) (st' := [.int r2]) (res := (some (.int r2))) (μ' := μ) (mX8_in a1.toInt64 0 (((μ 0 0 14) - 1).toInt64) hq1) ckS_X8_68 ⟨rfl, rfl, by decide, by decide⟩ rfl rfl (Nat.le_of_ble_eq_true rfl) dX8_isTray_10 rfl ?_
  obtain ⟨hz3, h⟩ := ite_some h
  exact r_zret hX hz3 hQ (Option.some.inj h) rfl dX8_isTray_13
abbrev rmX8_compares : Room := { frames := 0, cells := 0, slots := 0, locals := 0 }
noncomputable def jX8_compares (μ : Mu) (a1 : Int32) : Option (Int32) := if inb a1 8 = true then if 2 < (μ 4 0 a1.toNatClampNeg) then some 0 else some 1 else none
set_option maxHeartbeats 4000000 in
set_option maxRecDepth 100000 in
theorem mX8_compares {l : Launch} {D : va_G} {cI cH cT : ClassId} {ad : Nat → Nat → Nat} {Z : va_W} {μ : Mu} {r : Int32} (a1 : Int32) (h : jX8_compares μ a1 = some r) : CT (gR l D cI cH cT ad Z) yX8_compares (.code yX8_compares cX8_compares 2 (some .boolean) :: wsL_law) rmX8_compares [.ref (ad 0 0), .int a1] μ (some (.int r)) μ := by
  refine ct_of (own := RX8) (by decide) ⟨rfl, rfl⟩ (Nat.le_of_ble_eq_true rfl) rfl (fun X hX hQ => ?_)
  have hX : HX (gR l D cI cH cT ad Z) X cX8_compares 2 RX8 rmX8_compares (some .boolean) := hX
  show V (gR l D cI cH cT ad Z) X 2 μ 0 [(0, .ref (ad 0 0)), (1, .int a1)] []
  unfold jX8_compares at h
  refine r_aload_n hX dX8_compares_0 0 rfl ?_
  refine r_get hX 0 0 kyR0 rfl rfl inlX8 4 (by decide) tw3_44 (v := .ref (ad 4 0)) rfl dX8_compares_1 ?_
  refine r_iload_n hX dX8_compares_4 1 rfl ?_
  obtain ⟨hb1, h⟩ := ite_some h
  refine r_iald hX 4 0 kyR4 rfl (t0 := 0) rfl hb1 dX8_compares_5 ?_
  refine r_iconst hX dX8_compares_6 (v := 2) (by decide) ?_
  refine r_icmp_gt hX (tgt := 14) dX8_compares_7 (by decide) (fun hc2 => ?_) (fun hc2 => ?_)
  · have h := ite_t hc2 h
    refine r_iconst hX dX8_compares_14 (v := 0) (by decide) ?_
    exact r_zret hX (Or.inl rfl) hQ (Option.some.inj h) rfl dX8_compares_15
  · have h := ite_f hc2 h
    refine r_iconst hX dX8_compares_10 (v := 1) (by decide) ?_
    refine r_goto hX (tgt := 15) dX8_compares_11 (by decide) ?_
    exact r_zret hX (Or.inr rfl) hQ (Option.some.inj h) rfl dX8_compares_15
abbrev rmX8_card : Room := { frames := 1, cells := 0, slots := 0, locals := 25 }
noncomputable def jX8_card (μ : Mu) (a1 : Int32) (a2 : Int32) : Option (Int32 × Mu) := (jX8_in a2.toInt64 0 (99)).bind (fun r2 => if r2 = 0 then some ((-1), μ) else if (μ 0 0 0) = 120 then some ((-3), μ) else if inb (μ 0 0 0) 120 = true then mst (mu_st μ 1 0 (μ 0 0 0).toNatClampNeg a1) (fun μ6 => if inb (μ6 0 0 0) 120 = true then mst (mu_st μ6 2 0 (μ6 0 0 0).toNatClampNeg a2) (fun μ8 => mst (mu_st μ8 0 0 0 ((μ8 0 0 0) + 1)) (fun μ9 => some ((μ9 0 0 0) - 1, μ9))) else none) else none)
set_option maxHeartbeats 4000000 in
set_option maxRecDepth 100000 in
theorem mX8_card {l : Launch} {D : va_G} {cI cH cT : ClassId} {ad : Nat → Nat → Nat} {Z : va_W} {μ : Mu} {r : Int32} {μ' : Mu} (a1 : Int32) (a2 : Int32) (h : jX8_card μ a1 a2 = some (r, μ')) : CT (gR l D cI cH cT ad Z) yX8_card (.code yX8_card cX8_card 3 (some .int) :: wsL_law) rmX8_card [.ref (ad 0 0), .int a1, .int a2] μ (some (.int r)) μ' := by
  refine ct_of (own := RX8) (by decide) ⟨rfl, rfl⟩ (Nat.le_of_ble_eq_true rfl) rfl (fun X hX hQ => ?_)
  have hX : HX (gR l D cI cH cT ad Z) X cX8_card 3 RX8 rmX8_card (some .int) := hX
  show V (gR l D cI cH cT ad Z) X 3 μ 0 [(0, .ref (ad 0 0)), (1, .int a1), (2, .int a2)] []
  unfold jX8_card at h
  refine r_iload_n hX dX8_card_0 2 rfl ?_
  refine r_i2l hX dX8_card_1 ?_
  refine r_lconst hX dX8_card_2 (v := 0) (by decide) ?_
  refine r_ldc2 hX dX8_card_3 tw3_132 ?_
  obtain ⟨r2, hq1, h⟩ := bind_ex h
  refine r_callS hX (As := [.long a2.toInt64, .long 0, .long (99)]) (rest := []) (st' := [.int r2]) (res := (some (.int r2))) (μ' := μ) (mX8_in a2.toInt64 0 (99) hq1) ckS_X8_68 ⟨rfl, rfl, by decide, by decide⟩ rfl rfl (Nat.le_of_ble_eq_true rfl) dX8_card_6 rfl ?_
  refine r_if_ne hX (tgt := 14) dX8_card_9 (by decide) (fun hc3 => ?_) (fun hc3 => ?_)
  · have h := ite_f hc3 h
    refine r_aload_n hX dX8_card_14 0 rfl ?_
    refine r_get hX 0 0 kyR0 rfl rfl inlX8 0 (by decide) tw3_40 (v := .int (μ 0 0 0)) rfl dX8_card_15 ?_
    refine r_bipush hX dX8_card_18 (v := 120) (by decide) ?_
    refine r_icmp_ne hX (tgt := 26) dX8_card_20 (by decide) (fun hc4 => ?_) (fun hc4 => ?_)
    · have h := ite_f hc4 h
      refine r_aload_n hX dX8_card_26 0 rfl ?_
      refine r_get hX 0 0 kyR0 rfl rfl inlX8 1 (by decide) tw3_41 (v := .ref (ad 1 0)) rfl dX8_card_27 ?_
      refine r_aload_n hX dX8_card_30 0 rfl ?_
      refine r_get hX 0 0 kyR0 rfl rfl inlX8 0 (by decide) tw3_40 (v := .int (μ 0 0 0)) rfl dX8_card_31 ?_
      refine r_iload_n hX dX8_card_34 1 rfl ?_
      obtain ⟨hb5, h⟩ := ite_some h
      refine r_iast hX 1 0 kyR1 (fun _ => rfl) (t0 := 0) rfl hb5 dX8_card_35 (fun μ6 eμ6 => ?_)
      have h := mst_at eμ6 h
      refine r_aload_n hX dX8_card_36 0 rfl ?_
      refine r_get hX 0 0 kyR0 rfl rfl inlX8 2 (by decide) tw3_42 (v := .ref (ad 2 0)) rfl dX8_card_37 ?_
      refine r_aload_n hX dX8_card_40 0 rfl ?_
      refine r_get hX 0 0 kyR0 rfl rfl inlX8 0 (by decide) tw3_40 (v := .int (μ6 0 0 0)) rfl dX8_card_41 ?_
      refine r_iload_n hX dX8_card_44 2 rfl ?_
      obtain ⟨hb7, h⟩ := ite_some h
      refine r_iast hX 2 0 kyR2 (fun _ => rfl) (t0 := 0) rfl hb7 dX8_card_45 (fun μ8 eμ8 => ?_)
      have h := mst_at eμ8 h
      refine r_aload_n hX dX8_card_46 0 rfl ?_
      refine r_dup hX dX8_card_47 rfl ?_
      refine r_get hX 0 0 kyR0 rfl rfl inlX8 0 (by decide) tw3_40 (v := .int (μ8 0 0 0)) rfl dX8_card_48 ?_
      refine r_iconst hX dX8_card_51 (v := 1) (by decide) ?_
      refine r_iadd hX dX8_card_52 ?_
      refine r_put hX 0 0 kyR0 rfl rfl inlX8 tyX8 tyX8_ok nmX8 0 (by decide) tw3_40 rfl (tyX8_ok 0 (by decide)) rfl rfl (Nat.le_of_ble_eq_true rfl) rfl dX8_card_53 (fun μ9 eμ9 => ?_)
      have h := mst_at eμ9 h
      refine r_aload_n hX dX8_card_56 0 rfl ?_
      refine r_get hX 0 0 kyR0 rfl rfl inlX8 0 (by decide) tw3_40 (v := .int (μ9 0 0 0)) rfl dX8_card_57 ?_
      refine r_iconst hX dX8_card_60 (v := 1) (by decide) ?_
      refine r_isub hX dX8_card_61 ?_
      exact r_iret hX hQ (pr1 h) (pr2 h) dX8_card_62
    · have h := ite_t hc4 h
      refine r_bipush hX dX8_card_23 (v := (-3)) (by decide) ?_
      exact r_iret hX hQ (pr1 h) (pr2 h) dX8_card_25
  · have h := ite_t hc3 h
    refine r_iconst hX dX8_card_12 (v := (-1)) (by decide) ?_
    exact r_iret hX hQ (pr1 h) (pr2 h) dX8_card_13
abbrev rmX8_told : Room := { frames := 2, cells := 0, slots := 0, locals := 46 }
noncomputable def jX8_told (μ : Mu) (a1 : Int32) (a2 : Int32) : Option (Int64) := (jX8_isCard μ a1).bind (fun r2 => if r2 = 0 then some (-10000000000) else (jX8_in a2.toInt64 0 1).bind (fun r5 => if r5 = 0 then some (-10000000000) else if a2 = 0 then if inb a1 120 = true then some ((μ 1 0 a1.toNatClampNeg).toInt64) else none else if inb a1 120 = true then some ((μ 2 0 a1.toNatClampNeg).toInt64) else none))
set_option maxHeartbeats 4000000 in
set_option maxRecDepth 100000 in
theorem mX8_told {l : Launch} {D : va_G} {cI cH cT : ClassId} {ad : Nat → Nat → Nat} {Z : va_W} {μ : Mu} {r : Int64} (a1 : Int32) (a2 : Int32) (h : jX8_told μ a1 a2 = some r) : CT (gR l D cI cH cT ad Z) yX8_told (.code yX8_told cX8_told 3 (some .long) :: wsL_law) rmX8_told [.ref (ad 0 0), .int a1, .int a2] μ (some (.long r)) μ := by
  refine ct_of (own := RX8) (by decide) ⟨rfl, rfl⟩ (Nat.le_of_ble_eq_true rfl) rfl (fun X hX hQ => ?_)
  have hX : HX (gR l D cI cH cT ad Z) X cX8_told 3 RX8 rmX8_told (some .long) := hX
  show V (gR l D cI cH cT ad Z) X 3 μ 0 [(0, .ref (ad 0 0)), (1, .int a1), (2, .int a2)] []
  unfold jX8_told at h
  refine r_aload_n hX dX8_told_0 0 rfl ?_
  refine r_iload_n hX dX8_told_1 1 rfl ?_
  obtain ⟨r2, hq1, h⟩ := bind_ex h
  refine r_callV hX 0 0 (As := [.int a1]) (rest := []) (st' := [.int r2]) (res := (some (.int r2))) (μ' := μ) (mX8_isCard a1 hq1) ckV_X8_80 ⟨rfl, rfl, by decide, by decide⟩ kyR0 rfl rfl rfl rfl (Nat.le_of_ble_eq_true rfl) dX8_told_2 rfl ?_
  refine r_if_eq hX (tgt := 18) dX8_told_5 (by decide) (fun hc3 => ?_) (fun hc3 => ?_)
  · have h := ite_t hc3 h
    refine r_ldc2 hX dX8_told_18 tw3_144 ?_
    refine r_goto hX (tgt := 45) dX8_told_21 (by decide) ?_
    exact r_lret hX hQ (Option.some.inj h) rfl dX8_told_45
  · have h := ite_f hc3 h
    refine r_iload_n hX dX8_told_8 2 rfl ?_
    refine r_i2l hX dX8_told_9 ?_
    refine r_lconst hX dX8_told_10 (v := 0) (by decide) ?_
    refine r_lconst hX dX8_told_11 (v := 1) (by decide) ?_
    obtain ⟨r5, hq4, h⟩ := bind_ex h
    refine r_callS hX (As := [.long a2.toInt64, .long 0, .long 1]) (rest := []) (st' := [.int r5]) (res := (some (.int r5))) (μ' := μ) (mX8_in a2.toInt64 0 1 hq4) ckS_X8_68 ⟨rfl, rfl, by decide, by decide⟩ rfl rfl (Nat.le_of_ble_eq_true rfl) dX8_told_12 rfl ?_
    refine r_if_ne hX (tgt := 24) dX8_told_15 (by decide) (fun hc6 => ?_) (fun hc6 => ?_)
    · have h := ite_f hc6 h
      refine r_iload_n hX dX8_told_24 2 rfl ?_
      refine r_if_ne hX (tgt := 38) dX8_told_25 (by decide) (fun hc7 => ?_) (fun hc7 => ?_)
      · have h := ite_f hc7 h
        refine r_aload_n hX dX8_told_38 0 rfl ?_
        refine r_get hX 0 0 kyR0 rfl rfl inlX8 2 (by decide) tw3_42 (v := .ref (ad 2 0)) rfl dX8_told_39 ?_
        refine r_iload_n hX dX8_told_42 1 rfl ?_
        obtain ⟨hb8, h⟩ := ite_some h
        refine r_iald hX 2 0 kyR2 rfl (t0 := 0) rfl hb8 dX8_told_43 ?_
        refine r_i2l hX dX8_told_44 ?_
        exact r_lret hX hQ (Option.some.inj h) rfl dX8_told_45
      · have h := ite_t hc7 h
        refine r_aload_n hX dX8_told_28 0 rfl ?_
        refine r_get hX 0 0 kyR0 rfl rfl inlX8 1 (by decide) tw3_41 (v := .ref (ad 1 0)) rfl dX8_told_29 ?_
        refine r_iload_n hX dX8_told_32 1 rfl ?_
        obtain ⟨hb9, h⟩ := ite_some h
        refine r_iald hX 1 0 kyR1 rfl (t0 := 0) rfl hb9 dX8_told_33 ?_
        refine r_i2l hX dX8_told_34 ?_
        refine r_goto hX (tgt := 45) dX8_told_35 (by decide) ?_
        exact r_lret hX hQ (Option.some.inj h) rfl dX8_told_45
    · have h := ite_t hc6 h
      refine r_ldc2 hX dX8_told_18 tw3_144 ?_
      refine r_goto hX (tgt := 45) dX8_told_21 (by decide) ?_
      exact r_lret hX hQ (Option.some.inj h) rfl dX8_told_45
abbrev rmX8_hook : Room := { frames := 1, cells := 0, slots := 0, locals := 25 }
noncomputable def jX8_hook (μ : Mu) (a1 : Int32) (a2 : Int32) : Option (Int32 × Mu) := (jX8_in a1.toInt64 0 (4)).bind (fun r2 => if r2 = 0 then some ((-1), μ) else if (μ 0 0 3) = 8 then some ((-3), μ) else if inb (μ 0 0 3) 8 = true then mst (mu_st μ 4 0 (μ 0 0 3).toNatClampNeg a1) (fun μ6 => if inb (μ6 0 0 3) 8 = true then mst (mu_st μ6 5 0 (μ6 0 0 3).toNatClampNeg a2) (fun μ8 => mst (mu_st μ8 0 0 3 ((μ8 0 0 3) + 1)) (fun μ9 => some ((μ9 0 0 3) - 1, μ9))) else none) else none)
set_option maxHeartbeats 4000000 in
set_option maxRecDepth 100000 in
theorem mX8_hook {l : Launch} {D : va_G} {cI cH cT : ClassId} {ad : Nat → Nat → Nat} {Z : va_W} {μ : Mu} {r : Int32} {μ' : Mu} (a1 : Int32) (a2 : Int32) (h : jX8_hook μ a1 a2 = some (r, μ')) : CT (gR l D cI cH cT ad Z) yX8_hook (.code yX8_hook cX8_hook 3 (some .int) :: wsL_law) rmX8_hook [.ref (ad 0 0), .int a1, .int a2] μ (some (.int r)) μ' := by
  refine ct_of (own := RX8) (by decide) ⟨rfl, rfl⟩ (Nat.le_of_ble_eq_true rfl) rfl (fun X hX hQ => ?_)
  have hX : HX (gR l D cI cH cT ad Z) X cX8_hook 3 RX8 rmX8_hook (some .int) := hX
  show V (gR l D cI cH cT ad Z) X 3 μ 0 [(0, .ref (ad 0 0)), (1, .int a1), (2, .int a2)] []
  unfold jX8_hook at h
  refine r_iload_n hX dX8_hook_0 1 rfl ?_
  refine r_i2l hX dX8_hook_1 ?_
  refine r_lconst hX dX8_hook_2 (v := 0) (by decide) ?_
  refine r_ldc2 hX dX8_hook_3 tw3_149 ?_
  obtain ⟨r2, hq1, h⟩ := bind_ex h
  refine r_callS hX (As := [.long a1.toInt64, .long 0, .long (4)]) (rest := []) (st' := [.int r2]) (res := (some (.int r2))) (μ' := μ) (mX8_in a1.toInt64 0 (4) hq1) ckS_X8_68 ⟨rfl, rfl, by decide, by decide⟩ rfl rfl (Nat.le_of_ble_eq_true rfl) dX8_hook_6 rfl ?_
  refine r_if_ne hX (tgt := 14) dX8_hook_9 (by decide) (fun hc3 => ?_) (fun hc3 => ?_)
  · have h := ite_f hc3 h
    refine r_aload_n hX dX8_hook_14 0 rfl ?_
    refine r_get hX 0 0 kyR0 rfl rfl inlX8 3 (by decide) tw3_43 (v := .int (μ 0 0 3)) rfl dX8_hook_15 ?_
    refine r_bipush hX dX8_hook_18 (v := 8) (by decide) ?_
    refine r_icmp_ne hX (tgt := 26) dX8_hook_20 (by decide) (fun hc4 => ?_) (fun hc4 => ?_)
    · have h := ite_f hc4 h
      refine r_aload_n hX dX8_hook_26 0 rfl ?_
      refine r_get hX 0 0 kyR0 rfl rfl inlX8 4 (by decide) tw3_44 (v := .ref (ad 4 0)) rfl dX8_hook_27 ?_
      refine r_aload_n hX dX8_hook_30 0 rfl ?_
      refine r_get hX 0 0 kyR0 rfl rfl inlX8 3 (by decide) tw3_43 (v := .int (μ 0 0 3)) rfl dX8_hook_31 ?_
      refine r_iload_n hX dX8_hook_34 1 rfl ?_
      obtain ⟨hb5, h⟩ := ite_some h
      refine r_iast hX 4 0 kyR4 (fun _ => rfl) (t0 := 0) rfl hb5 dX8_hook_35 (fun μ6 eμ6 => ?_)
      have h := mst_at eμ6 h
      refine r_aload_n hX dX8_hook_36 0 rfl ?_
      refine r_get hX 0 0 kyR0 rfl rfl inlX8 5 (by decide) tw3_45 (v := .ref (ad 5 0)) rfl dX8_hook_37 ?_
      refine r_aload_n hX dX8_hook_40 0 rfl ?_
      refine r_get hX 0 0 kyR0 rfl rfl inlX8 3 (by decide) tw3_43 (v := .int (μ6 0 0 3)) rfl dX8_hook_41 ?_
      refine r_iload_n hX dX8_hook_44 2 rfl ?_
      obtain ⟨hb7, h⟩ := ite_some h
      refine r_iast hX 5 0 kyR5 (fun _ => rfl) (t0 := 0) rfl hb7 dX8_hook_45 (fun μ8 eμ8 => ?_)
      have h := mst_at eμ8 h
      refine r_aload_n hX dX8_hook_46 0 rfl ?_
      refine r_dup hX dX8_hook_47 rfl ?_
      refine r_get hX 0 0 kyR0 rfl rfl inlX8 3 (by decide) tw3_43 (v := .int (μ8 0 0 3)) rfl dX8_hook_48 ?_
      refine r_iconst hX dX8_hook_51 (v := 1) (by decide) ?_
      refine r_iadd hX dX8_hook_52 ?_
      refine r_put hX 0 0 kyR0 rfl rfl inlX8 tyX8 tyX8_ok nmX8 3 (by decide) tw3_43 rfl (tyX8_ok 3 (by decide)) rfl rfl (Nat.le_of_ble_eq_true rfl) rfl dX8_hook_53 (fun μ9 eμ9 => ?_)
      have h := mst_at eμ9 h
      refine r_aload_n hX dX8_hook_56 0 rfl ?_
      refine r_get hX 0 0 kyR0 rfl rfl inlX8 3 (by decide) tw3_43 (v := .int (μ9 0 0 3)) rfl dX8_hook_57 ?_
      refine r_iconst hX dX8_hook_60 (v := 1) (by decide) ?_
      refine r_isub hX dX8_hook_61 ?_
      exact r_iret hX hQ (pr1 h) (pr2 h) dX8_hook_62
    · have h := ite_t hc4 h
      refine r_bipush hX dX8_hook_23 (v := (-3)) (by decide) ?_
      exact r_iret hX hQ (pr1 h) (pr2 h) dX8_hook_25
  · have h := ite_t hc3 h
    refine r_iconst hX dX8_hook_12 (v := (-1)) (by decide) ?_
    exact r_iret hX hQ (pr1 h) (pr2 h) dX8_hook_13
abbrev rmX8_planOf : Room := { frames := 0, cells := 0, slots := 0, locals := 0 }
noncomputable def jX8_planOf_L6 (μ : Mu) (x1 : Int32) (x2 : Int32) : Nat → Int32 → Int32 → Option (Int32)
  | 0, _, _ => none
  | n1 + 1, x3, x4 => if (μ 0 0 9) ≤ x4 then some x3 else if inb x4 12 = true then if (μ 10 0 x4.toNatClampNeg) = x1 then if inb x4 12 = true then if (μ 11 0 x4.toNatClampNeg) = x2 then jX8_planOf_L6 μ x1 x2 n1 x4 (x4 + 1) else jX8_planOf_L6 μ x1 x2 n1 x3 (x4 + 1) else none else jX8_planOf_L6 μ x1 x2 n1 x3 (x4 + 1) else none
set_option maxHeartbeats 4000000 in
set_option maxRecDepth 100000 in
theorem mX8_planOf_L6 {l : Launch} {D : va_G} {cI cH cT : ClassId} {ad : Nat → Nat → Nat} {Z : va_W} {X : Cx} (hX : HX (gR l D cI cH cT ad Z) X cX8_planOf 5 RX8 rmX8_planOf (some .int)) {μ : Mu} {r : Int32} (hQ : HQ (gR l D cI cH cT ad Z) X (some (.int r)) μ) (x1 : Int32) (x2 : Int32) : ∀ (n1 : Nat) (x3 : Int32) (x4 : Int32), jX8_planOf_L6 μ x1 x2 n1 x3 x4 = some r → V (gR l D cI cH cT ad Z) X 5 μ 6 [(0, .ref (ad 0 0)), (1, .int x1), (2, .int x2), (3, .int x3), (4, .int x4)] [] := by
  intro n1
  induction n1 with
  | zero => intro x3 x4 h; exact none_no h
  | succ n1 ih =>
    intro x3 x4 h
    rw [jX8_planOf_L6] at h
    refine r_iload hX dX8_planOf_6 4 rfl ?_
    refine r_aload_n hX dX8_planOf_8 0 rfl ?_
    refine r_get hX 0 0 kyR0 rfl rfl inlX8 9 (by decide) tw3_49 (v := .int (μ 0 0 9)) rfl dX8_planOf_9 ?_
    refine r_icmp_ge hX (tgt := 50) dX8_planOf_12 (by decide) (fun hc2 => ?_) (fun hc2 => ?_)
    · have h := ite_t hc2 h
      refine r_iload_n hX dX8_planOf_50 3 rfl ?_
      exact r_iret hX hQ (Option.some.inj h) rfl dX8_planOf_51
    · have h := ite_f hc2 h
      refine r_aload_n hX dX8_planOf_15 0 rfl ?_
      refine r_get hX 0 0 kyR0 rfl rfl inlX8 10 (by decide) tw3_50 (v := .ref (ad 10 0)) rfl dX8_planOf_16 ?_
      refine r_iload hX dX8_planOf_19 4 rfl ?_
      obtain ⟨hb3, h⟩ := ite_some h
      refine r_iald hX 10 0 kyR10 rfl (t0 := 0) rfl hb3 dX8_planOf_21 ?_
      refine r_iload_n hX dX8_planOf_22 1 rfl ?_
      refine r_icmp_ne hX (tgt := 42) dX8_planOf_23 (by decide) (fun hc4 => ?_) (fun hc4 => ?_)
      · have h := ite_f hc4 h
        refine r_iload_n hX dX8_planOf_42 3 rfl ?_
        refine r_istore_n hX dX8_planOf_43 (lv' := [(3, .int x3), (0, .ref (ad 0 0)), (1, .int x1), (2, .int x2), (4, .int x4)]) (by decide) rfl ?_
        refine r_iinc hX dX8_planOf_44 (j := 4) (v := x4 + 1) (lv' := [(4, .int (x4 + 1)), (3, .int x3), (0, .ref (ad 0 0)), (1, .int x1), (2, .int x2)]) rfl (congrArg (x4 + ·) (by decide)) (by decide) rfl ?_
        refine r_goto hX (tgt := 6) dX8_planOf_47 (by decide) ?_
        refine r_sub [2, 3, 4, 1, 0] rfl ?_
        exact ih x3 (x4 + 1) h
      · have h := ite_t hc4 h
        refine r_aload_n hX dX8_planOf_26 0 rfl ?_
        refine r_get hX 0 0 kyR0 rfl rfl inlX8 11 (by decide) tw3_51 (v := .ref (ad 11 0)) rfl dX8_planOf_27 ?_
        refine r_iload hX dX8_planOf_30 4 rfl ?_
        obtain ⟨hb5, h⟩ := ite_some h
        refine r_iald hX 11 0 kyR11 rfl (t0 := 0) rfl hb5 dX8_planOf_32 ?_
        refine r_iload_n hX dX8_planOf_33 2 rfl ?_
        refine r_icmp_ne hX (tgt := 42) dX8_planOf_34 (by decide) (fun hc6 => ?_) (fun hc6 => ?_)
        · have h := ite_f hc6 h
          refine r_iload_n hX dX8_planOf_42 3 rfl ?_
          refine r_istore_n hX dX8_planOf_43 (lv' := [(3, .int x3), (0, .ref (ad 0 0)), (1, .int x1), (2, .int x2), (4, .int x4)]) (by decide) rfl ?_
          refine r_iinc hX dX8_planOf_44 (j := 4) (v := x4 + 1) (lv' := [(4, .int (x4 + 1)), (3, .int x3), (0, .ref (ad 0 0)), (1, .int x1), (2, .int x2)]) rfl (congrArg (x4 + ·) (by decide)) (by decide) rfl ?_
          refine r_goto hX (tgt := 6) dX8_planOf_47 (by decide) ?_
          refine r_sub [2, 3, 4, 1, 0] rfl ?_
          exact ih x3 (x4 + 1) h
        · have h := ite_t hc6 h
          refine r_iload hX dX8_planOf_37 4 rfl ?_
          refine r_goto hX (tgt := 43) dX8_planOf_39 (by decide) ?_
          refine r_istore_n hX dX8_planOf_43 (lv' := [(3, .int x4), (0, .ref (ad 0 0)), (1, .int x1), (2, .int x2), (4, .int x4)]) (by decide) rfl ?_
          refine r_iinc hX dX8_planOf_44 (j := 4) (v := x4 + 1) (lv' := [(4, .int (x4 + 1)), (3, .int x4), (0, .ref (ad 0 0)), (1, .int x1), (2, .int x2)]) rfl (congrArg (x4 + ·) (by decide)) (by decide) rfl ?_
          refine r_goto hX (tgt := 6) dX8_planOf_47 (by decide) ?_
          refine r_sub [2, 3, 4, 1, 0] rfl ?_
          exact ih x4 (x4 + 1) h
noncomputable def jX8_planOf (μ : Mu) (a1 : Int32) (a2 : Int32) : Option (Int32) := jX8_planOf_L6 μ a1 a2 fuel (-4) 0
set_option maxHeartbeats 4000000 in
set_option maxRecDepth 100000 in
theorem mX8_planOf {l : Launch} {D : va_G} {cI cH cT : ClassId} {ad : Nat → Nat → Nat} {Z : va_W} {μ : Mu} {r : Int32} (a1 : Int32) (a2 : Int32) (h : jX8_planOf μ a1 a2 = some r) : CT (gR l D cI cH cT ad Z) yX8_planOf (.code yX8_planOf cX8_planOf 5 (some .int) :: wsL_law) rmX8_planOf [.ref (ad 0 0), .int a1, .int a2] μ (some (.int r)) μ := by
  refine ct_of (own := RX8) (by decide) ⟨rfl, rfl⟩ (Nat.le_of_ble_eq_true rfl) rfl (fun X hX hQ => ?_)
  have hX : HX (gR l D cI cH cT ad Z) X cX8_planOf 5 RX8 rmX8_planOf (some .int) := hX
  show V (gR l D cI cH cT ad Z) X 5 μ 0 [(0, .ref (ad 0 0)), (1, .int a1), (2, .int a2)] []
  unfold jX8_planOf at h
  refine r_bipush hX dX8_planOf_0 (v := (-4)) (by decide) ?_
  refine r_istore_n hX dX8_planOf_2 (lv' := [(3, .int (-4)), (0, .ref (ad 0 0)), (1, .int a1), (2, .int a2)]) (by decide) rfl ?_
  refine r_iconst hX dX8_planOf_3 (v := 0) (by decide) ?_
  refine r_istore hX dX8_planOf_4 (lv' := [(4, .int 0), (3, .int (-4)), (0, .ref (ad 0 0)), (1, .int a1), (2, .int a2)]) (by decide) rfl ?_
  refine r_sub [2, 3, 4, 1, 0] rfl ?_
  exact mX8_planOf_L6 hX hQ a1 a2 fuel (-4) 0 h
abbrev rmX8_dropPlan : Room := { frames := 0, cells := 0, slots := 0, locals := 0 }
noncomputable def jX8_dropPlan (μ : Mu) (a1 : Int32) : Option (Mu) := mst (mu_st μ 0 0 9 ((μ 0 0 9) - 1)) (fun μ1 => if inb (μ1 0 0 9) 12 = true then if inb a1 12 = true then mst (mu_st μ1 10 0 a1.toNatClampNeg (μ1 10 0 (μ1 0 0 9).toNatClampNeg)) (fun μ4 => if inb (μ4 0 0 9) 12 = true then if inb a1 12 = true then mst (mu_st μ4 11 0 a1.toNatClampNeg (μ4 11 0 (μ4 0 0 9).toNatClampNeg)) (fun μ7 => if inb (μ7 0 0 9) 12 = true then if inb a1 12 = true then mst (mu_st μ7 12 0 a1.toNatClampNeg (μ7 12 0 (μ7 0 0 9).toNatClampNeg)) (fun μ10 => if inb (μ10 0 0 9) 12 = true then if inb a1 12 = true then mst (mu_st μ10 13 0 a1.toNatClampNeg (μ10 13 0 (μ10 0 0 9).toNatClampNeg)) (fun μ13 => some μ13) else none else none) else none else none) else none else none) else none else none)
set_option maxHeartbeats 4000000 in
set_option maxRecDepth 100000 in
theorem mX8_dropPlan {l : Launch} {D : va_G} {cI cH cT : ClassId} {ad : Nat → Nat → Nat} {Z : va_W} {μ : Mu} {μ' : Mu} (a1 : Int32) (h : jX8_dropPlan μ a1 = some μ') : CT (gR l D cI cH cT ad Z) yX8_dropPlan (.code yX8_dropPlan cX8_dropPlan 2 none :: wsL_law) rmX8_dropPlan [.ref (ad 0 0), .int a1] μ none μ' := by
  refine ct_of (own := RX8) (by decide) ⟨rfl, rfl⟩ (Nat.le_of_ble_eq_true rfl) rfl (fun X hX hQ => ?_)
  have hX : HX (gR l D cI cH cT ad Z) X cX8_dropPlan 2 RX8 rmX8_dropPlan none := hX
  show V (gR l D cI cH cT ad Z) X 2 μ 0 [(0, .ref (ad 0 0)), (1, .int a1)] []
  unfold jX8_dropPlan at h
  refine r_aload_n hX dX8_dropPlan_0 0 rfl ?_
  refine r_dup hX dX8_dropPlan_1 rfl ?_
  refine r_get hX 0 0 kyR0 rfl rfl inlX8 9 (by decide) tw3_49 (v := .int (μ 0 0 9)) rfl dX8_dropPlan_2 ?_
  refine r_iconst hX dX8_dropPlan_5 (v := 1) (by decide) ?_
  refine r_isub hX dX8_dropPlan_6 ?_
  refine r_put hX 0 0 kyR0 rfl rfl inlX8 tyX8 tyX8_ok nmX8 9 (by decide) tw3_49 rfl (tyX8_ok 9 (by decide)) rfl rfl (Nat.le_of_ble_eq_true rfl) rfl dX8_dropPlan_7 (fun μ1 eμ1 => ?_)
  have h := mst_at eμ1 h
  refine r_aload_n hX dX8_dropPlan_10 0 rfl ?_
  refine r_get hX 0 0 kyR0 rfl rfl inlX8 10 (by decide) tw3_50 (v := .ref (ad 10 0)) rfl dX8_dropPlan_11 ?_
  refine r_iload_n hX dX8_dropPlan_14 1 rfl ?_
  refine r_aload_n hX dX8_dropPlan_15 0 rfl ?_
  refine r_get hX 0 0 kyR0 rfl rfl inlX8 10 (by decide) tw3_50 (v := .ref (ad 10 0)) rfl dX8_dropPlan_16 ?_
  refine r_aload_n hX dX8_dropPlan_19 0 rfl ?_
  refine r_get hX 0 0 kyR0 rfl rfl inlX8 9 (by decide) tw3_49 (v := .int (μ1 0 0 9)) rfl dX8_dropPlan_20 ?_
  obtain ⟨hb2, h⟩ := ite_some h
  refine r_iald hX 10 0 kyR10 rfl (t0 := 0) rfl hb2 dX8_dropPlan_23 ?_
  obtain ⟨hb3, h⟩ := ite_some h
  refine r_iast hX 10 0 kyR10 (fun _ => rfl) (t0 := 0) rfl hb3 dX8_dropPlan_24 (fun μ4 eμ4 => ?_)
  have h := mst_at eμ4 h
  refine r_aload_n hX dX8_dropPlan_25 0 rfl ?_
  refine r_get hX 0 0 kyR0 rfl rfl inlX8 11 (by decide) tw3_51 (v := .ref (ad 11 0)) rfl dX8_dropPlan_26 ?_
  refine r_iload_n hX dX8_dropPlan_29 1 rfl ?_
  refine r_aload_n hX dX8_dropPlan_30 0 rfl ?_
  refine r_get hX 0 0 kyR0 rfl rfl inlX8 11 (by decide) tw3_51 (v := .ref (ad 11 0)) rfl dX8_dropPlan_31 ?_
  refine r_aload_n hX dX8_dropPlan_34 0 rfl ?_
  refine r_get hX 0 0 kyR0 rfl rfl inlX8 9 (by decide) tw3_49 (v := .int (μ4 0 0 9)) rfl dX8_dropPlan_35 ?_
  obtain ⟨hb5, h⟩ := ite_some h
  refine r_iald hX 11 0 kyR11 rfl (t0 := 0) rfl hb5 dX8_dropPlan_38 ?_
  obtain ⟨hb6, h⟩ := ite_some h
  refine r_iast hX 11 0 kyR11 (fun _ => rfl) (t0 := 0) rfl hb6 dX8_dropPlan_39 (fun μ7 eμ7 => ?_)
  have h := mst_at eμ7 h
  refine r_aload_n hX dX8_dropPlan_40 0 rfl ?_
  refine r_get hX 0 0 kyR0 rfl rfl inlX8 12 (by decide) tw3_52 (v := .ref (ad 12 0)) rfl dX8_dropPlan_41 ?_
  refine r_iload_n hX dX8_dropPlan_44 1 rfl ?_
  refine r_aload_n hX dX8_dropPlan_45 0 rfl ?_
  refine r_get hX 0 0 kyR0 rfl rfl inlX8 12 (by decide) tw3_52 (v := .ref (ad 12 0)) rfl dX8_dropPlan_46 ?_
  refine r_aload_n hX dX8_dropPlan_49 0 rfl ?_
  refine r_get hX 0 0 kyR0 rfl rfl inlX8 9 (by decide) tw3_49 (v := .int (μ7 0 0 9)) rfl dX8_dropPlan_50 ?_
  obtain ⟨hb8, h⟩ := ite_some h
  refine r_iald hX 12 0 kyR12 rfl (t0 := 0) rfl hb8 dX8_dropPlan_53 ?_
  obtain ⟨hb9, h⟩ := ite_some h
  refine r_iast hX 12 0 kyR12 (fun _ => rfl) (t0 := 0) rfl hb9 dX8_dropPlan_54 (fun μ10 eμ10 => ?_)
  have h := mst_at eμ10 h
  refine r_aload_n hX dX8_dropPlan_55 0 rfl ?_
  refine r_get hX 0 0 kyR0 rfl rfl inlX8 13 (by decide) tw3_53 (v := .ref (ad 13 0)) rfl dX8_dropPlan_56 ?_
  refine r_iload_n hX dX8_dropPlan_59 1 rfl ?_
  refine r_aload_n hX dX8_dropPlan_60 0 rfl ?_
  refine r_get hX 0 0 kyR0 rfl rfl inlX8 13 (by decide) tw3_53 (v := .ref (ad 13 0)) rfl dX8_dropPlan_61 ?_
  refine r_aload_n hX dX8_dropPlan_64 0 rfl ?_
  refine r_get hX 0 0 kyR0 rfl rfl inlX8 9 (by decide) tw3_49 (v := .int (μ10 0 0 9)) rfl dX8_dropPlan_65 ?_
  obtain ⟨hb11, h⟩ := ite_some h
  refine r_iald hX 13 0 kyR13 rfl (t0 := 0) rfl hb11 dX8_dropPlan_68 ?_
  obtain ⟨hb12, h⟩ := ite_some h
  refine r_iast hX 13 0 kyR13 (fun _ => rfl) (t0 := 0) rfl hb12 dX8_dropPlan_69 (fun μ13 eμ13 => ?_)
  have h := mst_at eμ13 h
  exact r_vret hX hQ (Option.some.inj h) dX8_dropPlan_70
abbrev rmX8_plan : Room := { frames := 2, cells := 0, slots := 0, locals := 46 }
noncomputable def jX8_plan_J49  (μ : Mu) (x1 : Int32) (x2 : Int32) (x3 : Int32) (x4 : Int32) : Option (Int32 × Mu) := some ((-1), μ)
set_option maxHeartbeats 4000000 in
set_option maxRecDepth 100000 in
theorem mX8_plan_J49 {l : Launch} {D : va_G} {cI cH cT : ClassId} {ad : Nat → Nat → Nat} {Z : va_W} {X : Cx} (hX : HX (gR l D cI cH cT ad Z) X cX8_plan 6 RX8 rmX8_plan (some .int)) {r : Int32} {μ' : Mu} (hQ : HQ (gR l D cI cH cT ad Z) X (some (.int r)) μ')  (μ : Mu) (x1 : Int32) (x2 : Int32) (x3 : Int32) (x4 : Int32) (h : jX8_plan_J49  μ x1 x2 x3 x4 = some (r, μ')) : V (gR l D cI cH cT ad Z) X 6 μ 49 [(0, .ref (ad 0 0)), (1, .int x1), (2, .int x2), (3, .int x3), (4, .int x4)] [] := by
  unfold jX8_plan_J49 at h
  refine r_iconst hX dX8_plan_49 (v := (-1)) (by decide) ?_
  exact r_iret hX hQ (pr1 h) (pr2 h) dX8_plan_50
noncomputable def jX8_plan_J98  (μ : Mu) (x1 : Int32) (x2 : Int32) (x3 : Int32) (x4 : Int32) (x5 : Int32) : Option (Int32 × Mu) := if inb (μ 0 0 9) 12 = true then mst (mu_st μ 10 0 (μ 0 0 9).toNatClampNeg x1) (fun μ17 => if inb x1 8 = true then if inb (μ17 0 0 9) 12 = true then mst (mu_st μ17 11 0 (μ17 0 0 9).toNatClampNeg ((μ17 6 0 x1.toNatClampNeg) + x2)) (fun μ20 => if inb (μ20 0 0 9) 12 = true then mst (mu_st μ20 12 0 (μ20 0 0 9).toNatClampNeg x3) (fun μ22 => if inb (μ22 0 0 9) 12 = true then mst (mu_st μ22 13 0 (μ22 0 0 9).toNatClampNeg x4) (fun μ24 => mst (mu_st μ24 0 0 9 ((μ24 0 0 9) + 1)) (fun μ25 => some (μ25 0 0 9, μ25))) else none) else none) else none else none) else none
set_option maxHeartbeats 4000000 in
set_option maxRecDepth 100000 in
theorem mX8_plan_J98 {l : Launch} {D : va_G} {cI cH cT : ClassId} {ad : Nat → Nat → Nat} {Z : va_W} {X : Cx} (hX : HX (gR l D cI cH cT ad Z) X cX8_plan 6 RX8 rmX8_plan (some .int)) {r : Int32} {μ' : Mu} (hQ : HQ (gR l D cI cH cT ad Z) X (some (.int r)) μ')  (μ : Mu) (x1 : Int32) (x2 : Int32) (x3 : Int32) (x4 : Int32) (x5 : Int32) (h : jX8_plan_J98  μ x1 x2 x3 x4 x5 = some (r, μ')) : V (gR l D cI cH cT ad Z) X 6 μ 98 [(0, .ref (ad 0 0)), (1, .int x1), (2, .int x2), (3, .int x3), (4, .int x4), (5, .int x5)] [] := by
  unfold jX8_plan_J98 at h
  refine r_aload_n hX dX8_plan_98 0 rfl ?_
  refine r_get hX 0 0 kyR0 rfl rfl inlX8 10 (by decide) tw3_50 (v := .ref (ad 10 0)) rfl dX8_plan_99 ?_
  refine r_aload_n hX dX8_plan_102 0 rfl ?_
  refine r_get hX 0 0 kyR0 rfl rfl inlX8 9 (by decide) tw3_49 (v := .int (μ 0 0 9)) rfl dX8_plan_103 ?_
  refine r_iload_n hX dX8_plan_106 1 rfl ?_
  obtain ⟨hb16, h⟩ := ite_some h
  refine r_iast hX 10 0 kyR10 (fun _ => rfl) (t0 := 0) rfl hb16 dX8_plan_107 (fun μ17 eμ17 => ?_)
  have h := mst_at eμ17 h
  refine r_aload_n hX dX8_plan_108 0 rfl ?_
  refine r_get hX 0 0 kyR0 rfl rfl inlX8 11 (by decide) tw3_51 (v := .ref (ad 11 0)) rfl dX8_plan_109 ?_
  refine r_aload_n hX dX8_plan_112 0 rfl ?_
  refine r_get hX 0 0 kyR0 rfl rfl inlX8 9 (by decide) tw3_49 (v := .int (μ17 0 0 9)) rfl dX8_plan_113 ?_
  refine r_aload_n hX dX8_plan_116 0 rfl ?_
  refine r_get hX 0 0 kyR0 rfl rfl inlX8 6 (by decide) tw3_46 (v := .ref (ad 6 0)) rfl dX8_plan_117 ?_
  refine r_iload_n hX dX8_plan_120 1 rfl ?_
  obtain ⟨hb18, h⟩ := ite_some h
  refine r_iald hX 6 0 kyR6 rfl (t0 := 0) rfl hb18 dX8_plan_121 ?_
  refine r_iload_n hX dX8_plan_122 2 rfl ?_
  refine r_iadd hX dX8_plan_123 ?_
  obtain ⟨hb19, h⟩ := ite_some h
  refine r_iast hX 11 0 kyR11 (fun _ => rfl) (t0 := 0) rfl hb19 dX8_plan_124 (fun μ20 eμ20 => ?_)
  have h := mst_at eμ20 h
  refine r_aload_n hX dX8_plan_125 0 rfl ?_
  refine r_get hX 0 0 kyR0 rfl rfl inlX8 12 (by decide) tw3_52 (v := .ref (ad 12 0)) rfl dX8_plan_126 ?_
  refine r_aload_n hX dX8_plan_129 0 rfl ?_
  refine r_get hX 0 0 kyR0 rfl rfl inlX8 9 (by decide) tw3_49 (v := .int (μ20 0 0 9)) rfl dX8_plan_130 ?_
  refine r_iload_n hX dX8_plan_133 3 rfl ?_
  obtain ⟨hb21, h⟩ := ite_some h
  refine r_iast hX 12 0 kyR12 (fun _ => rfl) (t0 := 0) rfl hb21 dX8_plan_134 (fun μ22 eμ22 => ?_)
  have h := mst_at eμ22 h
  refine r_aload_n hX dX8_plan_135 0 rfl ?_
  refine r_get hX 0 0 kyR0 rfl rfl inlX8 13 (by decide) tw3_53 (v := .ref (ad 13 0)) rfl dX8_plan_136 ?_
  refine r_aload_n hX dX8_plan_139 0 rfl ?_
  refine r_get hX 0 0 kyR0 rfl rfl inlX8 9 (by decide) tw3_49 (v := .int (μ22 0 0 9)) rfl dX8_plan_140 ?_
  refine r_iload hX dX8_plan_143 4 rfl ?_
  obtain ⟨hb23, h⟩ := ite_some h
  refine r_iast hX 13 0 kyR13 (fun _ => rfl) (t0 := 0) rfl hb23 dX8_plan_145 (fun μ24 eμ24 => ?_)
  have h := mst_at eμ24 h
  refine r_aload_n hX dX8_plan_146 0 rfl ?_
  refine r_dup hX dX8_plan_147 rfl ?_
  refine r_get hX 0 0 kyR0 rfl rfl inlX8 9 (by decide) tw3_49 (v := .int (μ24 0 0 9)) rfl dX8_plan_148 ?_
  refine r_iconst hX dX8_plan_151 (v := 1) (by decide) ?_
  refine r_iadd hX dX8_plan_152 ?_
  refine r_put hX 0 0 kyR0 rfl rfl inlX8 tyX8 tyX8_ok nmX8 9 (by decide) tw3_49 rfl (tyX8_ok 9 (by decide)) rfl rfl (Nat.le_of_ble_eq_true rfl) rfl dX8_plan_153 (fun μ25 eμ25 => ?_)
  have h := mst_at eμ25 h
  refine r_aload_n hX dX8_plan_156 0 rfl ?_
  refine r_get hX 0 0 kyR0 rfl rfl inlX8 9 (by decide) tw3_49 (v := .int (μ25 0 0 9)) rfl dX8_plan_157 ?_
  exact r_iret hX hQ (pr1 h) (pr2 h) dX8_plan_160
noncomputable def jX8_plan_J85  (μ : Mu) (x1 : Int32) (x2 : Int32) (x3 : Int32) (x4 : Int32) (x5 : Int32) : Option (Int32 × Mu) := if x5 = (-4) then jX8_plan_J98  μ x1 x2 x3 x4 x5 else (jX8_dropPlan μ x5).bind (fun μ27 => jX8_plan_J98  μ27 x1 x2 x3 x4 x5)
set_option maxHeartbeats 4000000 in
set_option maxRecDepth 100000 in
theorem mX8_plan_J85 {l : Launch} {D : va_G} {cI cH cT : ClassId} {ad : Nat → Nat → Nat} {Z : va_W} {X : Cx} (hX : HX (gR l D cI cH cT ad Z) X cX8_plan 6 RX8 rmX8_plan (some .int)) {r : Int32} {μ' : Mu} (hQ : HQ (gR l D cI cH cT ad Z) X (some (.int r)) μ')  (μ : Mu) (x1 : Int32) (x2 : Int32) (x3 : Int32) (x4 : Int32) (x5 : Int32) (h : jX8_plan_J85  μ x1 x2 x3 x4 x5 = some (r, μ')) : V (gR l D cI cH cT ad Z) X 6 μ 85 [(0, .ref (ad 0 0)), (1, .int x1), (2, .int x2), (3, .int x3), (4, .int x4), (5, .int x5)] [] := by
  unfold jX8_plan_J85 at h
  refine r_iload hX dX8_plan_85 5 rfl ?_
  refine r_bipush hX dX8_plan_87 (v := (-4)) (by decide) ?_
  refine r_icmp_eq hX (tgt := 98) dX8_plan_89 (by decide) (fun hc15 => ?_) (fun hc15 => ?_)
  · have h := ite_t hc15 h
    refine r_sub [0, 1, 2, 3, 4, 5] rfl ?_
    exact mX8_plan_J98 hX hQ  μ x1 x2 x3 x4 x5 h
  · have h := ite_f hc15 h
    refine r_aload_n hX dX8_plan_92 0 rfl ?_
    refine r_iload hX dX8_plan_93 5 rfl ?_
    obtain ⟨μ27, hq26, h⟩ := bind_ex h
    refine r_callV hX 0 0 (As := [.int x5]) (rest := []) (st' := []) (res := none) (μ' := μ27) (mX8_dropPlan x5 hq26) ckV_X8_102 ⟨rfl, rfl, by decide, by decide⟩ kyR0 rfl rfl rfl rfl (Nat.le_of_ble_eq_true rfl) dX8_plan_95 rfl ?_
    refine r_sub [0, 1, 2, 3, 4, 5] rfl ?_
    exact mX8_plan_J98 hX hQ  μ27 x1 x2 x3 x4 x5 h
noncomputable def jX8_plan_J51  (μ : Mu) (x1 : Int32) (x2 : Int32) (x3 : Int32) (x4 : Int32) : Option (Int32 × Mu) := if inb x1 8 = true then (jX8_planOf μ x1 ((μ 6 0 x1.toNatClampNeg) + x2)).bind (fun r13 => if r13 = (-4) then if (μ 0 0 9) = 12 then some ((-3), μ) else jX8_plan_J85  μ x1 x2 x3 x4 r13 else jX8_plan_J85  μ x1 x2 x3 x4 r13) else none
set_option maxHeartbeats 4000000 in
set_option maxRecDepth 100000 in
theorem mX8_plan_J51 {l : Launch} {D : va_G} {cI cH cT : ClassId} {ad : Nat → Nat → Nat} {Z : va_W} {X : Cx} (hX : HX (gR l D cI cH cT ad Z) X cX8_plan 6 RX8 rmX8_plan (some .int)) {r : Int32} {μ' : Mu} (hQ : HQ (gR l D cI cH cT ad Z) X (some (.int r)) μ')  (μ : Mu) (x1 : Int32) (x2 : Int32) (x3 : Int32) (x4 : Int32) (h : jX8_plan_J51  μ x1 x2 x3 x4 = some (r, μ')) : V (gR l D cI cH cT ad Z) X 6 μ 51 [(0, .ref (ad 0 0)), (1, .int x1), (2, .int x2), (3, .int x3), (4, .int x4)] [] := by
  unfold jX8_plan_J51 at h
  refine r_aload_n hX dX8_plan_51 0 rfl ?_
  refine r_iload_n hX dX8_plan_52 1 rfl ?_
  refine r_aload_n hX dX8_plan_53 0 rfl ?_
  refine r_get hX 0 0 kyR0 rfl rfl inlX8 6 (by decide) tw3_46 (v := .ref (ad 6 0)) rfl dX8_plan_54 ?_
  refine r_iload_n hX dX8_plan_57 1 rfl ?_
  obtain ⟨hb11, h⟩ := ite_some h
  refine r_iald hX 6 0 kyR6 rfl (t0 := 0) rfl hb11 dX8_plan_58 ?_
  refine r_iload_n hX dX8_plan_59 2 rfl ?_
  refine r_iadd hX dX8_plan_60 ?_
  obtain ⟨r13, hq12, h⟩ := bind_ex h
  refine r_callV hX 0 0 (As := [.int x1, .int ((μ 6 0 x1.toNatClampNeg) + x2)]) (rest := []) (st' := [.int r13]) (res := (some (.int r13))) (μ' := μ) (mX8_planOf x1 ((μ 6 0 x1.toNatClampNeg) + x2) hq12) ckV_X8_98 ⟨rfl, rfl, by decide, by decide⟩ kyR0 rfl rfl rfl rfl (Nat.le_of_ble_eq_true rfl) dX8_plan_61 rfl ?_
  refine r_istore hX dX8_plan_64 (lv' := [(5, .int r13), (0, .ref (ad 0 0)), (1, .int x1), (2, .int x2), (3, .int x3), (4, .int x4)]) (by decide) rfl ?_
  refine r_iload hX dX8_plan_66 0 rfl ?_
  refine r_bipush hX dX8_plan_68 (v := (-4)) (by decide) ?_
  refine r_icmp_ne hX (tgt := 85) dX8_plan_70 (by decide) (fun hc14 => ?_) (fun hc14 => ?_)
  · have h := ite_f hc14 h
    refine r_sub [1, 2, 3, 4, 5, 0] rfl ?_
    exact mX8_plan_J85 hX hQ  μ x1 x2 x3 x4 r13 h
  · have h := ite_t hc14 h
    refine r_aload_n hX dX8_plan_73 1 rfl ?_
    refine r_get hX 0 0 kyR0 rfl rfl inlX8 9 (by decide) tw3_49 (v := .int (μ 0 0 9)) rfl dX8_plan_74 ?_
    refine r_bipush hX dX8_plan_77 (v := 12) (by decide) ?_
    refine r_icmp_ne hX (tgt := 85) dX8_plan_79 (by decide) (fun hc28 => ?_) (fun hc28 => ?_)
    · have h := ite_f hc28 h
      refine r_sub [1, 2, 3, 4, 5, 0] rfl ?_
      exact mX8_plan_J85 hX hQ  μ x1 x2 x3 x4 r13 h
    · have h := ite_t hc28 h
      refine r_bipush hX dX8_plan_82 (v := (-3)) (by decide) ?_
      exact r_iret hX hQ (pr1 h) (pr2 h) dX8_plan_84
noncomputable def jX8_plan (μ : Mu) (a1 : Int32) (a2 : Int32) (a3 : Int32) (a4 : Int32) : Option (Int32 × Mu) := (jX8_isHook μ a1).bind (fun r2 => if r2 = 0 then jX8_plan_J49  μ a1 a2 a3 a4 else (jX8_in a2.toInt64 1 (1000)).bind (fun r5 => if r5 = 0 then jX8_plan_J49  μ a1 a2 a3 a4 else (jX8_in a3.toInt64 0 (2)).bind (fun r8 => if r8 = 0 then jX8_plan_J49  μ a1 a2 a3 a4 else if a3 = 0 then (jX8_in a4.toInt64 1 (99)).bind (fun r30 => if r30 = 0 then jX8_plan_J49  μ a1 a2 a3 a4 else jX8_plan_J51  μ a1 a2 a3 a4) else jX8_plan_J51  μ a1 a2 a3 a4)))
set_option maxHeartbeats 4000000 in
set_option maxRecDepth 100000 in
theorem mX8_plan {l : Launch} {D : va_G} {cI cH cT : ClassId} {ad : Nat → Nat → Nat} {Z : va_W} {μ : Mu} {r : Int32} {μ' : Mu} (a1 : Int32) (a2 : Int32) (a3 : Int32) (a4 : Int32) (h : jX8_plan μ a1 a2 a3 a4 = some (r, μ')) : CT (gR l D cI cH cT ad Z) yX8_plan (.code yX8_plan cX8_plan 6 (some .int) :: wsL_law) rmX8_plan [.ref (ad 0 0), .int a1, .int a2, .int a3, .int a4] μ (some (.int r)) μ' := by
  refine ct_of (own := RX8) (by decide) ⟨rfl, rfl⟩ (Nat.le_of_ble_eq_true rfl) rfl (fun X hX hQ => ?_)
  have hX : HX (gR l D cI cH cT ad Z) X cX8_plan 6 RX8 rmX8_plan (some .int) := hX
  show V (gR l D cI cH cT ad Z) X 6 μ 0 [(0, .ref (ad 0 0)), (1, .int a1), (2, .int a2), (3, .int a3), (4, .int a4)] []
  unfold jX8_plan at h
  refine r_aload_n hX dX8_plan_0 0 rfl ?_
  refine r_iload_n hX dX8_plan_1 1 rfl ?_
  obtain ⟨r2, hq1, h⟩ := bind_ex h
  refine r_callV hX 0 0 (As := [.int a1]) (rest := []) (st' := [.int r2]) (res := (some (.int r2))) (μ' := μ) (mX8_isHook a1 hq1) ckV_X8_91 ⟨rfl, rfl, by decide, by decide⟩ kyR0 rfl rfl rfl rfl (Nat.le_of_ble_eq_true rfl) dX8_plan_2 rfl ?_
  refine r_if_eq hX (tgt := 49) dX8_plan_5 (by decide) (fun hc3 => ?_) (fun hc3 => ?_)
  · have h := ite_t hc3 h
    refine r_sub [0, 1, 2, 3, 4] rfl ?_
    exact mX8_plan_J49 hX hQ  μ a1 a2 a3 a4 h
  · have h := ite_f hc3 h
    refine r_iload_n hX dX8_plan_8 2 rfl ?_
    refine r_i2l hX dX8_plan_9 ?_
    refine r_lconst hX dX8_plan_10 (v := 1) (by decide) ?_
    refine r_ldc2 hX dX8_plan_11 tw3_158 ?_
    obtain ⟨r5, hq4, h⟩ := bind_ex h
    refine r_callS hX (As := [.long a2.toInt64, .long 1, .long (1000)]) (rest := []) (st' := [.int r5]) (res := (some (.int r5))) (μ' := μ) (mX8_in a2.toInt64 1 (1000) hq4) ckS_X8_68 ⟨rfl, rfl, by decide, by decide⟩ rfl rfl (Nat.le_of_ble_eq_true rfl) dX8_plan_14 rfl ?_
    refine r_if_eq hX (tgt := 49) dX8_plan_17 (by decide) (fun hc6 => ?_) (fun hc6 => ?_)
    · have h := ite_t hc6 h
      refine r_sub [0, 1, 2, 3, 4] rfl ?_
      exact mX8_plan_J49 hX hQ  μ a1 a2 a3 a4 h
    · have h := ite_f hc6 h
      refine r_iload_n hX dX8_plan_20 3 rfl ?_
      refine r_i2l hX dX8_plan_21 ?_
      refine r_lconst hX dX8_plan_22 (v := 0) (by decide) ?_
      refine r_ldc2 hX dX8_plan_23 tw3_159 ?_
      obtain ⟨r8, hq7, h⟩ := bind_ex h
      refine r_callS hX (As := [.long a3.toInt64, .long 0, .long (2)]) (rest := []) (st' := [.int r8]) (res := (some (.int r8))) (μ' := μ) (mX8_in a3.toInt64 0 (2) hq7) ckS_X8_68 ⟨rfl, rfl, by decide, by decide⟩ rfl rfl (Nat.le_of_ble_eq_true rfl) dX8_plan_26 rfl ?_
      refine r_if_eq hX (tgt := 49) dX8_plan_29 (by decide) (fun hc9 => ?_) (fun hc9 => ?_)
      · have h := ite_t hc9 h
        refine r_sub [0, 1, 2, 3, 4] rfl ?_
        exact mX8_plan_J49 hX hQ  μ a1 a2 a3 a4 h
      · have h := ite_f hc9 h
        refine r_iload_n hX dX8_plan_32 3 rfl ?_
        refine r_if_ne hX (tgt := 51) dX8_plan_33 (by decide) (fun hc10 => ?_) (fun hc10 => ?_)
        · have h := ite_f hc10 h
          refine r_sub [0, 1, 2, 3, 4] rfl ?_
          exact mX8_plan_J51 hX hQ  μ a1 a2 a3 a4 h
        · have h := ite_t hc10 h
          refine r_iload hX dX8_plan_36 4 rfl ?_
          refine r_i2l hX dX8_plan_38 ?_
          refine r_lconst hX dX8_plan_39 (v := 1) (by decide) ?_
          refine r_ldc2 hX dX8_plan_40 tw3_132 ?_
          obtain ⟨r30, hq29, h⟩ := bind_ex h
          refine r_callS hX (As := [.long a4.toInt64, .long 1, .long (99)]) (rest := []) (st' := [.int r30]) (res := (some (.int r30))) (μ' := μ) (mX8_in a4.toInt64 1 (99) hq29) ckS_X8_68 ⟨rfl, rfl, by decide, by decide⟩ rfl rfl (Nat.le_of_ble_eq_true rfl) dX8_plan_43 rfl ?_
          refine r_if_ne hX (tgt := 51) dX8_plan_46 (by decide) (fun hc31 => ?_) (fun hc31 => ?_)
          · have h := ite_f hc31 h
            refine r_sub [0, 1, 2, 3, 4] rfl ?_
            exact mX8_plan_J51 hX hQ  μ a1 a2 a3 a4 h
          · have h := ite_t hc31 h
            refine r_sub [0, 1, 2, 3, 4] rfl ?_
            exact mX8_plan_J49 hX hQ  μ a1 a2 a3 a4 h
abbrev rmX8_clearPlans : Room := { frames := 0, cells := 0, slots := 0, locals := 0 }
noncomputable def jX8_clearPlans (μ : Mu)  : Option (Int32 × Mu) := mst (mu_st μ 0 0 9 0) (fun μ1 => some (μ 0 0 9, μ1))
set_option maxHeartbeats 4000000 in
set_option maxRecDepth 100000 in
theorem mX8_clearPlans {l : Launch} {D : va_G} {cI cH cT : ClassId} {ad : Nat → Nat → Nat} {Z : va_W} {μ : Mu} {r : Int32} {μ' : Mu}  (h : jX8_clearPlans μ  = some (r, μ')) : CT (gR l D cI cH cT ad Z) yX8_clearPlans (.code yX8_clearPlans cX8_clearPlans 2 (some .int) :: wsL_law) rmX8_clearPlans [.ref (ad 0 0)] μ (some (.int r)) μ' := by
  refine ct_of (own := RX8) (by decide) ⟨rfl, rfl⟩ (Nat.le_of_ble_eq_true rfl) rfl (fun X hX hQ => ?_)
  have hX : HX (gR l D cI cH cT ad Z) X cX8_clearPlans 2 RX8 rmX8_clearPlans (some .int) := hX
  show V (gR l D cI cH cT ad Z) X 2 μ 0 [(0, .ref (ad 0 0))] []
  unfold jX8_clearPlans at h
  refine r_aload_n hX dX8_clearPlans_0 0 rfl ?_
  refine r_get hX 0 0 kyR0 rfl rfl inlX8 9 (by decide) tw3_49 (v := .int (μ 0 0 9)) rfl dX8_clearPlans_1 ?_
  refine r_istore_n hX dX8_clearPlans_4 (lv' := [(1, .int (μ 0 0 9)), (0, .ref (ad 0 0))]) (by decide) rfl ?_
  refine r_aload_n hX dX8_clearPlans_5 1 rfl ?_
  refine r_iconst hX dX8_clearPlans_6 (v := 0) (by decide) ?_
  refine r_put hX 0 0 kyR0 rfl rfl inlX8 tyX8 tyX8_ok nmX8 9 (by decide) tw3_49 rfl (tyX8_ok 9 (by decide)) rfl rfl (Nat.le_of_ble_eq_true rfl) rfl dX8_clearPlans_7 (fun μ1 eμ1 => ?_)
  have h := mst_at eμ1 h
  refine r_iload_n hX dX8_clearPlans_10 0 rfl ?_
  exact r_iret hX hQ (pr1 h) (pr2 h) dX8_clearPlans_11
abbrev rmX8_about : Room := { frames := 2, cells := 0, slots := 0, locals := 46 }
noncomputable def jX8_about_L80 (μ : Mu) (x1 : Int32) (x2 : Int32) : Nat → Int32 → Int32 → Option (Int32)
  | 0, _, _ => none
  | n8 + 1, x3, x4 => if (μ 0 0 9) ≤ x4 then some x3 else if inb x4 12 = true then if (μ 10 0 x4.toNatClampNeg) = x1 then jX8_about_L80 μ x1 x2 n8 (x3 + 1) (x4 + 1) else jX8_about_L80 μ x1 x2 n8 (x3 + 0) (x4 + 1) else none
set_option maxHeartbeats 4000000 in
set_option maxRecDepth 100000 in
theorem mX8_about_L80 {l : Launch} {D : va_G} {cI cH cT : ClassId} {ad : Nat → Nat → Nat} {Z : va_W} {X : Cx} (hX : HX (gR l D cI cH cT ad Z) X cX8_about 5 RX8 rmX8_about (some .int)) {μ : Mu} {r : Int32} (hQ : HQ (gR l D cI cH cT ad Z) X (some (.int r)) μ) (x1 : Int32) (x2 : Int32) : ∀ (n8 : Nat) (x3 : Int32) (x4 : Int32), jX8_about_L80 μ x1 x2 n8 x3 x4 = some r → V (gR l D cI cH cT ad Z) X 5 μ 80 [(0, .ref (ad 0 0)), (1, .int x1), (2, .int x2), (3, .int x3), (4, .int x4)] [] := by
  intro n8
  induction n8 with
  | zero => intro x3 x4 h; exact none_no h
  | succ n8 ih =>
    intro x3 x4 h
    rw [jX8_about_L80] at h
    refine r_iload hX dX8_about_80 4 rfl ?_
    refine r_aload_n hX dX8_about_82 0 rfl ?_
    refine r_get hX 0 0 kyR0 rfl rfl inlX8 9 (by decide) tw3_49 (v := .int (μ 0 0 9)) rfl dX8_about_83 ?_
    refine r_icmp_ge hX (tgt := 114) dX8_about_86 (by decide) (fun hc9 => ?_) (fun hc9 => ?_)
    · have h := ite_t hc9 h
      refine r_iload_n hX dX8_about_114 3 rfl ?_
      exact r_iret hX hQ (Option.some.inj h) rfl dX8_about_115
    · have h := ite_f hc9 h
      refine r_iload_n hX dX8_about_89 3 rfl ?_
      refine r_aload_n hX dX8_about_90 0 rfl ?_
      refine r_get hX 0 0 kyR0 rfl rfl inlX8 10 (by decide) tw3_50 (v := .ref (ad 10 0)) rfl dX8_about_91 ?_
      refine r_iload hX dX8_about_94 4 rfl ?_
      obtain ⟨hb10, h⟩ := ite_some h
      refine r_iald hX 10 0 kyR10 rfl (t0 := 0) rfl hb10 dX8_about_96 ?_
      refine r_iload_n hX dX8_about_97 1 rfl ?_
      refine r_icmp_ne hX (tgt := 105) dX8_about_98 (by decide) (fun hc11 => ?_) (fun hc11 => ?_)
      · have h := ite_f hc11 h
        refine r_iconst hX dX8_about_105 (v := 0) (by decide) ?_
        refine r_iadd hX dX8_about_106 ?_
        refine r_istore_n hX dX8_about_107 (lv' := [(3, .int (x3 + 0)), (0, .ref (ad 0 0)), (1, .int x1), (2, .int x2), (4, .int x4)]) (by decide) rfl ?_
        refine r_iinc hX dX8_about_108 (j := 4) (v := x4 + 1) (lv' := [(4, .int (x4 + 1)), (3, .int (x3 + 0)), (0, .ref (ad 0 0)), (1, .int x1), (2, .int x2)]) rfl (congrArg (x4 + ·) (by decide)) (by decide) rfl ?_
        refine r_goto hX (tgt := 80) dX8_about_111 (by decide) ?_
        refine r_sub [2, 3, 4, 1, 0] rfl ?_
        exact ih (x3 + 0) (x4 + 1) h
      · have h := ite_t hc11 h
        refine r_iconst hX dX8_about_101 (v := 1) (by decide) ?_
        refine r_goto hX (tgt := 106) dX8_about_102 (by decide) ?_
        refine r_iadd hX dX8_about_106 ?_
        refine r_istore_n hX dX8_about_107 (lv' := [(3, .int (x3 + 1)), (0, .ref (ad 0 0)), (1, .int x1), (2, .int x2), (4, .int x4)]) (by decide) rfl ?_
        refine r_iinc hX dX8_about_108 (j := 4) (v := x4 + 1) (lv' := [(4, .int (x4 + 1)), (3, .int (x3 + 1)), (0, .ref (ad 0 0)), (1, .int x1), (2, .int x2)]) rfl (congrArg (x4 + ·) (by decide)) (by decide) rfl ?_
        refine r_goto hX (tgt := 80) dX8_about_111 (by decide) ?_
        refine r_sub [2, 3, 4, 1, 0] rfl ?_
        exact ih (x3 + 1) (x4 + 1) h
noncomputable def jX8_about (μ : Mu) (a1 : Int32) (a2 : Int32) : Option (Int32) := (jX8_isHook μ a1).bind (fun r2 => if r2 = 0 then some (-1) else (jX8_in a2.toInt64 0 (4)).bind (fun r5 => if r5 = 0 then some (-1) else if 4 ≤ a2 then jX8_about_L80 μ a1 a2 fuel 0 0 else if a2 = 0 then if inb a1 8 = true then some (μ 4 0 a1.toNatClampNeg) else none else if a2 = 1 then if inb a1 8 = true then some (μ 6 0 a1.toNatClampNeg) else none else if a2 = 2 then if inb a1 8 = true then some (μ 7 0 a1.toNatClampNeg) else none else if inb a1 8 = true then some (μ 8 0 a1.toNatClampNeg) else none))
set_option maxHeartbeats 4000000 in
set_option maxRecDepth 100000 in
theorem mX8_about {l : Launch} {D : va_G} {cI cH cT : ClassId} {ad : Nat → Nat → Nat} {Z : va_W} {μ : Mu} {r : Int32} (a1 : Int32) (a2 : Int32) (h : jX8_about μ a1 a2 = some r) : CT (gR l D cI cH cT ad Z) yX8_about (.code yX8_about cX8_about 5 (some .int) :: wsL_law) rmX8_about [.ref (ad 0 0), .int a1, .int a2] μ (some (.int r)) μ := by
  refine ct_of (own := RX8) (by decide) ⟨rfl, rfl⟩ (Nat.le_of_ble_eq_true rfl) rfl (fun X hX hQ => ?_)
  have hX : HX (gR l D cI cH cT ad Z) X cX8_about 5 RX8 rmX8_about (some .int) := hX
  show V (gR l D cI cH cT ad Z) X 5 μ 0 [(0, .ref (ad 0 0)), (1, .int a1), (2, .int a2)] []
  unfold jX8_about at h
  refine r_aload_n hX dX8_about_0 0 rfl ?_
  refine r_iload_n hX dX8_about_1 1 rfl ?_
  obtain ⟨r2, hq1, h⟩ := bind_ex h
  refine r_callV hX 0 0 (As := [.int a1]) (rest := []) (st' := [.int r2]) (res := (some (.int r2))) (μ' := μ) (mX8_isHook a1 hq1) ckV_X8_91 ⟨rfl, rfl, by decide, by decide⟩ kyR0 rfl rfl rfl rfl (Nat.le_of_ble_eq_true rfl) dX8_about_2 rfl ?_
  refine r_if_eq hX (tgt := 20) dX8_about_5 (by decide) (fun hc3 => ?_) (fun hc3 => ?_)
  · have h := ite_t hc3 h
    refine r_iconst hX dX8_about_20 (v := (-1)) (by decide) ?_
    exact r_iret hX hQ (Option.some.inj h) rfl dX8_about_21
  · have h := ite_f hc3 h
    refine r_iload_n hX dX8_about_8 2 rfl ?_
    refine r_i2l hX dX8_about_9 ?_
    refine r_lconst hX dX8_about_10 (v := 0) (by decide) ?_
    refine r_ldc2 hX dX8_about_11 tw3_149 ?_
    obtain ⟨r5, hq4, h⟩ := bind_ex h
    refine r_callS hX (As := [.long a2.toInt64, .long 0, .long (4)]) (rest := []) (st' := [.int r5]) (res := (some (.int r5))) (μ' := μ) (mX8_in a2.toInt64 0 (4) hq4) ckS_X8_68 ⟨rfl, rfl, by decide, by decide⟩ rfl rfl (Nat.le_of_ble_eq_true rfl) dX8_about_14 rfl ?_
    refine r_if_ne hX (tgt := 22) dX8_about_17 (by decide) (fun hc6 => ?_) (fun hc6 => ?_)
    · have h := ite_f hc6 h
      refine r_iload_n hX dX8_about_22 2 rfl ?_
      refine r_iconst hX dX8_about_23 (v := 4) (by decide) ?_
      refine r_icmp_ge hX (tgt := 75) dX8_about_24 (by decide) (fun hc7 => ?_) (fun hc7 => ?_)
      · have h := ite_t hc7 h
        refine r_iconst hX dX8_about_75 (v := 0) (by decide) ?_
        refine r_istore_n hX dX8_about_76 (lv' := [(3, .int 0), (0, .ref (ad 0 0)), (1, .int a1), (2, .int a2)]) (by decide) rfl ?_
        refine r_iconst hX dX8_about_77 (v := 0) (by decide) ?_
        refine r_istore hX dX8_about_78 (lv' := [(4, .int 0), (3, .int 0), (0, .ref (ad 0 0)), (1, .int a1), (2, .int a2)]) (by decide) rfl ?_
        refine r_sub [2, 3, 4, 1, 0] rfl ?_
        exact mX8_about_L80 hX hQ a1 a2 fuel 0 0 h
      · have h := ite_f hc7 h
        refine r_iload_n hX dX8_about_27 2 rfl ?_
        refine r_if_ne hX (tgt := 40) dX8_about_28 (by decide) (fun hc12 => ?_) (fun hc12 => ?_)
        · have h := ite_f hc12 h
          refine r_iload_n hX dX8_about_40 2 rfl ?_
          refine r_iconst hX dX8_about_41 (v := 1) (by decide) ?_
          refine r_icmp_ne hX (tgt := 54) dX8_about_42 (by decide) (fun hc13 => ?_) (fun hc13 => ?_)
          · have h := ite_f hc13 h
            refine r_iload_n hX dX8_about_54 2 rfl ?_
            refine r_iconst hX dX8_about_55 (v := 2) (by decide) ?_
            refine r_icmp_ne hX (tgt := 68) dX8_about_56 (by decide) (fun hc14 => ?_) (fun hc14 => ?_)
            · have h := ite_f hc14 h
              refine r_aload_n hX dX8_about_68 0 rfl ?_
              refine r_get hX 0 0 kyR0 rfl rfl inlX8 8 (by decide) tw3_48 (v := .ref (ad 8 0)) rfl dX8_about_69 ?_
              refine r_iload_n hX dX8_about_72 1 rfl ?_
              obtain ⟨hb15, h⟩ := ite_some h
              refine r_iald hX 8 0 kyR8 rfl (t0 := 0) rfl hb15 dX8_about_73 ?_
              exact r_iret hX hQ (Option.some.inj h) rfl dX8_about_74
            · have h := ite_t hc14 h
              refine r_aload_n hX dX8_about_59 0 rfl ?_
              refine r_get hX 0 0 kyR0 rfl rfl inlX8 7 (by decide) tw3_47 (v := .ref (ad 7 0)) rfl dX8_about_60 ?_
              refine r_iload_n hX dX8_about_63 1 rfl ?_
              obtain ⟨hb16, h⟩ := ite_some h
              refine r_iald hX 7 0 kyR7 rfl (t0 := 0) rfl hb16 dX8_about_64 ?_
              refine r_goto hX (tgt := 74) dX8_about_65 (by decide) ?_
              exact r_iret hX hQ (Option.some.inj h) rfl dX8_about_74
          · have h := ite_t hc13 h
            refine r_aload_n hX dX8_about_45 0 rfl ?_
            refine r_get hX 0 0 kyR0 rfl rfl inlX8 6 (by decide) tw3_46 (v := .ref (ad 6 0)) rfl dX8_about_46 ?_
            refine r_iload_n hX dX8_about_49 1 rfl ?_
            obtain ⟨hb17, h⟩ := ite_some h
            refine r_iald hX 6 0 kyR6 rfl (t0 := 0) rfl hb17 dX8_about_50 ?_
            refine r_goto hX (tgt := 74) dX8_about_51 (by decide) ?_
            exact r_iret hX hQ (Option.some.inj h) rfl dX8_about_74
        · have h := ite_t hc12 h
          refine r_aload_n hX dX8_about_31 0 rfl ?_
          refine r_get hX 0 0 kyR0 rfl rfl inlX8 4 (by decide) tw3_44 (v := .ref (ad 4 0)) rfl dX8_about_32 ?_
          refine r_iload_n hX dX8_about_35 1 rfl ?_
          obtain ⟨hb18, h⟩ := ite_some h
          refine r_iald hX 4 0 kyR4 rfl (t0 := 0) rfl hb18 dX8_about_36 ?_
          refine r_goto hX (tgt := 74) dX8_about_37 (by decide) ?_
          exact r_iret hX hQ (Option.some.inj h) rfl dX8_about_74
    · have h := ite_t hc6 h
      refine r_iconst hX dX8_about_20 (v := (-1)) (by decide) ?_
      exact r_iret hX hQ (Option.some.inj h) rfl dX8_about_21
abbrev rmX8_begins : Room := { frames := 1, cells := 0, slots := 0, locals := 24 }
noncomputable def jX8_begins_J90  (μ : Mu) (x1 : Int32) (x2 : Int32) (x3 : Int32) (x4 : Int32) : Option (Int32 × Mu) := if inb x1 8 = true then if x3 = 2 then if inb x1 8 = true then mst (mu_st μ 8 0 x1.toNatClampNeg ((μ 8 0 x1.toNatClampNeg) + 1)) (fun μ22 => if x3 = 1 then some (1, μ22) else some (0, μ22)) else none else if inb x1 8 = true then mst (mu_st μ 8 0 x1.toNatClampNeg ((μ 8 0 x1.toNatClampNeg) + 0)) (fun μ19 => if x3 = 1 then some (1, μ19) else some (0, μ19)) else none else none
set_option maxHeartbeats 4000000 in
set_option maxRecDepth 100000 in
theorem mX8_begins_J90 {l : Launch} {D : va_G} {cI cH cT : ClassId} {ad : Nat → Nat → Nat} {Z : va_W} {X : Cx} (hX : HX (gR l D cI cH cT ad Z) X cX8_begins 5 RX8 rmX8_begins (some .boolean)) {r : Int32} {μ' : Mu} (hQ : HQ (gR l D cI cH cT ad Z) X (some (.int r)) μ')  (μ : Mu) (x1 : Int32) (x2 : Int32) (x3 : Int32) (x4 : Int32) (h : jX8_begins_J90  μ x1 x2 x3 x4 = some (r, μ')) : V (gR l D cI cH cT ad Z) X 5 μ 90 [(0, .ref (ad 0 0)), (1, .int x1), (2, .int x2), (3, .int x3), (4, .int x4)] [] := by
  unfold jX8_begins_J90 at h
  refine r_aload_n hX dX8_begins_90 0 rfl ?_
  refine r_get hX 0 0 kyR0 rfl rfl inlX8 8 (by decide) tw3_48 (v := .ref (ad 8 0)) rfl dX8_begins_91 ?_
  refine r_iload_n hX dX8_begins_94 1 rfl ?_
  refine r_dup2 hX dX8_begins_95 rfl rfl ?_
  obtain ⟨hb16, h⟩ := ite_some h
  refine r_iald hX 8 0 kyR8 rfl (t0 := 0) rfl hb16 dX8_begins_96 ?_
  refine r_iload_n hX dX8_begins_97 3 rfl ?_
  refine r_iconst hX dX8_begins_98 (v := 2) (by decide) ?_
  refine r_icmp_ne hX (tgt := 106) dX8_begins_99 (by decide) (fun hc17 => ?_) (fun hc17 => ?_)
  · have h := ite_f hc17 h
    refine r_iconst hX dX8_begins_106 (v := 0) (by decide) ?_
    refine r_iadd hX dX8_begins_107 ?_
    obtain ⟨hb18, h⟩ := ite_some h
    refine r_iast hX 8 0 kyR8 (fun _ => rfl) (t0 := 0) rfl hb18 dX8_begins_108 (fun μ19 eμ19 => ?_)
    have h := mst_at eμ19 h
    refine r_iload_n hX dX8_begins_109 3 rfl ?_
    refine r_iconst hX dX8_begins_110 (v := 1) (by decide) ?_
    refine r_icmp_ne hX (tgt := 118) dX8_begins_111 (by decide) (fun hc20 => ?_) (fun hc20 => ?_)
    · have h := ite_f hc20 h
      refine r_iconst hX dX8_begins_118 (v := 0) (by decide) ?_
      exact r_zret hX (Or.inl rfl) hQ (pr1 h) (pr2 h) dX8_begins_119
    · have h := ite_t hc20 h
      refine r_iconst hX dX8_begins_114 (v := 1) (by decide) ?_
      refine r_goto hX (tgt := 119) dX8_begins_115 (by decide) ?_
      exact r_zret hX (Or.inr rfl) hQ (pr1 h) (pr2 h) dX8_begins_119
  · have h := ite_t hc17 h
    refine r_iconst hX dX8_begins_102 (v := 1) (by decide) ?_
    refine r_goto hX (tgt := 107) dX8_begins_103 (by decide) ?_
    refine r_iadd hX dX8_begins_107 ?_
    obtain ⟨hb21, h⟩ := ite_some h
    refine r_iast hX 8 0 kyR8 (fun _ => rfl) (t0 := 0) rfl hb21 dX8_begins_108 (fun μ22 eμ22 => ?_)
    have h := mst_at eμ22 h
    refine r_iload_n hX dX8_begins_109 3 rfl ?_
    refine r_iconst hX dX8_begins_110 (v := 1) (by decide) ?_
    refine r_icmp_ne hX (tgt := 118) dX8_begins_111 (by decide) (fun hc23 => ?_) (fun hc23 => ?_)
    · have h := ite_f hc23 h
      refine r_iconst hX dX8_begins_118 (v := 0) (by decide) ?_
      exact r_zret hX (Or.inl rfl) hQ (pr1 h) (pr2 h) dX8_begins_119
    · have h := ite_t hc23 h
      refine r_iconst hX dX8_begins_114 (v := 1) (by decide) ?_
      refine r_goto hX (tgt := 119) dX8_begins_115 (by decide) ?_
      exact r_zret hX (Or.inr rfl) hQ (pr1 h) (pr2 h) dX8_begins_119
noncomputable def jX8_begins (μ : Mu) (a1 : Int32) : Option (Int32 × Mu) := if inb a1 8 = true then if inb a1 8 = true then mst (mu_st μ 6 0 a1.toNatClampNeg ((μ 6 0 a1.toNatClampNeg) + 1)) (fun μ3 => if inb a1 8 = true then if inb a1 8 = true then mst (mu_st μ3 7 0 a1.toNatClampNeg ((μ3 7 0 a1.toNatClampNeg) + 1)) (fun μ6 => if inb a1 8 = true then (jX8_planOf μ6 a1 (μ6 6 0 a1.toNatClampNeg)).bind (fun r9 => if r9 = (-4) then some (0, μ6) else if inb r9 12 = true then if inb r9 12 = true then (jX8_dropPlan μ6 r9).bind (fun μ14 => if (μ6 12 0 r9.toNatClampNeg) = 0 then mst (mu_st μ14 0 0 21 1) (fun μ24 => mst (mu_st μ24 0 0 22 (μ6 13 0 r9.toNatClampNeg)) (fun μ25 => mst (mu_st μ25 0 0 23 a1) (fun μ26 => if inb a1 8 = true then mst (mu_st μ26 0 0 24 (μ26 6 0 a1.toNatClampNeg)) (fun μ28 => jX8_begins_J90  μ28 a1 r9 (μ6 12 0 r9.toNatClampNeg) (μ6 13 0 r9.toNatClampNeg)) else none))) else jX8_begins_J90  μ14 a1 r9 (μ6 12 0 r9.toNatClampNeg) (μ6 13 0 r9.toNatClampNeg)) else none else none) else none) else none else none) else none else none
set_option maxHeartbeats 4000000 in
set_option maxRecDepth 100000 in
theorem mX8_begins {l : Launch} {D : va_G} {cI cH cT : ClassId} {ad : Nat → Nat → Nat} {Z : va_W} {μ : Mu} {r : Int32} {μ' : Mu} (a1 : Int32) (h : jX8_begins μ a1 = some (r, μ')) : CT (gR l D cI cH cT ad Z) yX8_begins (.code yX8_begins cX8_begins 5 (some .boolean) :: wsL_law) rmX8_begins [.ref (ad 0 0), .int a1] μ (some (.int r)) μ' := by
  refine ct_of (own := RX8) (by decide) ⟨rfl, rfl⟩ (Nat.le_of_ble_eq_true rfl) rfl (fun X hX hQ => ?_)
  have hX : HX (gR l D cI cH cT ad Z) X cX8_begins 5 RX8 rmX8_begins (some .boolean) := hX
  show V (gR l D cI cH cT ad Z) X 5 μ 0 [(0, .ref (ad 0 0)), (1, .int a1)] []
  unfold jX8_begins at h
  refine r_aload_n hX dX8_begins_0 0 rfl ?_
  refine r_get hX 0 0 kyR0 rfl rfl inlX8 6 (by decide) tw3_46 (v := .ref (ad 6 0)) rfl dX8_begins_1 ?_
  refine r_iload_n hX dX8_begins_4 1 rfl ?_
  refine r_dup2 hX dX8_begins_5 rfl rfl ?_
  obtain ⟨hb1, h⟩ := ite_some h
  refine r_iald hX 6 0 kyR6 rfl (t0 := 0) rfl hb1 dX8_begins_6 ?_
  refine r_iconst hX dX8_begins_7 (v := 1) (by decide) ?_
  refine r_iadd hX dX8_begins_8 ?_
  obtain ⟨hb2, h⟩ := ite_some h
  refine r_iast hX 6 0 kyR6 (fun _ => rfl) (t0 := 0) rfl hb2 dX8_begins_9 (fun μ3 eμ3 => ?_)
  have h := mst_at eμ3 h
  refine r_aload_n hX dX8_begins_10 0 rfl ?_
  refine r_get hX 0 0 kyR0 rfl rfl inlX8 7 (by decide) tw3_47 (v := .ref (ad 7 0)) rfl dX8_begins_11 ?_
  refine r_iload_n hX dX8_begins_14 1 rfl ?_
  refine r_dup2 hX dX8_begins_15 rfl rfl ?_
  obtain ⟨hb4, h⟩ := ite_some h
  refine r_iald hX 7 0 kyR7 rfl (t0 := 0) rfl hb4 dX8_begins_16 ?_
  refine r_iconst hX dX8_begins_17 (v := 1) (by decide) ?_
  refine r_iadd hX dX8_begins_18 ?_
  obtain ⟨hb5, h⟩ := ite_some h
  refine r_iast hX 7 0 kyR7 (fun _ => rfl) (t0 := 0) rfl hb5 dX8_begins_19 (fun μ6 eμ6 => ?_)
  have h := mst_at eμ6 h
  refine r_aload_n hX dX8_begins_20 0 rfl ?_
  refine r_iload_n hX dX8_begins_21 1 rfl ?_
  refine r_aload_n hX dX8_begins_22 0 rfl ?_
  refine r_get hX 0 0 kyR0 rfl rfl inlX8 6 (by decide) tw3_46 (v := .ref (ad 6 0)) rfl dX8_begins_23 ?_
  refine r_iload_n hX dX8_begins_26 1 rfl ?_
  obtain ⟨hb7, h⟩ := ite_some h
  refine r_iald hX 6 0 kyR6 rfl (t0 := 0) rfl hb7 dX8_begins_27 ?_
  obtain ⟨r9, hq8, h⟩ := bind_ex h
  refine r_callV hX 0 0 (As := [.int a1, .int (μ6 6 0 a1.toNatClampNeg)]) (rest := []) (st' := [.int r9]) (res := (some (.int r9))) (μ' := μ6) (mX8_planOf a1 (μ6 6 0 a1.toNatClampNeg) hq8) ckV_X8_98 ⟨rfl, rfl, by decide, by decide⟩ kyR0 rfl rfl rfl rfl (Nat.le_of_ble_eq_true rfl) dX8_begins_28 rfl ?_
  refine r_istore_n hX dX8_begins_31 (lv' := [(2, .int r9), (0, .ref (ad 0 0)), (1, .int a1)]) (by decide) rfl ?_
  refine r_iload_n hX dX8_begins_32 0 rfl ?_
  refine r_bipush hX dX8_begins_33 (v := (-4)) (by decide) ?_
  refine r_icmp_ne hX (tgt := 40) dX8_begins_35 (by decide) (fun hc10 => ?_) (fun hc10 => ?_)
  · have h := ite_f hc10 h
    refine r_aload_n hX dX8_begins_40 1 rfl ?_
    refine r_get hX 0 0 kyR0 rfl rfl inlX8 12 (by decide) tw3_52 (v := .ref (ad 12 0)) rfl dX8_begins_41 ?_
    refine r_iload_n hX dX8_begins_44 0 rfl ?_
    obtain ⟨hb11, h⟩ := ite_some h
    refine r_iald hX 12 0 kyR12 rfl (t0 := 0) rfl hb11 dX8_begins_45 ?_
    refine r_istore_n hX dX8_begins_46 (lv' := [(3, .int (μ6 12 0 r9.toNatClampNeg)), (2, .int r9), (0, .ref (ad 0 0)), (1, .int a1)]) (by decide) rfl ?_
    refine r_aload_n hX dX8_begins_47 2 rfl ?_
    refine r_get hX 0 0 kyR0 rfl rfl inlX8 13 (by decide) tw3_53 (v := .ref (ad 13 0)) rfl dX8_begins_48 ?_
    refine r_iload_n hX dX8_begins_51 1 rfl ?_
    obtain ⟨hb12, h⟩ := ite_some h
    refine r_iald hX 13 0 kyR13 rfl (t0 := 0) rfl hb12 dX8_begins_52 ?_
    refine r_istore hX dX8_begins_53 (lv' := [(4, .int (μ6 13 0 r9.toNatClampNeg)), (3, .int (μ6 12 0 r9.toNatClampNeg)), (2, .int r9), (0, .ref (ad 0 0)), (1, .int a1)]) (by decide) rfl ?_
    refine r_aload_n hX dX8_begins_55 3 rfl ?_
    refine r_iload_n hX dX8_begins_56 2 rfl ?_
    obtain ⟨μ14, hq13, h⟩ := bind_ex h
    refine r_callV hX 0 0 (As := [.int r9]) (rest := []) (st' := []) (res := none) (μ' := μ14) (mX8_dropPlan r9 hq13) ckV_X8_102 ⟨rfl, rfl, by decide, by decide⟩ kyR0 rfl rfl rfl rfl (Nat.le_of_ble_eq_true rfl) dX8_begins_57 rfl ?_
    refine r_iload_n hX dX8_begins_60 1 rfl ?_
    refine r_if_ne hX (tgt := 90) dX8_begins_61 (by decide) (fun hc15 => ?_) (fun hc15 => ?_)
    · have h := ite_f hc15 h
      refine r_sub [3, 4, 2, 1, 0] rfl ?_
      exact mX8_begins_J90 hX hQ  μ14 a1 r9 (μ6 12 0 r9.toNatClampNeg) (μ6 13 0 r9.toNatClampNeg) h
    · have h := ite_t hc15 h
      refine r_aload_n hX dX8_begins_64 3 rfl ?_
      refine r_iconst hX dX8_begins_65 (v := 1) (by decide) ?_
      refine r_put hX 0 0 kyR0 rfl rfl inlX8 tyX8 tyX8_ok nmX8 21 (by decide) tw3_61 rfl (tyX8_ok 21 (by decide)) rfl rfl (Nat.le_of_ble_eq_true rfl) rfl dX8_begins_66 (fun μ24 eμ24 => ?_)
      have h := mst_at eμ24 h
      refine r_aload_n hX dX8_begins_69 3 rfl ?_
      refine r_iload hX dX8_begins_70 0 rfl ?_
      refine r_put hX 0 0 kyR0 rfl rfl inlX8 tyX8 tyX8_ok nmX8 22 (by decide) tw3_62 rfl (tyX8_ok 22 (by decide)) rfl rfl (Nat.le_of_ble_eq_true rfl) rfl dX8_begins_72 (fun μ25 eμ25 => ?_)
      have h := mst_at eμ25 h
      refine r_aload_n hX dX8_begins_75 3 rfl ?_
      refine r_iload_n hX dX8_begins_76 4 rfl ?_
      refine r_put hX 0 0 kyR0 rfl rfl inlX8 tyX8 tyX8_ok nmX8 23 (by decide) tw3_63 rfl (tyX8_ok 23 (by decide)) rfl rfl (Nat.le_of_ble_eq_true rfl) rfl dX8_begins_77 (fun μ26 eμ26 => ?_)
      have h := mst_at eμ26 h
      refine r_aload_n hX dX8_begins_80 3 rfl ?_
      refine r_aload_n hX dX8_begins_81 3 rfl ?_
      refine r_get hX 0 0 kyR0 rfl rfl inlX8 6 (by decide) tw3_46 (v := .ref (ad 6 0)) rfl dX8_begins_82 ?_
      refine r_iload_n hX dX8_begins_85 4 rfl ?_
      obtain ⟨hb27, h⟩ := ite_some h
      refine r_iald hX 6 0 kyR6 rfl (t0 := 0) rfl hb27 dX8_begins_86 ?_
      refine r_put hX 0 0 kyR0 rfl rfl inlX8 tyX8 tyX8_ok nmX8 24 (by decide) tw3_64 rfl (tyX8_ok 24 (by decide)) rfl rfl (Nat.le_of_ble_eq_true rfl) rfl dX8_begins_87 (fun μ28 eμ28 => ?_)
      have h := mst_at eμ28 h
      refine r_sub [3, 4, 2, 1, 0] rfl ?_
      exact mX8_begins_J90 hX hQ  μ28 a1 r9 (μ6 12 0 r9.toNatClampNeg) (μ6 13 0 r9.toNatClampNeg) h
  · have h := ite_t hc10 h
    refine r_iconst hX dX8_begins_38 (v := 0) (by decide) ?_
    exact r_zret hX (Or.inl rfl) hQ (pr1 h) (pr2 h) dX8_begins_39
abbrev rmX8_sign : Room := { frames := 0, cells := 0, slots := 0, locals := 0 }
noncomputable def jX8_sign (a1 : Int32) (a2 : Int32) : Option (Int32) := if a2 ≤ a1 then if a1 ≤ a2 then some 0 else some 1 else some (-1)
set_option maxHeartbeats 4000000 in
set_option maxRecDepth 100000 in
theorem mX8_sign {l : Launch} {D : va_G} {cI cH cT : ClassId} {ad : Nat → Nat → Nat} {Z : va_W} {μ : Mu} {r : Int32} (a1 : Int32) (a2 : Int32) (h : jX8_sign a1 a2 = some r) : CT (gR l D cI cH cT ad Z) yX8_sign (.code yX8_sign cX8_sign 2 (some .int) :: wsL_law) rmX8_sign [.int a1, .int a2] μ (some (.int r)) μ := by
  refine ct_of (own := RX8) (by decide) ⟨rfl, rfl⟩ (Nat.le_of_ble_eq_true rfl) rfl (fun X hX hQ => ?_)
  have hX : HX (gR l D cI cH cT ad Z) X cX8_sign 2 RX8 rmX8_sign (some .int) := hX
  show V (gR l D cI cH cT ad Z) X 2 μ 0 [(0, .int a1), (1, .int a2)] []
  unfold jX8_sign at h
  refine r_iload_n hX dX8_sign_0 0 rfl ?_
  refine r_iload_n hX dX8_sign_1 1 rfl ?_
  refine r_icmp_ge hX (tgt := 9) dX8_sign_2 (by decide) (fun hc1 => ?_) (fun hc1 => ?_)
  · have h := ite_t hc1 h
    refine r_iload_n hX dX8_sign_9 0 rfl ?_
    refine r_iload_n hX dX8_sign_10 1 rfl ?_
    refine r_icmp_le hX (tgt := 18) dX8_sign_11 (by decide) (fun hc2 => ?_) (fun hc2 => ?_)
    · have h := ite_t hc2 h
      refine r_iconst hX dX8_sign_18 (v := 0) (by decide) ?_
      exact r_iret hX hQ (Option.some.inj h) rfl dX8_sign_19
    · have h := ite_f hc2 h
      refine r_iconst hX dX8_sign_14 (v := 1) (by decide) ?_
      refine r_goto hX (tgt := 19) dX8_sign_15 (by decide) ?_
      exact r_iret hX hQ (Option.some.inj h) rfl dX8_sign_19
  · have h := ite_f hc1 h
    refine r_iconst hX dX8_sign_5 (v := (-1)) (by decide) ?_
    refine r_goto hX (tgt := 19) dX8_sign_6 (by decide) ?_
    exact r_iret hX hQ (Option.some.inj h) rfl dX8_sign_19
abbrev rmX8_truth : Room := { frames := 1, cells := 0, slots := 0, locals := 21 }
noncomputable def jX8_truth (μ : Mu) (a1 : Int32) (a2 : Int32) (a3 : Int32) : Option (Int32) := if inb a2 120 = true then if inb a3 120 = true then (jX8_sign (μ 1 0 a2.toNatClampNeg) (μ 1 0 a3.toNatClampNeg)).bind (fun r4 => if inb a1 8 = true then if (μ 4 0 a1.toNatClampNeg) = 2 then if inb a2 120 = true then if inb a3 120 = true then if (μ 2 0 a2.toNatClampNeg) = (μ 2 0 a3.toNatClampNeg) then some r4 else if inb a2 120 = true then if inb a3 120 = true then (jX8_sign (μ 2 0 a2.toNatClampNeg) (μ 2 0 a3.toNatClampNeg)).bind (fun r15 => some r15) else none else none else none else none else if inb a1 8 = true then if (μ 4 0 a1.toNatClampNeg) = 0 then some r4 else some (-r4) else none else none) else none else none
set_option maxHeartbeats 4000000 in
set_option maxRecDepth 100000 in
theorem mX8_truth {l : Launch} {D : va_G} {cI cH cT : ClassId} {ad : Nat → Nat → Nat} {Z : va_W} {μ : Mu} {r : Int32} (a1 : Int32) (a2 : Int32) (a3 : Int32) (h : jX8_truth μ a1 a2 a3 = some r) : CT (gR l D cI cH cT ad Z) yX8_truth (.code yX8_truth cX8_truth 5 (some .int) :: wsL_law) rmX8_truth [.ref (ad 0 0), .int a1, .int a2, .int a3] μ (some (.int r)) μ := by
  refine ct_of (own := RX8) (by decide) ⟨rfl, rfl⟩ (Nat.le_of_ble_eq_true rfl) rfl (fun X hX hQ => ?_)
  have hX : HX (gR l D cI cH cT ad Z) X cX8_truth 5 RX8 rmX8_truth (some .int) := hX
  show V (gR l D cI cH cT ad Z) X 5 μ 0 [(0, .ref (ad 0 0)), (1, .int a1), (2, .int a2), (3, .int a3)] []
  unfold jX8_truth at h
  refine r_aload_n hX dX8_truth_0 0 rfl ?_
  refine r_get hX 0 0 kyR0 rfl rfl inlX8 1 (by decide) tw3_41 (v := .ref (ad 1 0)) rfl dX8_truth_1 ?_
  refine r_iload_n hX dX8_truth_4 2 rfl ?_
  obtain ⟨hb1, h⟩ := ite_some h
  refine r_iald hX 1 0 kyR1 rfl (t0 := 0) rfl hb1 dX8_truth_5 ?_
  refine r_aload_n hX dX8_truth_6 0 rfl ?_
  refine r_get hX 0 0 kyR0 rfl rfl inlX8 1 (by decide) tw3_41 (v := .ref (ad 1 0)) rfl dX8_truth_7 ?_
  refine r_iload_n hX dX8_truth_10 3 rfl ?_
  obtain ⟨hb2, h⟩ := ite_some h
  refine r_iald hX 1 0 kyR1 rfl (t0 := 0) rfl hb2 dX8_truth_11 ?_
  obtain ⟨r4, hq3, h⟩ := bind_ex h
  refine r_callS hX (As := [.int (μ 1 0 a2.toNatClampNeg), .int (μ 1 0 a3.toNatClampNeg)]) (rest := []) (st' := [.int r4]) (res := (some (.int r4))) (μ' := μ) (mX8_sign (μ 1 0 a2.toNatClampNeg) (μ 1 0 a3.toNatClampNeg) hq3) ckS_X8_116 ⟨rfl, rfl, by decide, by decide⟩ rfl rfl (Nat.le_of_ble_eq_true rfl) dX8_truth_12 rfl ?_
  refine r_istore hX dX8_truth_15 (lv' := [(4, .int r4), (0, .ref (ad 0 0)), (1, .int a1), (2, .int a2), (3, .int a3)]) (by decide) rfl ?_
  refine r_aload_n hX dX8_truth_17 1 rfl ?_
  refine r_get hX 0 0 kyR0 rfl rfl inlX8 4 (by decide) tw3_44 (v := .ref (ad 4 0)) rfl dX8_truth_18 ?_
  refine r_iload_n hX dX8_truth_21 2 rfl ?_
  obtain ⟨hb5, h⟩ := ite_some h
  refine r_iald hX 4 0 kyR4 rfl (t0 := 0) rfl hb5 dX8_truth_22 ?_
  refine r_iconst hX dX8_truth_23 (v := 2) (by decide) ?_
  refine r_icmp_ne hX (tgt := 63) dX8_truth_24 (by decide) (fun hc6 => ?_) (fun hc6 => ?_)
  · have h := ite_f hc6 h
    refine r_aload_n hX dX8_truth_63 1 rfl ?_
    refine r_get hX 0 0 kyR0 rfl rfl inlX8 4 (by decide) tw3_44 (v := .ref (ad 4 0)) rfl dX8_truth_64 ?_
    refine r_iload_n hX dX8_truth_67 2 rfl ?_
    obtain ⟨hb7, h⟩ := ite_some h
    refine r_iald hX 4 0 kyR4 rfl (t0 := 0) rfl hb7 dX8_truth_68 ?_
    refine r_if_ne hX (tgt := 77) dX8_truth_69 (by decide) (fun hc8 => ?_) (fun hc8 => ?_)
    · have h := ite_f hc8 h
      refine r_iload hX dX8_truth_77 0 rfl ?_
      refine r_ineg hX dX8_truth_79 ?_
      exact r_iret hX hQ (Option.some.inj h) rfl dX8_truth_80
    · have h := ite_t hc8 h
      refine r_iload hX dX8_truth_72 0 rfl ?_
      refine r_goto hX (tgt := 80) dX8_truth_74 (by decide) ?_
      exact r_iret hX hQ (Option.some.inj h) rfl dX8_truth_80
  · have h := ite_t hc6 h
    refine r_aload_n hX dX8_truth_27 1 rfl ?_
    refine r_get hX 0 0 kyR0 rfl rfl inlX8 2 (by decide) tw3_42 (v := .ref (ad 2 0)) rfl dX8_truth_28 ?_
    refine r_iload_n hX dX8_truth_31 3 rfl ?_
    obtain ⟨hb9, h⟩ := ite_some h
    refine r_iald hX 2 0 kyR2 rfl (t0 := 0) rfl hb9 dX8_truth_32 ?_
    refine r_aload_n hX dX8_truth_33 1 rfl ?_
    refine r_get hX 0 0 kyR0 rfl rfl inlX8 2 (by decide) tw3_42 (v := .ref (ad 2 0)) rfl dX8_truth_34 ?_
    refine r_iload_n hX dX8_truth_37 4 rfl ?_
    obtain ⟨hb10, h⟩ := ite_some h
    refine r_iald hX 2 0 kyR2 rfl (t0 := 0) rfl hb10 dX8_truth_38 ?_
    refine r_icmp_eq hX (tgt := 60) dX8_truth_39 (by decide) (fun hc11 => ?_) (fun hc11 => ?_)
    · have h := ite_t hc11 h
      refine r_iload hX dX8_truth_60 0 rfl ?_
      exact r_iret hX hQ (Option.some.inj h) rfl dX8_truth_62
    · have h := ite_f hc11 h
      refine r_aload_n hX dX8_truth_42 1 rfl ?_
      refine r_get hX 0 0 kyR0 rfl rfl inlX8 2 (by decide) tw3_42 (v := .ref (ad 2 0)) rfl dX8_truth_43 ?_
      refine r_iload_n hX dX8_truth_46 3 rfl ?_
      obtain ⟨hb12, h⟩ := ite_some h
      refine r_iald hX 2 0 kyR2 rfl (t0 := 0) rfl hb12 dX8_truth_47 ?_
      refine r_aload_n hX dX8_truth_48 1 rfl ?_
      refine r_get hX 0 0 kyR0 rfl rfl inlX8 2 (by decide) tw3_42 (v := .ref (ad 2 0)) rfl dX8_truth_49 ?_
      refine r_iload_n hX dX8_truth_52 4 rfl ?_
      obtain ⟨hb13, h⟩ := ite_some h
      refine r_iald hX 2 0 kyR2 rfl (t0 := 0) rfl hb13 dX8_truth_53 ?_
      obtain ⟨r15, hq14, h⟩ := bind_ex h
      refine r_callS hX (As := [.int (μ 2 0 a2.toNatClampNeg), .int (μ 2 0 a3.toNatClampNeg)]) (rest := []) (st' := [.int r15]) (res := (some (.int r15))) (μ' := μ) (mX8_sign (μ 2 0 a2.toNatClampNeg) (μ 2 0 a3.toNatClampNeg) hq14) ckS_X8_116 ⟨rfl, rfl, by decide, by decide⟩ rfl rfl (Nat.le_of_ble_eq_true rfl) dX8_truth_54 rfl ?_
      refine r_goto hX (tgt := 62) dX8_truth_57 (by decide) ?_
      exact r_iret hX hQ (Option.some.inj h) rfl dX8_truth_62
abbrev rmX8_isAhead : Room := { frames := 2, cells := 0, slots := 0, locals := 48 }
noncomputable def jX8_isAhead (μ : Mu) (a1 : Int32) (a2 : Int32) (a3 : Int32) : Option (Int32 × Mu) := (jX8_begins μ a1).bind (fun q2 => (jX8_truth q2.2 a1 a2 a3).bind (fun r4 => if (q2.2 0 0 21) = 0 then if q2.1 = 0 then if 0 ≤ r4 then some (0, q2.2) else some (1, q2.2) else if r4 ≤ 0 then some (0, q2.2) else some (1, q2.2) else some (0, q2.2)))
set_option maxHeartbeats 4000000 in
set_option maxRecDepth 100000 in
theorem mX8_isAhead {l : Launch} {D : va_G} {cI cH cT : ClassId} {ad : Nat → Nat → Nat} {Z : va_W} {μ : Mu} {r : Int32} {μ' : Mu} (a1 : Int32) (a2 : Int32) (a3 : Int32) (h : jX8_isAhead μ a1 a2 a3 = some (r, μ')) : CT (gR l D cI cH cT ad Z) yX8_isAhead (.code yX8_isAhead cX8_isAhead 6 (some .boolean) :: wsL_law) rmX8_isAhead [.ref (ad 0 0), .int a1, .int a2, .int a3] μ (some (.int r)) μ' := by
  refine ct_of (own := RX8) (by decide) ⟨rfl, rfl⟩ (Nat.le_of_ble_eq_true rfl) rfl (fun X hX hQ => ?_)
  have hX : HX (gR l D cI cH cT ad Z) X cX8_isAhead 6 RX8 rmX8_isAhead (some .boolean) := hX
  show V (gR l D cI cH cT ad Z) X 6 μ 0 [(0, .ref (ad 0 0)), (1, .int a1), (2, .int a2), (3, .int a3)] []
  unfold jX8_isAhead at h
  refine r_aload_n hX dX8_isAhead_0 0 rfl ?_
  refine r_iload_n hX dX8_isAhead_1 1 rfl ?_
  obtain ⟨q2, hq1, h⟩ := bind_ex h
  refine r_callV hX 0 0 (As := [.int a1]) (rest := []) (st' := [.int q2.1]) (res := (some (.int q2.1))) (μ' := q2.2) (mX8_begins a1 hq1) ckV_X8_119 ⟨rfl, rfl, by decide, by decide⟩ kyR0 rfl rfl rfl rfl (Nat.le_of_ble_eq_true rfl) dX8_isAhead_2 rfl ?_
  refine r_istore hX dX8_isAhead_5 (lv' := [(4, .int q2.1), (0, .ref (ad 0 0)), (1, .int a1), (2, .int a2), (3, .int a3)]) (by decide) rfl ?_
  refine r_aload_n hX dX8_isAhead_7 1 rfl ?_
  refine r_iload_n hX dX8_isAhead_8 2 rfl ?_
  refine r_iload_n hX dX8_isAhead_9 3 rfl ?_
  refine r_iload_n hX dX8_isAhead_10 4 rfl ?_
  obtain ⟨r4, hq3, h⟩ := bind_ex h
  refine r_callV hX 0 0 (As := [.int a1, .int a2, .int a3]) (rest := []) (st' := [.int r4]) (res := (some (.int r4))) (μ' := q2.2) (mX8_truth a1 a2 a3 hq3) ckV_X8_122 ⟨rfl, rfl, by decide, by decide⟩ kyR0 rfl rfl rfl rfl (Nat.le_of_ble_eq_true rfl) dX8_isAhead_11 rfl ?_
  refine r_istore hX dX8_isAhead_14 (lv' := [(5, .int r4), (4, .int q2.1), (0, .ref (ad 0 0)), (1, .int a1), (2, .int a2), (3, .int a3)]) (by decide) rfl ?_
  refine r_aload_n hX dX8_isAhead_16 2 rfl ?_
  refine r_get hX 0 0 kyR0 rfl rfl inlX8 21 (by decide) tw3_61 (v := .int (q2.2 0 0 21)) rfl dX8_isAhead_17 ?_
  refine r_if_ne hX (tgt := 45) dX8_isAhead_20 (by decide) (fun hc5 => ?_) (fun hc5 => ?_)
  · have h := ite_f hc5 h
    refine r_iconst hX dX8_isAhead_45 (v := 0) (by decide) ?_
    exact r_zret hX (Or.inl rfl) hQ (pr1 h) (pr2 h) dX8_isAhead_46
  · have h := ite_t hc5 h
    refine r_iload hX dX8_isAhead_23 1 rfl ?_
    refine r_if_eq hX (tgt := 36) dX8_isAhead_25 (by decide) (fun hc6 => ?_) (fun hc6 => ?_)
    · have h := ite_t hc6 h
      refine r_iload hX dX8_isAhead_36 0 rfl ?_
      refine r_if_ge hX (tgt := 45) dX8_isAhead_38 (by decide) (fun hc7 => ?_) (fun hc7 => ?_)
      · have h := ite_t hc7 h
        refine r_iconst hX dX8_isAhead_45 (v := 0) (by decide) ?_
        exact r_zret hX (Or.inl rfl) hQ (pr1 h) (pr2 h) dX8_isAhead_46
      · have h := ite_f hc7 h
        refine r_iconst hX dX8_isAhead_41 (v := 1) (by decide) ?_
        refine r_goto hX (tgt := 46) dX8_isAhead_42 (by decide) ?_
        exact r_zret hX (Or.inr rfl) hQ (pr1 h) (pr2 h) dX8_isAhead_46
    · have h := ite_f hc6 h
      refine r_iload hX dX8_isAhead_28 0 rfl ?_
      refine r_if_le hX (tgt := 45) dX8_isAhead_30 (by decide) (fun hc8 => ?_) (fun hc8 => ?_)
      · have h := ite_t hc8 h
        refine r_iconst hX dX8_isAhead_45 (v := 0) (by decide) ?_
        exact r_zret hX (Or.inl rfl) hQ (pr1 h) (pr2 h) dX8_isAhead_46
      · have h := ite_f hc8 h
        refine r_goto hX (tgt := 41) dX8_isAhead_33 (by decide) ?_
        refine r_iconst hX dX8_isAhead_41 (v := 1) (by decide) ?_
        refine r_goto hX (tgt := 46) dX8_isAhead_42 (by decide) ?_
        exact r_zret hX (Or.inr rfl) hQ (pr1 h) (pr2 h) dX8_isAhead_46
abbrev rmX8_tray : Room := { frames := 2, cells := 0, slots := 0, locals := 46 }
noncomputable def jX8_tray_J24  (μ : Mu) (x1 : Int32) (x2 : Int32) : Option (Int32 × Mu) := some ((-1), μ)
set_option maxHeartbeats 4000000 in
set_option maxRecDepth 100000 in
theorem mX8_tray_J24 {l : Launch} {D : va_G} {cI cH cT : ClassId} {ad : Nat → Nat → Nat} {Z : va_W} {X : Cx} (hX : HX (gR l D cI cH cT ad Z) X cX8_tray 3 RX8 rmX8_tray (some .int)) {r : Int32} {μ' : Mu} (hQ : HQ (gR l D cI cH cT ad Z) X (some (.int r)) μ')  (μ : Mu) (x1 : Int32) (x2 : Int32) (h : jX8_tray_J24  μ x1 x2 = some (r, μ')) : V (gR l D cI cH cT ad Z) X 3 μ 24 [(0, .ref (ad 0 0)), (1, .int x1), (2, .int x2)] [] := by
  unfold jX8_tray_J24 at h
  refine r_iconst hX dX8_tray_24 (v := (-1)) (by decide) ?_
  exact r_iret hX hQ (pr1 h) (pr2 h) dX8_tray_25
noncomputable def jX8_tray_J41  (μ : Mu) (x1 : Int32) (x2 : Int32) : Option (Int32 × Mu) := if (μ 0 0 14) = 6 then some ((-3), μ) else if inb (μ 0 0 14) 6 = true then mst (mu_st μ 15 0 (μ 0 0 14).toNatClampNeg x1) (fun μ8 => if x1 = 0 then if inb (μ8 0 0 14) 6 = true then mst (mu_st μ8 16 0 (μ8 0 0 14).toNatClampNeg (-4)) (fun μ14 => mst (mu_st μ14 0 0 14 ((μ14 0 0 14) + 1)) (fun μ15 => some ((μ15 0 0 14) - 1, μ15))) else none else if inb (μ8 0 0 14) 6 = true then mst (mu_st μ8 16 0 (μ8 0 0 14).toNatClampNeg x2) (fun μ11 => mst (mu_st μ11 0 0 14 ((μ11 0 0 14) + 1)) (fun μ12 => some ((μ12 0 0 14) - 1, μ12))) else none) else none
set_option maxHeartbeats 4000000 in
set_option maxRecDepth 100000 in
theorem mX8_tray_J41 {l : Launch} {D : va_G} {cI cH cT : ClassId} {ad : Nat → Nat → Nat} {Z : va_W} {X : Cx} (hX : HX (gR l D cI cH cT ad Z) X cX8_tray 3 RX8 rmX8_tray (some .int)) {r : Int32} {μ' : Mu} (hQ : HQ (gR l D cI cH cT ad Z) X (some (.int r)) μ')  (μ : Mu) (x1 : Int32) (x2 : Int32) (h : jX8_tray_J41  μ x1 x2 = some (r, μ')) : V (gR l D cI cH cT ad Z) X 3 μ 41 [(0, .ref (ad 0 0)), (1, .int x1), (2, .int x2)] [] := by
  unfold jX8_tray_J41 at h
  refine r_aload_n hX dX8_tray_41 0 rfl ?_
  refine r_get hX 0 0 kyR0 rfl rfl inlX8 14 (by decide) tw3_54 (v := .int (μ 0 0 14)) rfl dX8_tray_42 ?_
  refine r_bipush hX dX8_tray_45 (v := 6) (by decide) ?_
  refine r_icmp_ne hX (tgt := 53) dX8_tray_47 (by decide) (fun hc6 => ?_) (fun hc6 => ?_)
  · have h := ite_f hc6 h
    refine r_aload_n hX dX8_tray_53 0 rfl ?_
    refine r_get hX 0 0 kyR0 rfl rfl inlX8 15 (by decide) tw3_55 (v := .ref (ad 15 0)) rfl dX8_tray_54 ?_
    refine r_aload_n hX dX8_tray_57 0 rfl ?_
    refine r_get hX 0 0 kyR0 rfl rfl inlX8 14 (by decide) tw3_54 (v := .int (μ 0 0 14)) rfl dX8_tray_58 ?_
    refine r_iload_n hX dX8_tray_61 1 rfl ?_
    obtain ⟨hb7, h⟩ := ite_some h
    refine r_iast hX 15 0 kyR15 (fun _ => rfl) (t0 := 0) rfl hb7 dX8_tray_62 (fun μ8 eμ8 => ?_)
    have h := mst_at eμ8 h
    refine r_aload_n hX dX8_tray_63 0 rfl ?_
    refine r_get hX 0 0 kyR0 rfl rfl inlX8 16 (by decide) tw3_56 (v := .ref (ad 16 0)) rfl dX8_tray_64 ?_
    refine r_aload_n hX dX8_tray_67 0 rfl ?_
    refine r_get hX 0 0 kyR0 rfl rfl inlX8 14 (by decide) tw3_54 (v := .int (μ8 0 0 14)) rfl dX8_tray_68 ?_
    refine r_iload_n hX dX8_tray_71 1 rfl ?_
    refine r_if_ne hX (tgt := 80) dX8_tray_72 (by decide) (fun hc9 => ?_) (fun hc9 => ?_)
    · have h := ite_f hc9 h
      refine r_iload_n hX dX8_tray_80 2 rfl ?_
      obtain ⟨hb10, h⟩ := ite_some h
      refine r_iast hX 16 0 kyR16 (fun _ => rfl) (t0 := 0) rfl hb10 dX8_tray_81 (fun μ11 eμ11 => ?_)
      have h := mst_at eμ11 h
      refine r_aload_n hX dX8_tray_82 0 rfl ?_
      refine r_dup hX dX8_tray_83 rfl ?_
      refine r_get hX 0 0 kyR0 rfl rfl inlX8 14 (by decide) tw3_54 (v := .int (μ11 0 0 14)) rfl dX8_tray_84 ?_
      refine r_iconst hX dX8_tray_87 (v := 1) (by decide) ?_
      refine r_iadd hX dX8_tray_88 ?_
      refine r_put hX 0 0 kyR0 rfl rfl inlX8 tyX8 tyX8_ok nmX8 14 (by decide) tw3_54 rfl (tyX8_ok 14 (by decide)) rfl rfl (Nat.le_of_ble_eq_true rfl) rfl dX8_tray_89 (fun μ12 eμ12 => ?_)
      have h := mst_at eμ12 h
      refine r_aload_n hX dX8_tray_92 0 rfl ?_
      refine r_get hX 0 0 kyR0 rfl rfl inlX8 14 (by decide) tw3_54 (v := .int (μ12 0 0 14)) rfl dX8_tray_93 ?_
      refine r_iconst hX dX8_tray_96 (v := 1) (by decide) ?_
      refine r_isub hX dX8_tray_97 ?_
      exact r_iret hX hQ (pr1 h) (pr2 h) dX8_tray_98
    · have h := ite_t hc9 h
      refine r_bipush hX dX8_tray_75 (v := (-4)) (by decide) ?_
      refine r_goto hX (tgt := 81) dX8_tray_77 (by decide) ?_
      obtain ⟨hb13, h⟩ := ite_some h
      refine r_iast hX 16 0 kyR16 (fun _ => rfl) (t0 := 0) rfl hb13 dX8_tray_81 (fun μ14 eμ14 => ?_)
      have h := mst_at eμ14 h
      refine r_aload_n hX dX8_tray_82 0 rfl ?_
      refine r_dup hX dX8_tray_83 rfl ?_
      refine r_get hX 0 0 kyR0 rfl rfl inlX8 14 (by decide) tw3_54 (v := .int (μ14 0 0 14)) rfl dX8_tray_84 ?_
      refine r_iconst hX dX8_tray_87 (v := 1) (by decide) ?_
      refine r_iadd hX dX8_tray_88 ?_
      refine r_put hX 0 0 kyR0 rfl rfl inlX8 tyX8 tyX8_ok nmX8 14 (by decide) tw3_54 rfl (tyX8_ok 14 (by decide)) rfl rfl (Nat.le_of_ble_eq_true rfl) rfl dX8_tray_89 (fun μ15 eμ15 => ?_)
      have h := mst_at eμ15 h
      refine r_aload_n hX dX8_tray_92 0 rfl ?_
      refine r_get hX 0 0 kyR0 rfl rfl inlX8 14 (by decide) tw3_54 (v := .int (μ15 0 0 14)) rfl dX8_tray_93 ?_
      refine r_iconst hX dX8_tray_96 (v := 1) (by decide) ?_
      refine r_isub hX dX8_tray_97 ?_
      exact r_iret hX hQ (pr1 h) (pr2 h) dX8_tray_98
  · have h := ite_t hc6 h
    refine r_bipush hX dX8_tray_50 (v := (-3)) (by decide) ?_
    exact r_iret hX hQ (pr1 h) (pr2 h) dX8_tray_52
noncomputable def jX8_tray_J26  (μ : Mu) (x1 : Int32) (x2 : Int32) : Option (Int32 × Mu) := if x1 = 0 then jX8_tray_J41  μ x1 x2 else (jX8_compares μ x2).bind (fun r17 => if r17 = 0 then some ((-2), μ) else jX8_tray_J41  μ x1 x2)
set_option maxHeartbeats 4000000 in
set_option maxRecDepth 100000 in
theorem mX8_tray_J26 {l : Launch} {D : va_G} {cI cH cT : ClassId} {ad : Nat → Nat → Nat} {Z : va_W} {X : Cx} (hX : HX (gR l D cI cH cT ad Z) X cX8_tray 3 RX8 rmX8_tray (some .int)) {r : Int32} {μ' : Mu} (hQ : HQ (gR l D cI cH cT ad Z) X (some (.int r)) μ')  (μ : Mu) (x1 : Int32) (x2 : Int32) (h : jX8_tray_J26  μ x1 x2 = some (r, μ')) : V (gR l D cI cH cT ad Z) X 3 μ 26 [(0, .ref (ad 0 0)), (1, .int x1), (2, .int x2)] [] := by
  unfold jX8_tray_J26 at h
  refine r_iload_n hX dX8_tray_26 1 rfl ?_
  refine r_if_eq hX (tgt := 41) dX8_tray_27 (by decide) (fun hc5 => ?_) (fun hc5 => ?_)
  · have h := ite_t hc5 h
    refine r_sub [0, 1, 2] rfl ?_
    exact mX8_tray_J41 hX hQ  μ x1 x2 h
  · have h := ite_f hc5 h
    refine r_aload_n hX dX8_tray_30 0 rfl ?_
    refine r_iload_n hX dX8_tray_31 2 rfl ?_
    obtain ⟨r17, hq16, h⟩ := bind_ex h
    refine r_callV hX 0 0 (As := [.int x2]) (rest := []) (st' := [.int r17]) (res := (some (.int r17))) (μ' := μ) (mX8_compares x2 hq16) ckV_X8_126 ⟨rfl, rfl, by decide, by decide⟩ kyR0 rfl rfl rfl rfl (Nat.le_of_ble_eq_true rfl) dX8_tray_32 rfl ?_
    refine r_if_ne hX (tgt := 41) dX8_tray_35 (by decide) (fun hc18 => ?_) (fun hc18 => ?_)
    · have h := ite_f hc18 h
      refine r_sub [0, 1, 2] rfl ?_
      exact mX8_tray_J41 hX hQ  μ x1 x2 h
    · have h := ite_t hc18 h
      refine r_bipush hX dX8_tray_38 (v := (-2)) (by decide) ?_
      exact r_iret hX hQ (pr1 h) (pr2 h) dX8_tray_40
noncomputable def jX8_tray (μ : Mu) (a1 : Int32) (a2 : Int32) : Option (Int32 × Mu) := (jX8_in a1.toInt64 0 (2)).bind (fun r2 => if r2 = 0 then jX8_tray_J24  μ a1 a2 else if a1 = 0 then jX8_tray_J26  μ a1 a2 else (jX8_isHook μ a2).bind (fun r20 => if r20 = 0 then jX8_tray_J24  μ a1 a2 else jX8_tray_J26  μ a1 a2))
set_option maxHeartbeats 4000000 in
set_option maxRecDepth 100000 in
theorem mX8_tray {l : Launch} {D : va_G} {cI cH cT : ClassId} {ad : Nat → Nat → Nat} {Z : va_W} {μ : Mu} {r : Int32} {μ' : Mu} (a1 : Int32) (a2 : Int32) (h : jX8_tray μ a1 a2 = some (r, μ')) : CT (gR l D cI cH cT ad Z) yX8_tray (.code yX8_tray cX8_tray 3 (some .int) :: wsL_law) rmX8_tray [.ref (ad 0 0), .int a1, .int a2] μ (some (.int r)) μ' := by
  refine ct_of (own := RX8) (by decide) ⟨rfl, rfl⟩ (Nat.le_of_ble_eq_true rfl) rfl (fun X hX hQ => ?_)
  have hX : HX (gR l D cI cH cT ad Z) X cX8_tray 3 RX8 rmX8_tray (some .int) := hX
  show V (gR l D cI cH cT ad Z) X 3 μ 0 [(0, .ref (ad 0 0)), (1, .int a1), (2, .int a2)] []
  unfold jX8_tray at h
  refine r_iload_n hX dX8_tray_0 1 rfl ?_
  refine r_i2l hX dX8_tray_1 ?_
  refine r_lconst hX dX8_tray_2 (v := 0) (by decide) ?_
  refine r_ldc2 hX dX8_tray_3 tw3_159 ?_
  obtain ⟨r2, hq1, h⟩ := bind_ex h
  refine r_callS hX (As := [.long a1.toInt64, .long 0, .long (2)]) (rest := []) (st' := [.int r2]) (res := (some (.int r2))) (μ' := μ) (mX8_in a1.toInt64 0 (2) hq1) ckS_X8_68 ⟨rfl, rfl, by decide, by decide⟩ rfl rfl (Nat.le_of_ble_eq_true rfl) dX8_tray_6 rfl ?_
  refine r_if_eq hX (tgt := 24) dX8_tray_9 (by decide) (fun hc3 => ?_) (fun hc3 => ?_)
  · have h := ite_t hc3 h
    refine r_sub [0, 1, 2] rfl ?_
    exact mX8_tray_J24 hX hQ  μ a1 a2 h
  · have h := ite_f hc3 h
    refine r_iload_n hX dX8_tray_12 1 rfl ?_
    refine r_if_eq hX (tgt := 26) dX8_tray_13 (by decide) (fun hc4 => ?_) (fun hc4 => ?_)
    · have h := ite_t hc4 h
      refine r_sub [0, 1, 2] rfl ?_
      exact mX8_tray_J26 hX hQ  μ a1 a2 h
    · have h := ite_f hc4 h
      refine r_aload_n hX dX8_tray_16 0 rfl ?_
      refine r_iload_n hX dX8_tray_17 2 rfl ?_
      obtain ⟨r20, hq19, h⟩ := bind_ex h
      refine r_callV hX 0 0 (As := [.int a2]) (rest := []) (st' := [.int r20]) (res := (some (.int r20))) (μ' := μ) (mX8_isHook a2 hq19) ckV_X8_91 ⟨rfl, rfl, by decide, by decide⟩ kyR0 rfl rfl rfl rfl (Nat.le_of_ble_eq_true rfl) dX8_tray_18 rfl ?_
      refine r_if_ne hX (tgt := 26) dX8_tray_21 (by decide) (fun hc21 => ?_) (fun hc21 => ?_)
      · have h := ite_f hc21 h
        refine r_sub [0, 1, 2] rfl ?_
        exact mX8_tray_J26 hX hQ  μ a1 a2 h
      · have h := ite_t hc21 h
        refine r_sub [0, 1, 2] rfl ?_
        exact mX8_tray_J24 hX hQ  μ a1 a2 h
abbrev rmX8_beginAct : Room := { frames := 0, cells := 0, slots := 0, locals := 0 }
noncomputable def jX8_beginAct_L38  : Nat → Mu → Int32 → Option (Mu)
  | 0, _, _ => none
  | n7 + 1, μ, x1 => if 8 ≤ x1 then some μ else if inb x1 8 = true then mst (mu_st μ 7 0 x1.toNatClampNeg 0) (fun μ10 => jX8_beginAct_L38 n7 μ10 (x1 + 1)) else none
set_option maxHeartbeats 4000000 in
set_option maxRecDepth 100000 in
theorem mX8_beginAct_L38 {l : Launch} {D : va_G} {cI cH cT : ClassId} {ad : Nat → Nat → Nat} {Z : va_W} {X : Cx} (hX : HX (gR l D cI cH cT ad Z) X cX8_beginAct 2 RX8 rmX8_beginAct none) {μ' : Mu} (hQ : HQ (gR l D cI cH cT ad Z) X none μ')  : ∀ (n7 : Nat) (μ : Mu) (x1 : Int32), jX8_beginAct_L38  n7 μ x1 = some μ' → V (gR l D cI cH cT ad Z) X 2 μ 38 [(0, .ref (ad 0 0)), (1, .int x1)] [] := by
  intro n7
  induction n7 with
  | zero => intro μ x1 h; exact none_no h
  | succ n7 ih =>
    intro μ x1 h
    rw [jX8_beginAct_L38] at h
    refine r_iload_n hX dX8_beginAct_38 1 rfl ?_
    refine r_bipush hX dX8_beginAct_39 (v := 8) (by decide) ?_
    refine r_icmp_ge hX (tgt := 57) dX8_beginAct_41 (by decide) (fun hc8 => ?_) (fun hc8 => ?_)
    · have h := ite_t hc8 h
      exact r_vret hX hQ (Option.some.inj h) dX8_beginAct_57
    · have h := ite_f hc8 h
      refine r_aload_n hX dX8_beginAct_44 0 rfl ?_
      refine r_get hX 0 0 kyR0 rfl rfl inlX8 7 (by decide) tw3_47 (v := .ref (ad 7 0)) rfl dX8_beginAct_45 ?_
      refine r_iload_n hX dX8_beginAct_48 1 rfl ?_
      refine r_iconst hX dX8_beginAct_49 (v := 0) (by decide) ?_
      obtain ⟨hb9, h⟩ := ite_some h
      refine r_iast hX 7 0 kyR7 (fun _ => rfl) (t0 := 0) rfl hb9 dX8_beginAct_50 (fun μ10 eμ10 => ?_)
      have h := mst_at eμ10 h
      refine r_iinc hX dX8_beginAct_51 (j := 1) (v := x1 + 1) (lv' := [(1, .int (x1 + 1)), (0, .ref (ad 0 0))]) rfl (congrArg (x1 + ·) (by decide)) (by decide) rfl ?_
      refine r_goto hX (tgt := 38) dX8_beginAct_54 (by decide) ?_
      refine r_sub [1, 0] rfl ?_
      exact ih μ10 (x1 + 1) h
noncomputable def jX8_beginAct (μ : Mu)  : Option (Mu) := mst (mu_st μ 0 0 19 ((μ 0 0 19) + 1)) (fun μ1 => mst (mu_st μ1 0 0 21 0) (fun μ2 => mst (mu_st μ2 0 0 22 0) (fun μ3 => mst (mu_st μ3 0 0 23 (-4)) (fun μ4 => mst (mu_st μ4 0 0 24 0) (fun μ5 => mst (mu_st μ5 0 0 25 0) (fun μ6 => jX8_beginAct_L38  fuel μ6 0))))))
set_option maxHeartbeats 4000000 in
set_option maxRecDepth 100000 in
theorem mX8_beginAct {l : Launch} {D : va_G} {cI cH cT : ClassId} {ad : Nat → Nat → Nat} {Z : va_W} {μ : Mu} {μ' : Mu}  (h : jX8_beginAct μ  = some μ') : CT (gR l D cI cH cT ad Z) yX8_beginAct (.code yX8_beginAct cX8_beginAct 2 none :: wsL_law) rmX8_beginAct [.ref (ad 0 0)] μ none μ' := by
  refine ct_of (own := RX8) (by decide) ⟨rfl, rfl⟩ (Nat.le_of_ble_eq_true rfl) rfl (fun X hX hQ => ?_)
  have hX : HX (gR l D cI cH cT ad Z) X cX8_beginAct 2 RX8 rmX8_beginAct none := hX
  show V (gR l D cI cH cT ad Z) X 2 μ 0 [(0, .ref (ad 0 0))] []
  unfold jX8_beginAct at h
  refine r_aload_n hX dX8_beginAct_0 0 rfl ?_
  refine r_dup hX dX8_beginAct_1 rfl ?_
  refine r_get hX 0 0 kyR0 rfl rfl inlX8 19 (by decide) tw3_59 (v := .int (μ 0 0 19)) rfl dX8_beginAct_2 ?_
  refine r_iconst hX dX8_beginAct_5 (v := 1) (by decide) ?_
  refine r_iadd hX dX8_beginAct_6 ?_
  refine r_put hX 0 0 kyR0 rfl rfl inlX8 tyX8 tyX8_ok nmX8 19 (by decide) tw3_59 rfl (tyX8_ok 19 (by decide)) rfl rfl (Nat.le_of_ble_eq_true rfl) rfl dX8_beginAct_7 (fun μ1 eμ1 => ?_)
  have h := mst_at eμ1 h
  refine r_aload_n hX dX8_beginAct_10 0 rfl ?_
  refine r_iconst hX dX8_beginAct_11 (v := 0) (by decide) ?_
  refine r_put hX 0 0 kyR0 rfl rfl inlX8 tyX8 tyX8_ok nmX8 21 (by decide) tw3_61 rfl (tyX8_ok 21 (by decide)) rfl rfl (Nat.le_of_ble_eq_true rfl) rfl dX8_beginAct_12 (fun μ2 eμ2 => ?_)
  have h := mst_at eμ2 h
  refine r_aload_n hX dX8_beginAct_15 0 rfl ?_
  refine r_iconst hX dX8_beginAct_16 (v := 0) (by decide) ?_
  refine r_put hX 0 0 kyR0 rfl rfl inlX8 tyX8 tyX8_ok nmX8 22 (by decide) tw3_62 rfl (tyX8_ok 22 (by decide)) rfl rfl (Nat.le_of_ble_eq_true rfl) rfl dX8_beginAct_17 (fun μ3 eμ3 => ?_)
  have h := mst_at eμ3 h
  refine r_aload_n hX dX8_beginAct_20 0 rfl ?_
  refine r_bipush hX dX8_beginAct_21 (v := (-4)) (by decide) ?_
  refine r_put hX 0 0 kyR0 rfl rfl inlX8 tyX8 tyX8_ok nmX8 23 (by decide) tw3_63 rfl (tyX8_ok 23 (by decide)) rfl rfl (Nat.le_of_ble_eq_true rfl) rfl dX8_beginAct_23 (fun μ4 eμ4 => ?_)
  have h := mst_at eμ4 h
  refine r_aload_n hX dX8_beginAct_26 0 rfl ?_
  refine r_iconst hX dX8_beginAct_27 (v := 0) (by decide) ?_
  refine r_put hX 0 0 kyR0 rfl rfl inlX8 tyX8 tyX8_ok nmX8 24 (by decide) tw3_64 rfl (tyX8_ok 24 (by decide)) rfl rfl (Nat.le_of_ble_eq_true rfl) rfl dX8_beginAct_28 (fun μ5 eμ5 => ?_)
  have h := mst_at eμ5 h
  refine r_aload_n hX dX8_beginAct_31 0 rfl ?_
  refine r_iconst hX dX8_beginAct_32 (v := 0) (by decide) ?_
  refine r_put hX 0 0 kyR0 rfl rfl inlX8 tyX8 tyX8_ok nmX8 25 (by decide) tw3_65 rfl (tyX8_ok 25 (by decide)) rfl rfl (Nat.le_of_ble_eq_true rfl) rfl dX8_beginAct_33 (fun μ6 eμ6 => ?_)
  have h := mst_at eμ6 h
  refine r_iconst hX dX8_beginAct_36 (v := 0) (by decide) ?_
  refine r_istore_n hX dX8_beginAct_37 (lv' := [(1, .int 0), (0, .ref (ad 0 0))]) (by decide) rfl ?_
  refine r_sub [1, 0] rfl ?_
  exact mX8_beginAct_L38 hX hQ  fuel μ6 0 h
abbrev rmX8_load : Room := { frames := 0, cells := 0, slots := 0, locals := 0 }
noncomputable def jX8_load_L12 (x1 : Int32) : Nat → Mu → Int32 → Option (Mu)
  | 0, _, _ => none
  | n3 + 1, μ, x2 => if (μ 0 0 26) ≤ x2 then some μ else if inb ((40 * x1) + x2) 240 = true then if inb x2 41 = true then mst (mu_st μ 27 0 x2.toNatClampNeg (μ 18 0 ((40 * x1) + x2).toNatClampNeg)) (fun μ7 => jX8_load_L12 x1 n3 μ7 (x2 + 1)) else none else none
set_option maxHeartbeats 4000000 in
set_option maxRecDepth 100000 in
theorem mX8_load_L12 {l : Launch} {D : va_G} {cI cH cT : ClassId} {ad : Nat → Nat → Nat} {Z : va_W} {X : Cx} (hX : HX (gR l D cI cH cT ad Z) X cX8_load 3 RX8 rmX8_load none) {μ' : Mu} (hQ : HQ (gR l D cI cH cT ad Z) X none μ') (x1 : Int32) : ∀ (n3 : Nat) (μ : Mu) (x2 : Int32), jX8_load_L12 x1 n3 μ x2 = some μ' → V (gR l D cI cH cT ad Z) X 3 μ 12 [(0, .ref (ad 0 0)), (1, .int x1), (2, .int x2)] [] := by
  intro n3
  induction n3 with
  | zero => intro μ x2 h; exact none_no h
  | succ n3 ih =>
    intro μ x2 h
    rw [jX8_load_L12] at h
    refine r_iload_n hX dX8_load_12 2 rfl ?_
    refine r_aload_n hX dX8_load_13 0 rfl ?_
    refine r_get hX 0 0 kyR0 rfl rfl inlX8 26 (by decide) tw3_66 (v := .int (μ 0 0 26)) rfl dX8_load_14 ?_
    refine r_icmp_ge hX (tgt := 43) dX8_load_17 (by decide) (fun hc4 => ?_) (fun hc4 => ?_)
    · have h := ite_t hc4 h
      exact r_vret hX hQ (Option.some.inj h) dX8_load_43
    · have h := ite_f hc4 h
      refine r_aload_n hX dX8_load_20 0 rfl ?_
      refine r_get hX 0 0 kyR0 rfl rfl inlX8 27 (by decide) tw3_67 (v := .ref (ad 27 0)) rfl dX8_load_21 ?_
      refine r_iload_n hX dX8_load_24 2 rfl ?_
      refine r_aload_n hX dX8_load_25 0 rfl ?_
      refine r_get hX 0 0 kyR0 rfl rfl inlX8 18 (by decide) tw3_58 (v := .ref (ad 18 0)) rfl dX8_load_26 ?_
      refine r_bipush hX dX8_load_29 (v := 40) (by decide) ?_
      refine r_iload_n hX dX8_load_31 1 rfl ?_
      refine r_imul hX dX8_load_32 ?_
      refine r_iload_n hX dX8_load_33 2 rfl ?_
      refine r_iadd hX dX8_load_34 ?_
      obtain ⟨hb5, h⟩ := ite_some h
      refine r_iald hX 18 0 kyR18 rfl (t0 := 0) rfl hb5 dX8_load_35 ?_
      obtain ⟨hb6, h⟩ := ite_some h
      refine r_iast hX 27 0 kyR27 (fun _ => rfl) (t0 := 0) rfl hb6 dX8_load_36 (fun μ7 eμ7 => ?_)
      have h := mst_at eμ7 h
      refine r_iinc hX dX8_load_37 (j := 2) (v := x2 + 1) (lv' := [(2, .int (x2 + 1)), (0, .ref (ad 0 0)), (1, .int x1)]) rfl (congrArg (x2 + ·) (by decide)) (by decide) rfl ?_
      refine r_goto hX (tgt := 12) dX8_load_40 (by decide) ?_
      refine r_sub [1, 2, 0] rfl ?_
      exact ih μ7 (x2 + 1) h
noncomputable def jX8_load (μ : Mu) (a1 : Int32) : Option (Mu) := if inb a1 6 = true then mst (mu_st μ 0 0 26 (μ 17 0 a1.toNatClampNeg)) (fun μ2 => jX8_load_L12 a1 fuel μ2 0) else none
set_option maxHeartbeats 4000000 in
set_option maxRecDepth 100000 in
theorem mX8_load {l : Launch} {D : va_G} {cI cH cT : ClassId} {ad : Nat → Nat → Nat} {Z : va_W} {μ : Mu} {μ' : Mu} (a1 : Int32) (h : jX8_load μ a1 = some μ') : CT (gR l D cI cH cT ad Z) yX8_load (.code yX8_load cX8_load 3 none :: wsL_law) rmX8_load [.ref (ad 0 0), .int a1] μ none μ' := by
  refine ct_of (own := RX8) (by decide) ⟨rfl, rfl⟩ (Nat.le_of_ble_eq_true rfl) rfl (fun X hX hQ => ?_)
  have hX : HX (gR l D cI cH cT ad Z) X cX8_load 3 RX8 rmX8_load none := hX
  show V (gR l D cI cH cT ad Z) X 3 μ 0 [(0, .ref (ad 0 0)), (1, .int a1)] []
  unfold jX8_load at h
  refine r_aload_n hX dX8_load_0 0 rfl ?_
  refine r_aload_n hX dX8_load_1 0 rfl ?_
  refine r_get hX 0 0 kyR0 rfl rfl inlX8 17 (by decide) tw3_57 (v := .ref (ad 17 0)) rfl dX8_load_2 ?_
  refine r_iload_n hX dX8_load_5 1 rfl ?_
  obtain ⟨hb1, h⟩ := ite_some h
  refine r_iald hX 17 0 kyR17 rfl (t0 := 0) rfl hb1 dX8_load_6 ?_
  refine r_put hX 0 0 kyR0 rfl rfl inlX8 tyX8 tyX8_ok nmX8 26 (by decide) tw3_66 rfl (tyX8_ok 26 (by decide)) rfl rfl (Nat.le_of_ble_eq_true rfl) rfl dX8_load_7 (fun μ2 eμ2 => ?_)
  have h := mst_at eμ2 h
  refine r_iconst hX dX8_load_10 (v := 0) (by decide) ?_
  refine r_istore_n hX dX8_load_11 (lv' := [(2, .int 0), (0, .ref (ad 0 0)), (1, .int a1)]) (by decide) rfl ?_
  refine r_sub [1, 2, 0] rfl ?_
  exact mX8_load_L12 hX hQ a1 fuel μ2 0 h
abbrev rmX8_give : Room := { frames := 0, cells := 0, slots := 0, locals := 0 }
noncomputable def jX8_give_L12 (x1 : Int32) : Nat → Mu → Int32 → Option (Mu)
  | 0, _, _ => none
  | n3 + 1, μ, x2 => if (μ 0 0 26) ≤ x2 then some μ else if inb x2 41 = true then if inb ((40 * x1) + x2) 240 = true then mst (mu_st μ 18 0 ((40 * x1) + x2).toNatClampNeg (μ 27 0 x2.toNatClampNeg)) (fun μ7 => jX8_give_L12 x1 n3 μ7 (x2 + 1)) else none else none
set_option maxHeartbeats 4000000 in
set_option maxRecDepth 100000 in
theorem mX8_give_L12 {l : Launch} {D : va_G} {cI cH cT : ClassId} {ad : Nat → Nat → Nat} {Z : va_W} {X : Cx} (hX : HX (gR l D cI cH cT ad Z) X cX8_give 3 RX8 rmX8_give none) {μ' : Mu} (hQ : HQ (gR l D cI cH cT ad Z) X none μ') (x1 : Int32) : ∀ (n3 : Nat) (μ : Mu) (x2 : Int32), jX8_give_L12 x1 n3 μ x2 = some μ' → V (gR l D cI cH cT ad Z) X 3 μ 12 [(0, .ref (ad 0 0)), (1, .int x1), (2, .int x2)] [] := by
  intro n3
  induction n3 with
  | zero => intro μ x2 h; exact none_no h
  | succ n3 ih =>
    intro μ x2 h
    rw [jX8_give_L12] at h
    refine r_iload_n hX dX8_give_12 2 rfl ?_
    refine r_aload_n hX dX8_give_13 0 rfl ?_
    refine r_get hX 0 0 kyR0 rfl rfl inlX8 26 (by decide) tw3_66 (v := .int (μ 0 0 26)) rfl dX8_give_14 ?_
    refine r_icmp_ge hX (tgt := 43) dX8_give_17 (by decide) (fun hc4 => ?_) (fun hc4 => ?_)
    · have h := ite_t hc4 h
      exact r_vret hX hQ (Option.some.inj h) dX8_give_43
    · have h := ite_f hc4 h
      refine r_aload_n hX dX8_give_20 0 rfl ?_
      refine r_get hX 0 0 kyR0 rfl rfl inlX8 18 (by decide) tw3_58 (v := .ref (ad 18 0)) rfl dX8_give_21 ?_
      refine r_bipush hX dX8_give_24 (v := 40) (by decide) ?_
      refine r_iload_n hX dX8_give_26 1 rfl ?_
      refine r_imul hX dX8_give_27 ?_
      refine r_iload_n hX dX8_give_28 2 rfl ?_
      refine r_iadd hX dX8_give_29 ?_
      refine r_aload_n hX dX8_give_30 0 rfl ?_
      refine r_get hX 0 0 kyR0 rfl rfl inlX8 27 (by decide) tw3_67 (v := .ref (ad 27 0)) rfl dX8_give_31 ?_
      refine r_iload_n hX dX8_give_34 2 rfl ?_
      obtain ⟨hb5, h⟩ := ite_some h
      refine r_iald hX 27 0 kyR27 rfl (t0 := 0) rfl hb5 dX8_give_35 ?_
      obtain ⟨hb6, h⟩ := ite_some h
      refine r_iast hX 18 0 kyR18 (fun _ => rfl) (t0 := 0) rfl hb6 dX8_give_36 (fun μ7 eμ7 => ?_)
      have h := mst_at eμ7 h
      refine r_iinc hX dX8_give_37 (j := 2) (v := x2 + 1) (lv' := [(2, .int (x2 + 1)), (0, .ref (ad 0 0)), (1, .int x1)]) rfl (congrArg (x2 + ·) (by decide)) (by decide) rfl ?_
      refine r_goto hX (tgt := 12) dX8_give_40 (by decide) ?_
      refine r_sub [1, 2, 0] rfl ?_
      exact ih μ7 (x2 + 1) h
noncomputable def jX8_give (μ : Mu) (a1 : Int32) : Option (Mu) := if inb a1 6 = true then mst (mu_st μ 17 0 a1.toNatClampNeg (μ 0 0 26)) (fun μ2 => jX8_give_L12 a1 fuel μ2 0) else none
set_option maxHeartbeats 4000000 in
set_option maxRecDepth 100000 in
theorem mX8_give {l : Launch} {D : va_G} {cI cH cT : ClassId} {ad : Nat → Nat → Nat} {Z : va_W} {μ : Mu} {μ' : Mu} (a1 : Int32) (h : jX8_give μ a1 = some μ') : CT (gR l D cI cH cT ad Z) yX8_give (.code yX8_give cX8_give 3 none :: wsL_law) rmX8_give [.ref (ad 0 0), .int a1] μ none μ' := by
  refine ct_of (own := RX8) (by decide) ⟨rfl, rfl⟩ (Nat.le_of_ble_eq_true rfl) rfl (fun X hX hQ => ?_)
  have hX : HX (gR l D cI cH cT ad Z) X cX8_give 3 RX8 rmX8_give none := hX
  show V (gR l D cI cH cT ad Z) X 3 μ 0 [(0, .ref (ad 0 0)), (1, .int a1)] []
  unfold jX8_give at h
  refine r_aload_n hX dX8_give_0 0 rfl ?_
  refine r_get hX 0 0 kyR0 rfl rfl inlX8 17 (by decide) tw3_57 (v := .ref (ad 17 0)) rfl dX8_give_1 ?_
  refine r_iload_n hX dX8_give_4 1 rfl ?_
  refine r_aload_n hX dX8_give_5 0 rfl ?_
  refine r_get hX 0 0 kyR0 rfl rfl inlX8 26 (by decide) tw3_66 (v := .int (μ 0 0 26)) rfl dX8_give_6 ?_
  obtain ⟨hb1, h⟩ := ite_some h
  refine r_iast hX 17 0 kyR17 (fun _ => rfl) (t0 := 0) rfl hb1 dX8_give_9 (fun μ2 eμ2 => ?_)
  have h := mst_at eμ2 h
  refine r_iconst hX dX8_give_10 (v := 0) (by decide) ?_
  refine r_istore_n hX dX8_give_11 (lv' := [(2, .int 0), (0, .ref (ad 0 0)), (1, .int a1)]) (by decide) rfl ?_
  refine r_sub [1, 2, 0] rfl ?_
  exact mX8_give_L12 hX hQ a1 fuel μ2 0 h
abbrev rmX8_ends : Room := { frames := 1, cells := 0, slots := 0, locals := 22 }
noncomputable def jX8_ends (μ : Mu) (a1 : Int32) : Option (Int32 × Mu) := if (μ 0 0 21) = 0 then (jX8_give μ a1).bind (fun μ3 => some (0, μ3)) else mst (mu_st μ 0 0 20 ((μ 0 0 20) + 1)) (fun μ4 => some (1, μ4))
set_option maxHeartbeats 4000000 in
set_option maxRecDepth 100000 in
theorem mX8_ends {l : Launch} {D : va_G} {cI cH cT : ClassId} {ad : Nat → Nat → Nat} {Z : va_W} {μ : Mu} {r : Int32} {μ' : Mu} (a1 : Int32) (h : jX8_ends μ a1 = some (r, μ')) : CT (gR l D cI cH cT ad Z) yX8_ends (.code yX8_ends cX8_ends 2 (some .int) :: wsL_law) rmX8_ends [.ref (ad 0 0), .int a1] μ (some (.int r)) μ' := by
  refine ct_of (own := RX8) (by decide) ⟨rfl, rfl⟩ (Nat.le_of_ble_eq_true rfl) rfl (fun X hX hQ => ?_)
  have hX : HX (gR l D cI cH cT ad Z) X cX8_ends 2 RX8 rmX8_ends (some .int) := hX
  show V (gR l D cI cH cT ad Z) X 2 μ 0 [(0, .ref (ad 0 0)), (1, .int a1)] []
  unfold jX8_ends at h
  refine r_aload_n hX dX8_ends_0 0 rfl ?_
  refine r_get hX 0 0 kyR0 rfl rfl inlX8 21 (by decide) tw3_61 (v := .int (μ 0 0 21)) rfl dX8_ends_1 ?_
  refine r_if_eq hX (tgt := 19) dX8_ends_4 (by decide) (fun hc1 => ?_) (fun hc1 => ?_)
  · have h := ite_t hc1 h
    refine r_aload_n hX dX8_ends_19 0 rfl ?_
    refine r_iload_n hX dX8_ends_20 1 rfl ?_
    obtain ⟨μ3, hq2, h⟩ := bind_ex h
    refine r_callV hX 0 0 (As := [.int a1]) (rest := []) (st' := []) (res := none) (μ' := μ3) (mX8_give a1 hq2) ckV_X8_141 ⟨rfl, rfl, by decide, by decide⟩ kyR0 rfl rfl rfl rfl (Nat.le_of_ble_eq_true rfl) dX8_ends_21 rfl ?_
    refine r_iconst hX dX8_ends_24 (v := 0) (by decide) ?_
    exact r_iret hX hQ (pr1 h) (pr2 h) dX8_ends_25
  · have h := ite_f hc1 h
    refine r_aload_n hX dX8_ends_7 0 rfl ?_
    refine r_dup hX dX8_ends_8 rfl ?_
    refine r_get hX 0 0 kyR0 rfl rfl inlX8 20 (by decide) tw3_60 (v := .int (μ 0 0 20)) rfl dX8_ends_9 ?_
    refine r_iconst hX dX8_ends_12 (v := 1) (by decide) ?_
    refine r_iadd hX dX8_ends_13 ?_
    refine r_put hX 0 0 kyR0 rfl rfl inlX8 tyX8 tyX8_ok nmX8 20 (by decide) tw3_60 rfl (tyX8_ok 20 (by decide)) rfl rfl (Nat.le_of_ble_eq_true rfl) rfl dX8_ends_14 (fun μ4 eμ4 => ?_)
    have h := mst_at eμ4 h
    refine r_iconst hX dX8_ends_17 (v := 1) (by decide) ?_
    exact r_iret hX hQ (pr1 h) (pr2 h) dX8_ends_18
