abbrev rmX7_isWithin : Room := { frames := 0, cells := 0, slots := 0, locals := 0 }
noncomputable def jX7_isWithin (a1 : Int32) (a2 : Int32) (a3 : Int32) : Option (Int32) := if a1 < a2 then some 0 else if a3 < a1 then some 0 else some 1
set_option maxHeartbeats 4000000 in
set_option maxRecDepth 100000 in
theorem mX7_isWithin {l : Launch} {D : va_G} {cI cH cT : ClassId} {ad : Nat → Nat → Nat} {Z : va_W} {μ : Mu} {r : Int32} (a1 : Int32) (a2 : Int32) (a3 : Int32) (h : jX7_isWithin a1 a2 a3 = some r) : CT (gC l D cI cH cT ad Z) yX7_isWithin (.code yX7_isWithin cX7_isWithin 3 (some .boolean) :: wsL_law) rmX7_isWithin [.int a1, .int a2, .int a3] μ (some (.int r)) μ := by
  refine ct_of (own := RX7) (by decide) ⟨rfl, rfl⟩ (Nat.le_of_ble_eq_true rfl) rfl (fun X hX hQ => ?_)
  have hX : HX (gC l D cI cH cT ad Z) X cX7_isWithin 3 RX7 rmX7_isWithin (some .boolean) := hX
  show V (gC l D cI cH cT ad Z) X 3 μ 0 [(0, .int a1), (1, .int a2), (2, .int a3)] []
  unfold jX7_isWithin at h
  refine r_iload_n hX dX7_isWithin_0 0 rfl ?_
  refine r_iload_n hX dX7_isWithin_1 1 rfl ?_
  refine r_icmp_lt hX (tgt := 14) dX7_isWithin_2 (by decide) (fun hc1 => ?_) (fun hc1 => ?_)
  · have h := ite_t hc1 h
    refine r_iconst hX dX7_isWithin_14 (v := 0) (by decide) ?_
    exact r_zret hX (Or.inl rfl) hQ (Option.some.inj h) rfl dX7_isWithin_15
  · have h := ite_f hc1 h
    refine r_iload_n hX dX7_isWithin_5 0 rfl ?_
    refine r_iload_n hX dX7_isWithin_6 2 rfl ?_
    refine r_icmp_gt hX (tgt := 14) dX7_isWithin_7 (by decide) (fun hc2 => ?_) (fun hc2 => ?_)
    · have h := ite_t hc2 h
      refine r_iconst hX dX7_isWithin_14 (v := 0) (by decide) ?_
      exact r_zret hX (Or.inl rfl) hQ (Option.some.inj h) rfl dX7_isWithin_15
    · have h := ite_f hc2 h
      refine r_iconst hX dX7_isWithin_10 (v := 1) (by decide) ?_
      refine r_goto hX (tgt := 15) dX7_isWithin_11 (by decide) ?_
      exact r_zret hX (Or.inr rfl) hQ (Option.some.inj h) rfl dX7_isWithin_15
abbrev rmX7_card : Room := { frames := 1, cells := 0, slots := 0, locals := 22 }
noncomputable def jX7_card (μ : Mu) (a1 : Int32) (a2 : Int32) : Option (Int32 × Mu) := (jX7_isWithin a2 0 99).bind (fun r2 => if r2 = 0 then some ((-1), μ) else (jX0_add μ a1 a2).bind (fun q5 => some (q5.1, q5.2)))
set_option maxHeartbeats 4000000 in
set_option maxRecDepth 100000 in
theorem mX7_card {l : Launch} {D : va_G} {cI cH cT : ClassId} {ad : Nat → Nat → Nat} {Z : va_W} {μ : Mu} {r : Int32} {μ' : Mu} (a1 : Int32) (a2 : Int32) (h : jX7_card μ a1 a2 = some (r, μ')) : CT (gC l D cI cH cT ad Z) yX7_card (.code yX7_card cX7_card 3 (some .int) :: wsL_law) rmX7_card [.ref (ad 0 0), .int a1, .int a2] μ (some (.int r)) μ' := by
  refine ct_of (own := RX7) (by decide) ⟨rfl, rfl⟩ (Nat.le_of_ble_eq_true rfl) rfl (fun X hX hQ => ?_)
  have hX : HX (gC l D cI cH cT ad Z) X cX7_card 3 RX7 rmX7_card (some .int) := hX
  show V (gC l D cI cH cT ad Z) X 3 μ 0 [(0, .ref (ad 0 0)), (1, .int a1), (2, .int a2)] []
  unfold jX7_card at h
  refine r_iload_n hX dX7_card_0 2 rfl ?_
  refine r_iconst hX dX7_card_1 (v := 0) (by decide) ?_
  refine r_bipush hX dX7_card_2 (v := 99) (by decide) ?_
  obtain ⟨r2, hq1, h⟩ := bind_ex h
  refine r_callS hX (As := [.int a2, .int 0, .int 99]) (rest := []) (st' := [.int r2]) (res := (some (.int r2))) (μ' := μ) (mX7_isWithin a2 0 99 hq1) ckS_X7_37 ⟨rfl, rfl, by decide, by decide⟩ rfl rfl (Nat.le_of_ble_eq_true rfl) dX7_card_4 rfl ?_
  refine r_if_ne hX (tgt := 12) dX7_card_7 (by decide) (fun hc3 => ?_) (fun hc3 => ?_)
  · have h := ite_f hc3 h
    refine r_aload_n hX dX7_card_12 0 rfl ?_
    refine r_get hX 0 0 kyC0 rfl rfl inlX7 0 (by decide) tw1_179 (v := .ref (ad 1 0)) rfl dX7_card_13 ?_
    refine r_getN hX 1 0 kyC1 rfl rfl inlX1 0 (by decide) tn_17 (v := .ref (ad 2 0)) rfl dX7_card_16 ?_
    refine r_iload_n hX dX7_card_19 1 rfl ?_
    refine r_iload_n hX dX7_card_20 2 rfl ?_
    obtain ⟨q5, hq4, h⟩ := bind_ex h
    refine r_callV hX 2 0 (As := [.int a1, .int a2]) (rest := []) (st' := [.int q5.1]) (res := (some (.int q5.1))) (μ' := q5.2) (mX0_add a1 a2 hq4) ckV_X7_45 ⟨rfl, rfl, by decide, by decide⟩ kyC2 rfl rfl rfl rfl (Nat.le_of_ble_eq_true rfl) dX7_card_21 rfl ?_
    exact r_iret hX hQ (pr1 h) (pr2 h) dX7_card_24
  · have h := ite_t hc3 h
    refine r_iconst hX dX7_card_10 (v := (-1)) (by decide) ?_
    exact r_iret hX hQ (pr1 h) (pr2 h) dX7_card_11
abbrev rmX7_told : Room := { frames := 1, cells := 0, slots := 0, locals := 21 }
noncomputable def jX7_told (μ : Mu) (a1 : Int32) (a2 : Int32) : Option (Int64) := (jX0_has μ a1).bind (fun r2 => if r2 = 0 then some (-10000000000) else if a2 = 0 then (jX0_weightOf μ a1).bind (fun r6 => some r6.toInt64) else if a2 = 1 then (jX0_markOf μ a1).bind (fun r9 => some r9.toInt64) else some (-10000000000))
set_option maxHeartbeats 4000000 in
set_option maxRecDepth 100000 in
theorem mX7_told {l : Launch} {D : va_G} {cI cH cT : ClassId} {ad : Nat → Nat → Nat} {Z : va_W} {μ : Mu} {r : Int64} (a1 : Int32) (a2 : Int32) (h : jX7_told μ a1 a2 = some r) : CT (gC l D cI cH cT ad Z) yX7_told (.code yX7_told cX7_told 3 (some .long) :: wsL_law) rmX7_told [.ref (ad 0 0), .int a1, .int a2] μ (some (.long r)) μ := by
  refine ct_of (own := RX7) (by decide) ⟨rfl, rfl⟩ (Nat.le_of_ble_eq_true rfl) rfl (fun X hX hQ => ?_)
  have hX : HX (gC l D cI cH cT ad Z) X cX7_told 3 RX7 rmX7_told (some .long) := hX
  show V (gC l D cI cH cT ad Z) X 3 μ 0 [(0, .ref (ad 0 0)), (1, .int a1), (2, .int a2)] []
  unfold jX7_told at h
  refine r_aload_n hX dX7_told_0 0 rfl ?_
  refine r_get hX 0 0 kyC0 rfl rfl inlX7 0 (by decide) tw1_179 (v := .ref (ad 1 0)) rfl dX7_told_1 ?_
  refine r_getN hX 1 0 kyC1 rfl rfl inlX1 0 (by decide) tn_17 (v := .ref (ad 2 0)) rfl dX7_told_4 ?_
  refine r_iload_n hX dX7_told_7 1 rfl ?_
  obtain ⟨r2, hq1, h⟩ := bind_ex h
  refine r_callV hX 2 0 (As := [.int a1]) (rest := []) (st' := [.int r2]) (res := (some (.int r2))) (μ' := μ) (mX0_has a1 hq1) ckV_X7_51 ⟨rfl, rfl, by decide, by decide⟩ kyC2 rfl rfl rfl rfl (Nat.le_of_ble_eq_true rfl) dX7_told_8 rfl ?_
  refine r_if_ne hX (tgt := 18) dX7_told_11 (by decide) (fun hc3 => ?_) (fun hc3 => ?_)
  · have h := ite_f hc3 h
    refine r_iload_n hX dX7_told_18 2 rfl ?_
    by_cases hc4 : a2 = 0
    · have h := ite_t hc4 h
      refine r_lsw hX (tgt := 44) (off := 25) dX7_told_19 (by decide) (by rw [hc4] <;> rfl) (by decide) ?_
      refine r_aload_n hX dX7_told_44 0 rfl ?_
      refine r_get hX 0 0 kyC0 rfl rfl inlX7 0 (by decide) tw1_179 (v := .ref (ad 1 0)) rfl dX7_told_45 ?_
      refine r_getN hX 1 0 kyC1 rfl rfl inlX1 0 (by decide) tn_17 (v := .ref (ad 2 0)) rfl dX7_told_48 ?_
      refine r_iload_n hX dX7_told_51 1 rfl ?_
      obtain ⟨r6, hq5, h⟩ := bind_ex h
      refine r_callV hX 2 0 (As := [.int a1]) (rest := []) (st' := [.int r6]) (res := (some (.int r6))) (μ' := μ) (mX0_weightOf a1 hq5) ckV_X7_57 ⟨rfl, rfl, by decide, by decide⟩ kyC2 rfl rfl rfl rfl (Nat.le_of_ble_eq_true rfl) dX7_told_52 rfl ?_
      refine r_i2l hX dX7_told_55 ?_
      exact r_lret hX hQ (Option.some.inj h) rfl dX7_told_56
    · have h := ite_f hc4 h
      by_cases hc7 : a2 = 1
      · have h := ite_t hc7 h
        refine r_lsw hX (tgt := 57) (off := 38) dX7_told_19 (by decide) (by rw [hc7] <;> rfl) (by decide) ?_
        refine r_aload_n hX dX7_told_57 0 rfl ?_
        refine r_get hX 0 0 kyC0 rfl rfl inlX7 0 (by decide) tw1_179 (v := .ref (ad 1 0)) rfl dX7_told_58 ?_
        refine r_getN hX 1 0 kyC1 rfl rfl inlX1 0 (by decide) tn_17 (v := .ref (ad 2 0)) rfl dX7_told_61 ?_
        refine r_iload_n hX dX7_told_64 1 rfl ?_
        obtain ⟨r9, hq8, h⟩ := bind_ex h
        refine r_callV hX 2 0 (As := [.int a1]) (rest := []) (st' := [.int r9]) (res := (some (.int r9))) (μ' := μ) (mX0_markOf a1 hq8) ckV_X7_61 ⟨rfl, rfl, by decide, by decide⟩ kyC2 rfl rfl rfl rfl (Nat.le_of_ble_eq_true rfl) dX7_told_65 rfl ?_
        refine r_i2l hX dX7_told_68 ?_
        exact r_lret hX hQ (Option.some.inj h) rfl dX7_told_69
      · have h := ite_f hc7 h
        refine r_lsw hX (tgt := 70) (off := 51) dX7_told_19 (by decide) (by show Op.lookupswitch.offset _ _ _ = _; rw [lv_osw hc4 (by decide), lv_osw hc7 (by decide)] <;> rfl) (by decide) ?_
        refine r_ldc2 hX dX7_told_70 tw1_214 ?_
        exact r_lret hX hQ (Option.some.inj h) rfl dX7_told_73
  · have h := ite_t hc3 h
    refine r_ldc2 hX dX7_told_14 tw1_214 ?_
    exact r_lret hX hQ (Option.some.inj h) rfl dX7_told_17
abbrev rmX7_hook : Room := { frames := 2, cells := 0, slots := 0, locals := 44 }
noncomputable def jX7_hook (μ : Mu) (a1 : Int32) (a2 : Int32) : Option (Int32 × Mu) := (jX7_isWithin a1 0 4).bind (fun r2 => if r2 = 0 then some ((-1), μ) else (jX1_addHook μ a1 a2).bind (fun q5 => some (q5.1, q5.2)))
set_option maxHeartbeats 4000000 in
set_option maxRecDepth 100000 in
theorem mX7_hook {l : Launch} {D : va_G} {cI cH cT : ClassId} {ad : Nat → Nat → Nat} {Z : va_W} {μ : Mu} {r : Int32} {μ' : Mu} (a1 : Int32) (a2 : Int32) (h : jX7_hook μ a1 a2 = some (r, μ')) : CT (gC l D cI cH cT ad Z) yX7_hook (.code yX7_hook cX7_hook 3 (some .int) :: wsL_law) rmX7_hook [.ref (ad 0 0), .int a1, .int a2] μ (some (.int r)) μ' := by
  refine ct_of (own := RX7) (by decide) ⟨rfl, rfl⟩ (Nat.le_of_ble_eq_true rfl) rfl (fun X hX hQ => ?_)
  have hX : HX (gC l D cI cH cT ad Z) X cX7_hook 3 RX7 rmX7_hook (some .int) := hX
  show V (gC l D cI cH cT ad Z) X 3 μ 0 [(0, .ref (ad 0 0)), (1, .int a1), (2, .int a2)] []
  unfold jX7_hook at h
  refine r_iload_n hX dX7_hook_0 1 rfl ?_
  refine r_iconst hX dX7_hook_1 (v := 0) (by decide) ?_
  refine r_iconst hX dX7_hook_2 (v := 4) (by decide) ?_
  obtain ⟨r2, hq1, h⟩ := bind_ex h
  refine r_callS hX (As := [.int a1, .int 0, .int 4]) (rest := []) (st' := [.int r2]) (res := (some (.int r2))) (μ' := μ) (mX7_isWithin a1 0 4 hq1) ckS_X7_37 ⟨rfl, rfl, by decide, by decide⟩ rfl rfl (Nat.le_of_ble_eq_true rfl) dX7_hook_3 rfl ?_
  refine r_if_ne hX (tgt := 11) dX7_hook_6 (by decide) (fun hc3 => ?_) (fun hc3 => ?_)
  · have h := ite_f hc3 h
    refine r_aload_n hX dX7_hook_11 0 rfl ?_
    refine r_get hX 0 0 kyC0 rfl rfl inlX7 0 (by decide) tw1_179 (v := .ref (ad 1 0)) rfl dX7_hook_12 ?_
    refine r_iload_n hX dX7_hook_15 1 rfl ?_
    refine r_iload_n hX dX7_hook_16 2 rfl ?_
    obtain ⟨q5, hq4, h⟩ := bind_ex h
    refine r_callV hX 1 0 (As := [.int a1, .int a2]) (rest := []) (st' := [.int q5.1]) (res := (some (.int q5.1))) (μ' := q5.2) (mX1_addHook a1 a2 hq4) ckV_X7_64 ⟨rfl, rfl, by decide, by decide⟩ kyC1 rfl rfl rfl rfl (Nat.le_of_ble_eq_true rfl) dX7_hook_17 rfl ?_
    exact r_iret hX hQ (pr1 h) (pr2 h) dX7_hook_20
  · have h := ite_t hc3 h
    refine r_iconst hX dX7_hook_9 (v := (-1)) (by decide) ?_
    exact r_iret hX hQ (pr1 h) (pr2 h) dX7_hook_10
abbrev rmX7_plannedEffect : Room := { frames := 0, cells := 0, slots := 0, locals := 0 }
noncomputable def jX7_plannedEffect (a1 : Int32) (a2 : Int32) : Option (Int32) := if a1 = 0 then some a2 else if a1 = 1 then some (-1) else some (-2)
set_option maxHeartbeats 4000000 in
set_option maxRecDepth 100000 in
theorem mX7_plannedEffect {l : Launch} {D : va_G} {cI cH cT : ClassId} {ad : Nat → Nat → Nat} {Z : va_W} {μ : Mu} {r : Int32} (a1 : Int32) (a2 : Int32) (h : jX7_plannedEffect a1 a2 = some r) : CT (gC l D cI cH cT ad Z) yX7_plannedEffect (.code yX7_plannedEffect cX7_plannedEffect 2 (some .int) :: wsL_law) rmX7_plannedEffect [.int a1, .int a2] μ (some (.int r)) μ := by
  refine ct_of (own := RX7) (by decide) ⟨rfl, rfl⟩ (Nat.le_of_ble_eq_true rfl) rfl (fun X hX hQ => ?_)
  have hX : HX (gC l D cI cH cT ad Z) X cX7_plannedEffect 2 RX7 rmX7_plannedEffect (some .int) := hX
  show V (gC l D cI cH cT ad Z) X 2 μ 0 [(0, .int a1), (1, .int a2)] []
  unfold jX7_plannedEffect at h
  refine r_iload_n hX dX7_plannedEffect_0 0 rfl ?_
  by_cases hc1 : a1 = 0
  · have h := ite_t hc1 h
    refine r_lsw hX (tgt := 28) (off := 27) dX7_plannedEffect_1 (by decide) (by rw [hc1] <;> rfl) (by decide) ?_
    refine r_iload_n hX dX7_plannedEffect_28 1 rfl ?_
    exact r_iret hX hQ (Option.some.inj h) rfl dX7_plannedEffect_29
  · have h := ite_f hc1 h
    by_cases hc2 : a1 = 1
    · have h := ite_t hc2 h
      refine r_lsw hX (tgt := 30) (off := 29) dX7_plannedEffect_1 (by decide) (by rw [hc2] <;> rfl) (by decide) ?_
      refine r_iconst hX dX7_plannedEffect_30 (v := (-1)) (by decide) ?_
      exact r_iret hX hQ (Option.some.inj h) rfl dX7_plannedEffect_31
    · have h := ite_f hc2 h
      refine r_lsw hX (tgt := 32) (off := 31) dX7_plannedEffect_1 (by decide) (by show Op.lookupswitch.offset _ _ _ = _; rw [lv_osw hc1 (by decide), lv_osw hc2 (by decide)] <;> rfl) (by decide) ?_
      refine r_bipush hX dX7_plannedEffect_32 (v := (-2)) (by decide) ?_
      exact r_iret hX hQ (Option.some.inj h) rfl dX7_plannedEffect_34
abbrev rmX7_plan : Room := { frames := 2, cells := 0, slots := 0, locals := 47 }
noncomputable def jX7_plan_J31  (μ : Mu) (x1 : Int32) (x2 : Int32) (x3 : Int32) (x4 : Int32) : Option (Int32 × Mu) := some ((-1), μ)
set_option maxHeartbeats 4000000 in
set_option maxRecDepth 100000 in
theorem mX7_plan_J31 {l : Launch} {D : va_G} {cI cH cT : ClassId} {ad : Nat → Nat → Nat} {Z : va_W} {X : Cx} (hX : HX (gC l D cI cH cT ad Z) X cX7_plan 5 RX7 rmX7_plan (some .int)) {r : Int32} {μ' : Mu} (hQ : HQ (gC l D cI cH cT ad Z) X (some (.int r)) μ')  (μ : Mu) (x1 : Int32) (x2 : Int32) (x3 : Int32) (x4 : Int32) (h : jX7_plan_J31  μ x1 x2 x3 x4 = some (r, μ')) : V (gC l D cI cH cT ad Z) X 5 μ 31 [(0, .ref (ad 0 0)), (1, .int x1), (2, .int x2), (3, .int x3), (4, .int x4)] [] := by
  unfold jX7_plan_J31 at h
  refine r_iconst hX dX7_plan_31 (v := (-1)) (by decide) ?_
  exact r_iret hX hQ (pr1 h) (pr2 h) dX7_plan_32
noncomputable def jX7_plan_J50  (μ : Mu) (x1 : Int32) (x2 : Int32) (x3 : Int32) (x4 : Int32) : Option (Int32 × Mu) := (jX1_callsOf μ x1).bind (fun r12 => (jX7_plannedEffect x3 x4).bind (fun r14 => (jX4_stand μ x1 (r12 + x2) r14).bind (fun q16 => some (q16.1, q16.2))))
set_option maxHeartbeats 4000000 in
set_option maxRecDepth 100000 in
theorem mX7_plan_J50 {l : Launch} {D : va_G} {cI cH cT : ClassId} {ad : Nat → Nat → Nat} {Z : va_W} {X : Cx} (hX : HX (gC l D cI cH cT ad Z) X cX7_plan 5 RX7 rmX7_plan (some .int)) {r : Int32} {μ' : Mu} (hQ : HQ (gC l D cI cH cT ad Z) X (some (.int r)) μ')  (μ : Mu) (x1 : Int32) (x2 : Int32) (x3 : Int32) (x4 : Int32) (h : jX7_plan_J50  μ x1 x2 x3 x4 = some (r, μ')) : V (gC l D cI cH cT ad Z) X 5 μ 50 [(0, .ref (ad 0 0)), (1, .int x1), (2, .int x2), (3, .int x3), (4, .int x4)] [] := by
  unfold jX7_plan_J50 at h
  refine r_aload_n hX dX7_plan_50 0 rfl ?_
  refine r_get hX 0 0 kyC0 rfl rfl inlX7 0 (by decide) tw1_179 (v := .ref (ad 1 0)) rfl dX7_plan_51 ?_
  refine r_getN hX 1 0 kyC1 rfl rfl inlX1 1 (by decide) tn_18 (v := .ref (ad 5 0)) rfl dX7_plan_54 ?_
  refine r_iload_n hX dX7_plan_57 1 rfl ?_
  refine r_aload_n hX dX7_plan_58 0 rfl ?_
  refine r_get hX 0 0 kyC0 rfl rfl inlX7 0 (by decide) tw1_179 (v := .ref (ad 1 0)) rfl dX7_plan_59 ?_
  refine r_iload_n hX dX7_plan_62 1 rfl ?_
  obtain ⟨r12, hq11, h⟩ := bind_ex h
  refine r_callV hX 1 0 (As := [.int x1]) (rest := [.int x1, .ref (ad 5 0)]) (st' := [.int r12, .int x1, .ref (ad 5 0)]) (res := (some (.int r12))) (μ' := μ) (mX1_callsOf x1 hq11) ckV_X7_74 ⟨rfl, rfl, by decide, by decide⟩ kyC1 rfl rfl rfl rfl (Nat.le_of_ble_eq_true rfl) dX7_plan_63 rfl ?_
  refine r_iload_n hX dX7_plan_66 2 rfl ?_
  refine r_iadd hX dX7_plan_67 ?_
  refine r_iload_n hX dX7_plan_68 3 rfl ?_
  refine r_iload hX dX7_plan_69 4 rfl ?_
  obtain ⟨r14, hq13, h⟩ := bind_ex h
  refine r_callS hX (As := [.int x3, .int x4]) (rest := [.int (r12 + x2), .int x1, .ref (ad 5 0)]) (st' := [.int r14, .int (r12 + x2), .int x1, .ref (ad 5 0)]) (res := (some (.int r14))) (μ' := μ) (mX7_plannedEffect x3 x4 hq13) ckS_X7_77 ⟨rfl, rfl, by decide, by decide⟩ rfl rfl (Nat.le_of_ble_eq_true rfl) dX7_plan_71 rfl ?_
  obtain ⟨q16, hq15, h⟩ := bind_ex h
  refine r_callV hX 5 0 (As := [.int x1, .int (r12 + x2), .int r14]) (rest := []) (st' := [.int q16.1]) (res := (some (.int q16.1))) (μ' := q16.2) (mX4_stand x1 (r12 + x2) r14 hq15) ckV_X7_80 ⟨rfl, rfl, by decide, by decide⟩ kyC5 rfl rfl rfl rfl (Nat.le_of_ble_eq_true rfl) dX7_plan_74 rfl ?_
  exact r_iret hX hQ (pr1 h) (pr2 h) dX7_plan_77
noncomputable def jX7_plan (μ : Mu) (a1 : Int32) (a2 : Int32) (a3 : Int32) (a4 : Int32) : Option (Int32 × Mu) := (jX1_hasHook μ a1).bind (fun r2 => if r2 = 0 then jX7_plan_J31  μ a1 a2 a3 a4 else (jX7_isWithin a2 1 1000).bind (fun r5 => if r5 = 0 then jX7_plan_J31  μ a1 a2 a3 a4 else (jX7_isWithin a3 0 2).bind (fun r8 => if r8 = 0 then jX7_plan_J31  μ a1 a2 a3 a4 else if a3 = 0 then (jX7_isWithin a4 1 99).bind (fun r18 => if r18 = 0 then some ((-1), μ) else jX7_plan_J50  μ a1 a2 a3 a4) else jX7_plan_J50  μ a1 a2 a3 a4)))
set_option maxHeartbeats 4000000 in
set_option maxRecDepth 100000 in
theorem mX7_plan {l : Launch} {D : va_G} {cI cH cT : ClassId} {ad : Nat → Nat → Nat} {Z : va_W} {μ : Mu} {r : Int32} {μ' : Mu} (a1 : Int32) (a2 : Int32) (a3 : Int32) (a4 : Int32) (h : jX7_plan μ a1 a2 a3 a4 = some (r, μ')) : CT (gC l D cI cH cT ad Z) yX7_plan (.code yX7_plan cX7_plan 5 (some .int) :: wsL_law) rmX7_plan [.ref (ad 0 0), .int a1, .int a2, .int a3, .int a4] μ (some (.int r)) μ' := by
  refine ct_of (own := RX7) (by decide) ⟨rfl, rfl⟩ (Nat.le_of_ble_eq_true rfl) rfl (fun X hX hQ => ?_)
  have hX : HX (gC l D cI cH cT ad Z) X cX7_plan 5 RX7 rmX7_plan (some .int) := hX
  show V (gC l D cI cH cT ad Z) X 5 μ 0 [(0, .ref (ad 0 0)), (1, .int a1), (2, .int a2), (3, .int a3), (4, .int a4)] []
  unfold jX7_plan at h
  refine r_aload_n hX dX7_plan_0 0 rfl ?_
  refine r_get hX 0 0 kyC0 rfl rfl inlX7 0 (by decide) tw1_179 (v := .ref (ad 1 0)) rfl dX7_plan_1 ?_
  refine r_iload_n hX dX7_plan_4 1 rfl ?_
  obtain ⟨r2, hq1, h⟩ := bind_ex h
  refine r_callV hX 1 0 (As := [.int a1]) (rest := []) (st' := [.int r2]) (res := (some (.int r2))) (μ' := μ) (mX1_hasHook a1 hq1) ckV_X7_67 ⟨rfl, rfl, by decide, by decide⟩ kyC1 rfl rfl rfl rfl (Nat.le_of_ble_eq_true rfl) dX7_plan_5 rfl ?_
  refine r_if_eq hX (tgt := 31) dX7_plan_8 (by decide) (fun hc3 => ?_) (fun hc3 => ?_)
  · have h := ite_t hc3 h
    refine r_sub [0, 1, 2, 3, 4] rfl ?_
    exact mX7_plan_J31 hX hQ  μ a1 a2 a3 a4 h
  · have h := ite_f hc3 h
    refine r_iload_n hX dX7_plan_11 2 rfl ?_
    refine r_iconst hX dX7_plan_12 (v := 1) (by decide) ?_
    refine r_sipush hX dX7_plan_13 (v := 1000) (by decide) ?_
    obtain ⟨r5, hq4, h⟩ := bind_ex h
    refine r_callS hX (As := [.int a2, .int 1, .int 1000]) (rest := []) (st' := [.int r5]) (res := (some (.int r5))) (μ' := μ) (mX7_isWithin a2 1 1000 hq4) ckS_X7_37 ⟨rfl, rfl, by decide, by decide⟩ rfl rfl (Nat.le_of_ble_eq_true rfl) dX7_plan_16 rfl ?_
    refine r_if_eq hX (tgt := 31) dX7_plan_19 (by decide) (fun hc6 => ?_) (fun hc6 => ?_)
    · have h := ite_t hc6 h
      refine r_sub [0, 1, 2, 3, 4] rfl ?_
      exact mX7_plan_J31 hX hQ  μ a1 a2 a3 a4 h
    · have h := ite_f hc6 h
      refine r_iload_n hX dX7_plan_22 3 rfl ?_
      refine r_iconst hX dX7_plan_23 (v := 0) (by decide) ?_
      refine r_iconst hX dX7_plan_24 (v := 2) (by decide) ?_
      obtain ⟨r8, hq7, h⟩ := bind_ex h
      refine r_callS hX (As := [.int a3, .int 0, .int 2]) (rest := []) (st' := [.int r8]) (res := (some (.int r8))) (μ' := μ) (mX7_isWithin a3 0 2 hq7) ckS_X7_37 ⟨rfl, rfl, by decide, by decide⟩ rfl rfl (Nat.le_of_ble_eq_true rfl) dX7_plan_25 rfl ?_
      refine r_if_ne hX (tgt := 33) dX7_plan_28 (by decide) (fun hc9 => ?_) (fun hc9 => ?_)
      · have h := ite_f hc9 h
        refine r_iload_n hX dX7_plan_33 3 rfl ?_
        refine r_if_ne hX (tgt := 50) dX7_plan_34 (by decide) (fun hc10 => ?_) (fun hc10 => ?_)
        · have h := ite_f hc10 h
          refine r_sub [0, 1, 2, 3, 4] rfl ?_
          exact mX7_plan_J50 hX hQ  μ a1 a2 a3 a4 h
        · have h := ite_t hc10 h
          refine r_iload hX dX7_plan_37 4 rfl ?_
          refine r_iconst hX dX7_plan_39 (v := 1) (by decide) ?_
          refine r_bipush hX dX7_plan_40 (v := 99) (by decide) ?_
          obtain ⟨r18, hq17, h⟩ := bind_ex h
          refine r_callS hX (As := [.int a4, .int 1, .int 99]) (rest := []) (st' := [.int r18]) (res := (some (.int r18))) (μ' := μ) (mX7_isWithin a4 1 99 hq17) ckS_X7_37 ⟨rfl, rfl, by decide, by decide⟩ rfl rfl (Nat.le_of_ble_eq_true rfl) dX7_plan_42 rfl ?_
          refine r_if_ne hX (tgt := 50) dX7_plan_45 (by decide) (fun hc19 => ?_) (fun hc19 => ?_)
          · have h := ite_f hc19 h
            refine r_sub [0, 1, 2, 3, 4] rfl ?_
            exact mX7_plan_J50 hX hQ  μ a1 a2 a3 a4 h
          · have h := ite_t hc19 h
            refine r_iconst hX dX7_plan_48 (v := (-1)) (by decide) ?_
            exact r_iret hX hQ (pr1 h) (pr2 h) dX7_plan_49
      · have h := ite_t hc9 h
        refine r_sub [0, 1, 2, 3, 4] rfl ?_
        exact mX7_plan_J31 hX hQ  μ a1 a2 a3 a4 h
abbrev rmX7_clearPlans : Room := { frames := 1, cells := 0, slots := 0, locals := 21 }
noncomputable def jX7_clearPlans (μ : Mu)  : Option (Int32 × Mu) := (jX4_clear μ).bind (fun q2 => some (q2.1, q2.2))
set_option maxHeartbeats 4000000 in
set_option maxRecDepth 100000 in
theorem mX7_clearPlans {l : Launch} {D : va_G} {cI cH cT : ClassId} {ad : Nat → Nat → Nat} {Z : va_W} {μ : Mu} {r : Int32} {μ' : Mu}  (h : jX7_clearPlans μ  = some (r, μ')) : CT (gC l D cI cH cT ad Z) yX7_clearPlans (.code yX7_clearPlans cX7_clearPlans 1 (some .int) :: wsL_law) rmX7_clearPlans [.ref (ad 0 0)] μ (some (.int r)) μ' := by
  refine ct_of (own := RX7) (by decide) ⟨rfl, rfl⟩ (Nat.le_of_ble_eq_true rfl) rfl (fun X hX hQ => ?_)
  have hX : HX (gC l D cI cH cT ad Z) X cX7_clearPlans 1 RX7 rmX7_clearPlans (some .int) := hX
  show V (gC l D cI cH cT ad Z) X 1 μ 0 [(0, .ref (ad 0 0))] []
  unfold jX7_clearPlans at h
  refine r_aload_n hX dX7_clearPlans_0 0 rfl ?_
  refine r_get hX 0 0 kyC0 rfl rfl inlX7 0 (by decide) tw1_179 (v := .ref (ad 1 0)) rfl dX7_clearPlans_1 ?_
  refine r_getN hX 1 0 kyC1 rfl rfl inlX1 1 (by decide) tn_18 (v := .ref (ad 5 0)) rfl dX7_clearPlans_4 ?_
  obtain ⟨q2, hq1, h⟩ := bind_ex h
  refine r_callV hX 5 0 (As := []) (rest := []) (st' := [.int q2.1]) (res := (some (.int q2.1))) (μ' := q2.2) (mX4_clear  hq1) ckV_X7_86 ⟨rfl, rfl, by decide, by decide⟩ kyC5 rfl rfl rfl rfl (Nat.le_of_ble_eq_true rfl) dX7_clearPlans_7 rfl ?_
  exact r_iret hX hQ (pr1 h) (pr2 h) dX7_clearPlans_10
abbrev rmX7_about : Room := { frames := 2, cells := 0, slots := 0, locals := 42 }
noncomputable def jX7_about (μ : Mu) (a1 : Int32) (a2 : Int32) : Option (Int32) := (jX1_hasHook μ a1).bind (fun r2 => if r2 = 0 then some (-1) else if a2 = 0 then (jX1_kindOf μ a1).bind (fun r6 => some r6) else if a2 = 1 then (jX1_callsOf μ a1).bind (fun r9 => some r9) else if a2 = 2 then (jX1_latestCallsOf μ a1).bind (fun r12 => some r12) else if a2 = 3 then (jX1_misusesOf μ a1).bind (fun r15 => some r15) else if a2 = 4 then (jX4_standingFor μ a1).bind (fun r18 => some r18) else some (-1))
set_option maxHeartbeats 4000000 in
set_option maxRecDepth 100000 in
theorem mX7_about {l : Launch} {D : va_G} {cI cH cT : ClassId} {ad : Nat → Nat → Nat} {Z : va_W} {μ : Mu} {r : Int32} (a1 : Int32) (a2 : Int32) (h : jX7_about μ a1 a2 = some r) : CT (gC l D cI cH cT ad Z) yX7_about (.code yX7_about cX7_about 3 (some .int) :: wsL_law) rmX7_about [.ref (ad 0 0), .int a1, .int a2] μ (some (.int r)) μ := by
  refine ct_of (own := RX7) (by decide) ⟨rfl, rfl⟩ (Nat.le_of_ble_eq_true rfl) rfl (fun X hX hQ => ?_)
  have hX : HX (gC l D cI cH cT ad Z) X cX7_about 3 RX7 rmX7_about (some .int) := hX
  show V (gC l D cI cH cT ad Z) X 3 μ 0 [(0, .ref (ad 0 0)), (1, .int a1), (2, .int a2)] []
  unfold jX7_about at h
  refine r_aload_n hX dX7_about_0 0 rfl ?_
  refine r_get hX 0 0 kyC0 rfl rfl inlX7 0 (by decide) tw1_179 (v := .ref (ad 1 0)) rfl dX7_about_1 ?_
  refine r_iload_n hX dX7_about_4 1 rfl ?_
  obtain ⟨r2, hq1, h⟩ := bind_ex h
  refine r_callV hX 1 0 (As := [.int a1]) (rest := []) (st' := [.int r2]) (res := (some (.int r2))) (μ' := μ) (mX1_hasHook a1 hq1) ckV_X7_67 ⟨rfl, rfl, by decide, by decide⟩ kyC1 rfl rfl rfl rfl (Nat.le_of_ble_eq_true rfl) dX7_about_5 rfl ?_
  refine r_if_ne hX (tgt := 13) dX7_about_8 (by decide) (fun hc3 => ?_) (fun hc3 => ?_)
  · have h := ite_f hc3 h
    refine r_iload_n hX dX7_about_13 2 rfl ?_
    by_cases hc4 : a2 = 0
    · have h := ite_t hc4 h
      refine r_tsw hX (tgt := 48) dX7_about_14 0 hc4 (by decide) (by decide) rfl (by decide) ?_
      refine r_aload_n hX dX7_about_48 0 rfl ?_
      refine r_get hX 0 0 kyC0 rfl rfl inlX7 0 (by decide) tw1_179 (v := .ref (ad 1 0)) rfl dX7_about_49 ?_
      refine r_iload_n hX dX7_about_52 1 rfl ?_
      obtain ⟨r6, hq5, h⟩ := bind_ex h
      refine r_callV hX 1 0 (As := [.int a1]) (rest := []) (st' := [.int r6]) (res := (some (.int r6))) (μ' := μ) (mX1_kindOf a1 hq5) ckV_X7_90 ⟨rfl, rfl, by decide, by decide⟩ kyC1 rfl rfl rfl rfl (Nat.le_of_ble_eq_true rfl) dX7_about_53 rfl ?_
      exact r_iret hX hQ (Option.some.inj h) rfl dX7_about_56
    · have h := ite_f hc4 h
      by_cases hc7 : a2 = 1
      · have h := ite_t hc7 h
        refine r_tsw hX (tgt := 57) dX7_about_14 1 hc7 (by decide) (by decide) rfl (by decide) ?_
        refine r_aload_n hX dX7_about_57 0 rfl ?_
        refine r_get hX 0 0 kyC0 rfl rfl inlX7 0 (by decide) tw1_179 (v := .ref (ad 1 0)) rfl dX7_about_58 ?_
        refine r_iload_n hX dX7_about_61 1 rfl ?_
        obtain ⟨r9, hq8, h⟩ := bind_ex h
        refine r_callV hX 1 0 (As := [.int a1]) (rest := []) (st' := [.int r9]) (res := (some (.int r9))) (μ' := μ) (mX1_callsOf a1 hq8) ckV_X7_74 ⟨rfl, rfl, by decide, by decide⟩ kyC1 rfl rfl rfl rfl (Nat.le_of_ble_eq_true rfl) dX7_about_62 rfl ?_
        exact r_iret hX hQ (Option.some.inj h) rfl dX7_about_65
      · have h := ite_f hc7 h
        by_cases hc10 : a2 = 2
        · have h := ite_t hc10 h
          refine r_tsw hX (tgt := 66) dX7_about_14 2 hc10 (by decide) (by decide) rfl (by decide) ?_
          refine r_aload_n hX dX7_about_66 0 rfl ?_
          refine r_get hX 0 0 kyC0 rfl rfl inlX7 0 (by decide) tw1_179 (v := .ref (ad 1 0)) rfl dX7_about_67 ?_
          refine r_iload_n hX dX7_about_70 1 rfl ?_
          obtain ⟨r12, hq11, h⟩ := bind_ex h
          refine r_callV hX 1 0 (As := [.int a1]) (rest := []) (st' := [.int r12]) (res := (some (.int r12))) (μ' := μ) (mX1_latestCallsOf a1 hq11) ckV_X7_93 ⟨rfl, rfl, by decide, by decide⟩ kyC1 rfl rfl rfl rfl (Nat.le_of_ble_eq_true rfl) dX7_about_71 rfl ?_
          exact r_iret hX hQ (Option.some.inj h) rfl dX7_about_74
        · have h := ite_f hc10 h
          by_cases hc13 : a2 = 3
          · have h := ite_t hc13 h
            refine r_tsw hX (tgt := 75) dX7_about_14 3 hc13 (by decide) (by decide) rfl (by decide) ?_
            refine r_aload_n hX dX7_about_75 0 rfl ?_
            refine r_get hX 0 0 kyC0 rfl rfl inlX7 0 (by decide) tw1_179 (v := .ref (ad 1 0)) rfl dX7_about_76 ?_
            refine r_iload_n hX dX7_about_79 1 rfl ?_
            obtain ⟨r15, hq14, h⟩ := bind_ex h
            refine r_callV hX 1 0 (As := [.int a1]) (rest := []) (st' := [.int r15]) (res := (some (.int r15))) (μ' := μ) (mX1_misusesOf a1 hq14) ckV_X7_96 ⟨rfl, rfl, by decide, by decide⟩ kyC1 rfl rfl rfl rfl (Nat.le_of_ble_eq_true rfl) dX7_about_80 rfl ?_
            exact r_iret hX hQ (Option.some.inj h) rfl dX7_about_83
          · have h := ite_f hc13 h
            by_cases hc16 : a2 = 4
            · have h := ite_t hc16 h
              refine r_tsw hX (tgt := 84) dX7_about_14 4 hc16 (by decide) (by decide) rfl (by decide) ?_
              refine r_aload_n hX dX7_about_84 0 rfl ?_
              refine r_get hX 0 0 kyC0 rfl rfl inlX7 0 (by decide) tw1_179 (v := .ref (ad 1 0)) rfl dX7_about_85 ?_
              refine r_getN hX 1 0 kyC1 rfl rfl inlX1 1 (by decide) tn_18 (v := .ref (ad 5 0)) rfl dX7_about_88 ?_
              refine r_iload_n hX dX7_about_91 1 rfl ?_
              obtain ⟨r18, hq17, h⟩ := bind_ex h
              refine r_callV hX 5 0 (As := [.int a1]) (rest := []) (st' := [.int r18]) (res := (some (.int r18))) (μ' := μ) (mX4_standingFor a1 hq17) ckV_X7_99 ⟨rfl, rfl, by decide, by decide⟩ kyC5 rfl rfl rfl rfl (Nat.le_of_ble_eq_true rfl) dX7_about_92 rfl ?_
              exact r_iret hX hQ (Option.some.inj h) rfl dX7_about_95
            · have h := ite_f hc16 h
              refine r_tswo hX (tgt := 96) dX7_about_14 (sw_out 5 (by decide) (fun j hj => by rcases (show j = 0 ∨ j = 1 ∨ j = 2 ∨ j = 3 ∨ j = 4 by omega) with rfl | rfl | rfl | rfl | rfl <;> first | exact hc4 | exact hc7 | exact hc10 | exact hc13 | exact hc16)) (by decide) ?_
              refine r_iconst hX dX7_about_96 (v := (-1)) (by decide) ?_
              exact r_iret hX hQ (Option.some.inj h) rfl dX7_about_97
  · have h := ite_t hc3 h
    refine r_iconst hX dX7_about_11 (v := (-1)) (by decide) ?_
    exact r_iret hX hQ (Option.some.inj h) rfl dX7_about_12
abbrev rmX7_tray : Room := { frames := 3, cells := 0, slots := 0, locals := 64 }
noncomputable def jX7_tray_J24  (μ : Mu) (x1 : Int32) (x2 : Int32) : Option (Int32 × Mu) := some ((-1), μ)
set_option maxHeartbeats 4000000 in
set_option maxRecDepth 100000 in
theorem mX7_tray_J24 {l : Launch} {D : va_G} {cI cH cT : ClassId} {ad : Nat → Nat → Nat} {Z : va_W} {X : Cx} (hX : HX (gC l D cI cH cT ad Z) X cX7_tray 3 RX7 rmX7_tray (some .int)) {r : Int32} {μ' : Mu} (hQ : HQ (gC l D cI cH cT ad Z) X (some (.int r)) μ')  (μ : Mu) (x1 : Int32) (x2 : Int32) (h : jX7_tray_J24  μ x1 x2 = some (r, μ')) : V (gC l D cI cH cT ad Z) X 3 μ 24 [(0, .ref (ad 0 0)), (1, .int x1), (2, .int x2)] [] := by
  unfold jX7_tray_J24 at h
  refine r_iconst hX dX7_tray_24 (v := (-1)) (by decide) ?_
  exact r_iret hX hQ (pr1 h) (pr2 h) dX7_tray_25
noncomputable def jX7_tray_J44  (μ : Mu) (x1 : Int32) (x2 : Int32) : Option (Int32 × Mu) := if (μ 0 0 2) < 6 then if inb (μ 0 0 2) 6 = true then if x1 = 0 then (jX6_become μ ((μ 0 0 2).toNatClampNeg) x1 (-4)).bind (fun μ13 => mst (mu_st μ13 0 0 2 ((μ13 0 0 2) + 1)) (fun μ14 => some ((μ14 0 0 2) - 1, μ14))) else (jX6_become μ ((μ 0 0 2).toNatClampNeg) x1 x2).bind (fun μ10 => mst (mu_st μ10 0 0 2 ((μ10 0 0 2) + 1)) (fun μ11 => some ((μ11 0 0 2) - 1, μ11))) else none else some ((-3), μ)
set_option maxHeartbeats 4000000 in
set_option maxRecDepth 100000 in
theorem mX7_tray_J44 {l : Launch} {D : va_G} {cI cH cT : ClassId} {ad : Nat → Nat → Nat} {Z : va_W} {X : Cx} (hX : HX (gC l D cI cH cT ad Z) X cX7_tray 3 RX7 rmX7_tray (some .int)) {r : Int32} {μ' : Mu} (hQ : HQ (gC l D cI cH cT ad Z) X (some (.int r)) μ')  (μ : Mu) (x1 : Int32) (x2 : Int32) (h : jX7_tray_J44  μ x1 x2 = some (r, μ')) : V (gC l D cI cH cT ad Z) X 3 μ 44 [(0, .ref (ad 0 0)), (1, .int x1), (2, .int x2)] [] := by
  unfold jX7_tray_J44 at h
  refine r_aload_n hX dX7_tray_44 0 rfl ?_
  refine r_get hX 0 0 kyC0 rfl rfl inlX7 2 (by decide) tw1_181 (v := .int (μ 0 0 2)) rfl dX7_tray_45 ?_
  refine r_bipush hX dX7_tray_48 (v := 6) (by decide) ?_
  refine r_icmp_lt hX (tgt := 56) dX7_tray_50 (by decide) (fun hc6 => ?_) (fun hc6 => ?_)
  · have h := ite_t hc6 h
    refine r_aload_n hX dX7_tray_56 0 rfl ?_
    refine r_get hX 0 0 kyC0 rfl rfl inlX7 1 (by decide) tw1_180 (v := .ref (ad 12 0)) rfl dX7_tray_57 ?_
    refine r_aload_n hX dX7_tray_60 0 rfl ?_
    refine r_get hX 0 0 kyC0 rfl rfl inlX7 2 (by decide) tw1_181 (v := .int (μ 0 0 2)) rfl dX7_tray_61 ?_
    obtain ⟨hb7, h⟩ := ite_some h
    refine r_aald hX 12 0 kyC12 rfl (t0 := 2) rfl hb7 (a := ad 13 ((μ 0 0 2).toNatClampNeg)) rfl dX7_tray_64 ?_
    refine r_iload_n hX dX7_tray_65 1 rfl ?_
    refine r_iload_n hX dX7_tray_66 1 rfl ?_
    refine r_if_ne hX (tgt := 75) dX7_tray_67 (by decide) (fun hc8 => ?_) (fun hc8 => ?_)
    · have h := ite_f hc8 h
      refine r_iload_n hX dX7_tray_75 2 rfl ?_
      obtain ⟨μ10, hq9, h⟩ := bind_ex h
      refine r_callV hX 13 ((μ 0 0 2).toNatClampNeg) (As := [.int x1, .int x2]) (rest := []) (st' := []) (res := none) (μ' := μ10) (mX6_become ((μ 0 0 2).toNatClampNeg) (inb_lt hb7) x1 x2 hq9) ckV_X7_105 ⟨rfl, rfl, by decide, by decide⟩ (kyC13 (inb_lt hb7)) rfl rfl rfl rfl (Nat.le_of_ble_eq_true rfl) dX7_tray_76 rfl ?_
      refine r_aload_n hX dX7_tray_79 0 rfl ?_
      refine r_dup hX dX7_tray_80 rfl ?_
      refine r_get hX 0 0 kyC0 rfl rfl inlX7 2 (by decide) tw1_181 (v := .int (μ10 0 0 2)) rfl dX7_tray_81 ?_
      refine r_iconst hX dX7_tray_84 (v := 1) (by decide) ?_
      refine r_iadd hX dX7_tray_85 ?_
      refine r_put hX 0 0 kyC0 rfl rfl inlX7 tyX7 tyX7_ok nmX7 2 (by decide) tw1_181 rfl (tyX7_ok 2 (by decide)) rfl rfl (Nat.le_of_ble_eq_true rfl) rfl dX7_tray_86 (fun μ11 eμ11 => ?_)
      have h := mst_at eμ11 h
      refine r_aload_n hX dX7_tray_89 0 rfl ?_
      refine r_get hX 0 0 kyC0 rfl rfl inlX7 2 (by decide) tw1_181 (v := .int (μ11 0 0 2)) rfl dX7_tray_90 ?_
      refine r_iconst hX dX7_tray_93 (v := 1) (by decide) ?_
      refine r_isub hX dX7_tray_94 ?_
      exact r_iret hX hQ (pr1 h) (pr2 h) dX7_tray_95
    · have h := ite_t hc8 h
      refine r_bipush hX dX7_tray_70 (v := (-4)) (by decide) ?_
      refine r_goto hX (tgt := 76) dX7_tray_72 (by decide) ?_
      obtain ⟨μ13, hq12, h⟩ := bind_ex h
      refine r_callV hX 13 ((μ 0 0 2).toNatClampNeg) (As := [.int x1, .int (-4)]) (rest := []) (st' := []) (res := none) (μ' := μ13) (mX6_become ((μ 0 0 2).toNatClampNeg) (inb_lt hb7) x1 (-4) hq12) ckV_X7_105 ⟨rfl, rfl, by decide, by decide⟩ (kyC13 (inb_lt hb7)) rfl rfl rfl rfl (Nat.le_of_ble_eq_true rfl) dX7_tray_76 rfl ?_
      refine r_aload_n hX dX7_tray_79 0 rfl ?_
      refine r_dup hX dX7_tray_80 rfl ?_
      refine r_get hX 0 0 kyC0 rfl rfl inlX7 2 (by decide) tw1_181 (v := .int (μ13 0 0 2)) rfl dX7_tray_81 ?_
      refine r_iconst hX dX7_tray_84 (v := 1) (by decide) ?_
      refine r_iadd hX dX7_tray_85 ?_
      refine r_put hX 0 0 kyC0 rfl rfl inlX7 tyX7 tyX7_ok nmX7 2 (by decide) tw1_181 rfl (tyX7_ok 2 (by decide)) rfl rfl (Nat.le_of_ble_eq_true rfl) rfl dX7_tray_86 (fun μ14 eμ14 => ?_)
      have h := mst_at eμ14 h
      refine r_aload_n hX dX7_tray_89 0 rfl ?_
      refine r_get hX 0 0 kyC0 rfl rfl inlX7 2 (by decide) tw1_181 (v := .int (μ14 0 0 2)) rfl dX7_tray_90 ?_
      refine r_iconst hX dX7_tray_93 (v := 1) (by decide) ?_
      refine r_isub hX dX7_tray_94 ?_
      exact r_iret hX hQ (pr1 h) (pr2 h) dX7_tray_95
  · have h := ite_f hc6 h
    refine r_bipush hX dX7_tray_53 (v := (-3)) (by decide) ?_
    exact r_iret hX hQ (pr1 h) (pr2 h) dX7_tray_55
noncomputable def jX7_tray_J26  (μ : Mu) (x1 : Int32) (x2 : Int32) : Option (Int32 × Mu) := if x1 = 0 then jX7_tray_J44  μ x1 x2 else (jX1_compares μ x2).bind (fun r16 => if r16 = 0 then some ((-2), μ) else jX7_tray_J44  μ x1 x2)
set_option maxHeartbeats 4000000 in
set_option maxRecDepth 100000 in
theorem mX7_tray_J26 {l : Launch} {D : va_G} {cI cH cT : ClassId} {ad : Nat → Nat → Nat} {Z : va_W} {X : Cx} (hX : HX (gC l D cI cH cT ad Z) X cX7_tray 3 RX7 rmX7_tray (some .int)) {r : Int32} {μ' : Mu} (hQ : HQ (gC l D cI cH cT ad Z) X (some (.int r)) μ')  (μ : Mu) (x1 : Int32) (x2 : Int32) (h : jX7_tray_J26  μ x1 x2 = some (r, μ')) : V (gC l D cI cH cT ad Z) X 3 μ 26 [(0, .ref (ad 0 0)), (1, .int x1), (2, .int x2)] [] := by
  unfold jX7_tray_J26 at h
  refine r_iload_n hX dX7_tray_26 1 rfl ?_
  refine r_if_eq hX (tgt := 44) dX7_tray_27 (by decide) (fun hc5 => ?_) (fun hc5 => ?_)
  · have h := ite_t hc5 h
    refine r_sub [0, 1, 2] rfl ?_
    exact mX7_tray_J44 hX hQ  μ x1 x2 h
  · have h := ite_f hc5 h
    refine r_aload_n hX dX7_tray_30 0 rfl ?_
    refine r_get hX 0 0 kyC0 rfl rfl inlX7 0 (by decide) tw1_179 (v := .ref (ad 1 0)) rfl dX7_tray_31 ?_
    refine r_iload_n hX dX7_tray_34 2 rfl ?_
    obtain ⟨r16, hq15, h⟩ := bind_ex h
    refine r_callV hX 1 0 (As := [.int x2]) (rest := []) (st' := [.int r16]) (res := (some (.int r16))) (μ' := μ) (mX1_compares x2 hq15) ckV_X7_102 ⟨rfl, rfl, by decide, by decide⟩ kyC1 rfl rfl rfl rfl (Nat.le_of_ble_eq_true rfl) dX7_tray_35 rfl ?_
    refine r_if_ne hX (tgt := 44) dX7_tray_38 (by decide) (fun hc17 => ?_) (fun hc17 => ?_)
    · have h := ite_f hc17 h
      refine r_sub [0, 1, 2] rfl ?_
      exact mX7_tray_J44 hX hQ  μ x1 x2 h
    · have h := ite_t hc17 h
      refine r_bipush hX dX7_tray_41 (v := (-2)) (by decide) ?_
      exact r_iret hX hQ (pr1 h) (pr2 h) dX7_tray_43
noncomputable def jX7_tray (μ : Mu) (a1 : Int32) (a2 : Int32) : Option (Int32 × Mu) := (jX7_isWithin a1 0 2).bind (fun r2 => if r2 = 0 then jX7_tray_J24  μ a1 a2 else if a1 = 0 then jX7_tray_J26  μ a1 a2 else (jX1_hasHook μ a2).bind (fun r19 => if r19 = 0 then jX7_tray_J24  μ a1 a2 else jX7_tray_J26  μ a1 a2))
set_option maxHeartbeats 4000000 in
set_option maxRecDepth 100000 in
theorem mX7_tray {l : Launch} {D : va_G} {cI cH cT : ClassId} {ad : Nat → Nat → Nat} {Z : va_W} {μ : Mu} {r : Int32} {μ' : Mu} (a1 : Int32) (a2 : Int32) (h : jX7_tray μ a1 a2 = some (r, μ')) : CT (gC l D cI cH cT ad Z) yX7_tray (.code yX7_tray cX7_tray 3 (some .int) :: wsL_law) rmX7_tray [.ref (ad 0 0), .int a1, .int a2] μ (some (.int r)) μ' := by
  refine ct_of (own := RX7) (by decide) ⟨rfl, rfl⟩ (Nat.le_of_ble_eq_true rfl) rfl (fun X hX hQ => ?_)
  have hX : HX (gC l D cI cH cT ad Z) X cX7_tray 3 RX7 rmX7_tray (some .int) := hX
  show V (gC l D cI cH cT ad Z) X 3 μ 0 [(0, .ref (ad 0 0)), (1, .int a1), (2, .int a2)] []
  unfold jX7_tray at h
  refine r_iload_n hX dX7_tray_0 1 rfl ?_
  refine r_iconst hX dX7_tray_1 (v := 0) (by decide) ?_
  refine r_iconst hX dX7_tray_2 (v := 2) (by decide) ?_
  obtain ⟨r2, hq1, h⟩ := bind_ex h
  refine r_callS hX (As := [.int a1, .int 0, .int 2]) (rest := []) (st' := [.int r2]) (res := (some (.int r2))) (μ' := μ) (mX7_isWithin a1 0 2 hq1) ckS_X7_37 ⟨rfl, rfl, by decide, by decide⟩ rfl rfl (Nat.le_of_ble_eq_true rfl) dX7_tray_3 rfl ?_
  refine r_if_eq hX (tgt := 24) dX7_tray_6 (by decide) (fun hc3 => ?_) (fun hc3 => ?_)
  · have h := ite_t hc3 h
    refine r_sub [0, 1, 2] rfl ?_
    exact mX7_tray_J24 hX hQ  μ a1 a2 h
  · have h := ite_f hc3 h
    refine r_iload_n hX dX7_tray_9 1 rfl ?_
    refine r_if_eq hX (tgt := 26) dX7_tray_10 (by decide) (fun hc4 => ?_) (fun hc4 => ?_)
    · have h := ite_t hc4 h
      refine r_sub [0, 1, 2] rfl ?_
      exact mX7_tray_J26 hX hQ  μ a1 a2 h
    · have h := ite_f hc4 h
      refine r_aload_n hX dX7_tray_13 0 rfl ?_
      refine r_get hX 0 0 kyC0 rfl rfl inlX7 0 (by decide) tw1_179 (v := .ref (ad 1 0)) rfl dX7_tray_14 ?_
      refine r_iload_n hX dX7_tray_17 2 rfl ?_
      obtain ⟨r19, hq18, h⟩ := bind_ex h
      refine r_callV hX 1 0 (As := [.int a2]) (rest := []) (st' := [.int r19]) (res := (some (.int r19))) (μ' := μ) (mX1_hasHook a2 hq18) ckV_X7_67 ⟨rfl, rfl, by decide, by decide⟩ kyC1 rfl rfl rfl rfl (Nat.le_of_ble_eq_true rfl) dX7_tray_18 rfl ?_
      refine r_if_ne hX (tgt := 26) dX7_tray_21 (by decide) (fun hc20 => ?_) (fun hc20 => ?_)
      · have h := ite_f hc20 h
        refine r_sub [0, 1, 2] rfl ?_
        exact mX7_tray_J26 hX hQ  μ a1 a2 h
      · have h := ite_t hc20 h
        refine r_sub [0, 1, 2] rfl ?_
        exact mX7_tray_J24 hX hQ  μ a1 a2 h
abbrev rmX7_hasTray : Room := { frames := 0, cells := 0, slots := 0, locals := 0 }
noncomputable def jX7_hasTray (μ : Mu) (a1 : Int32) : Option (Int32) := if a1 < 0 then some 0 else if (μ 0 0 2) ≤ a1 then some 0 else some 1
set_option maxHeartbeats 4000000 in
set_option maxRecDepth 100000 in
theorem mX7_hasTray {l : Launch} {D : va_G} {cI cH cT : ClassId} {ad : Nat → Nat → Nat} {Z : va_W} {μ : Mu} {r : Int32} (a1 : Int32) (h : jX7_hasTray μ a1 = some r) : CT (gC l D cI cH cT ad Z) yX7_hasTray (.code yX7_hasTray cX7_hasTray 2 (some .boolean) :: wsL_law) rmX7_hasTray [.ref (ad 0 0), .int a1] μ (some (.int r)) μ := by
  refine ct_of (own := RX7) (by decide) ⟨rfl, rfl⟩ (Nat.le_of_ble_eq_true rfl) rfl (fun X hX hQ => ?_)
  have hX : HX (gC l D cI cH cT ad Z) X cX7_hasTray 2 RX7 rmX7_hasTray (some .boolean) := hX
  show V (gC l D cI cH cT ad Z) X 2 μ 0 [(0, .ref (ad 0 0)), (1, .int a1)] []
  unfold jX7_hasTray at h
  refine r_iload_n hX dX7_hasTray_0 1 rfl ?_
  refine r_if_lt hX (tgt := 16) dX7_hasTray_1 (by decide) (fun hc1 => ?_) (fun hc1 => ?_)
  · have h := ite_t hc1 h
    refine r_iconst hX dX7_hasTray_16 (v := 0) (by decide) ?_
    exact r_zret hX (Or.inl rfl) hQ (Option.some.inj h) rfl dX7_hasTray_17
  · have h := ite_f hc1 h
    refine r_iload_n hX dX7_hasTray_4 1 rfl ?_
    refine r_aload_n hX dX7_hasTray_5 0 rfl ?_
    refine r_get hX 0 0 kyC0 rfl rfl inlX7 2 (by decide) tw1_181 (v := .int (μ 0 0 2)) rfl dX7_hasTray_6 ?_
    refine r_icmp_ge hX (tgt := 16) dX7_hasTray_9 (by decide) (fun hc2 => ?_) (fun hc2 => ?_)
    · have h := ite_t hc2 h
      refine r_iconst hX dX7_hasTray_16 (v := 0) (by decide) ?_
      exact r_zret hX (Or.inl rfl) hQ (Option.some.inj h) rfl dX7_hasTray_17
    · have h := ite_f hc2 h
      refine r_iconst hX dX7_hasTray_12 (v := 1) (by decide) ?_
      refine r_goto hX (tgt := 17) dX7_hasTray_13 (by decide) ?_
      exact r_zret hX (Or.inr rfl) hQ (Option.some.inj h) rfl dX7_hasTray_17
abbrev rmX7_placeOnDraft : Room := { frames := 4, cells := 0, slots := 0, locals := 99 }
noncomputable def jX7_placeOnDraft (μ : Mu) (b1 : Nat) (a2 : Int32) : Option (Int32 × Mu) := if (μ 13 b1 1) = 1 then (jX5_placeFor μ 6 a2 (μ 13 b1 2)).bind (fun q9 => if q9.1 = (-11) then some (0, q9.2) else (jX5_insert q9.2 6 q9.1 a2).bind (fun μ12 => some (1, μ12))) else (jX5_append μ 6 a2).bind (fun μ3 => if (μ3 13 b1 1) = 2 then (jX5_rise μ3 6 ((μ3 14 6 1) - 1) (μ3 13 b1 2)).bind (fun q6 => if q6.1 = (-11) then some (0, q6.2) else some (1, q6.2)) else some (1, μ3))
set_option maxHeartbeats 4000000 in
set_option maxRecDepth 100000 in
theorem mX7_placeOnDraft {l : Launch} {D : va_G} {cI cH cT : ClassId} {ad : Nat → Nat → Nat} {Z : va_W} {μ : Mu} {r : Int32} {μ' : Mu} (b1 : Nat) (hb1 : b1 < 6) (a2 : Int32) (h : jX7_placeOnDraft μ b1 a2 = some (r, μ')) : CT (gC l D cI cH cT ad Z) yX7_placeOnDraft (.code yX7_placeOnDraft cX7_placeOnDraft 4 (some .boolean) :: wsL_law) rmX7_placeOnDraft [.ref (ad 0 0), .ref (ad 13 b1), .int a2] μ (some (.int r)) μ' := by
  refine ct_of (own := RX7) (by decide) ⟨rfl, rfl⟩ (Nat.le_of_ble_eq_true rfl) rfl (fun X hX hQ => ?_)
  have hX : HX (gC l D cI cH cT ad Z) X cX7_placeOnDraft 4 RX7 rmX7_placeOnDraft (some .boolean) := hX
  show V (gC l D cI cH cT ad Z) X 4 μ 0 [(0, .ref (ad 0 0)), (1, .ref (ad 13 b1)), (2, .int a2)] []
  unfold jX7_placeOnDraft at h
  refine r_aload_n hX dX7_placeOnDraft_0 1 rfl ?_
  refine r_getN hX 13 b1 (kyC13 hb1) rfl rfl inlX6 1 (by decide) tn_25 (v := .int (μ 13 b1 1)) rfl dX7_placeOnDraft_1 ?_
  refine r_iconst hX dX7_placeOnDraft_4 (v := 1) (by decide) ?_
  refine r_icmp_ne hX (tgt := 44) dX7_placeOnDraft_5 (by decide) (fun hc1 => ?_) (fun hc1 => ?_)
  · have h := ite_f hc1 h
    refine r_aload_n hX dX7_placeOnDraft_44 0 rfl ?_
    refine r_get hX 0 0 kyC0 rfl rfl inlX7 3 (by decide) tw1_182 (v := .ref (ad 14 6)) rfl dX7_placeOnDraft_45 ?_
    refine r_iload_n hX dX7_placeOnDraft_48 2 rfl ?_
    obtain ⟨μ3, hq2, h⟩ := bind_ex h
    refine r_callV hX 14 6 (As := [.int a2]) (rest := []) (st' := []) (res := none) (μ' := μ3) (mX5_append 6 (by decide) a2 hq2) ckV_X7_209 ⟨rfl, rfl, by decide, by decide⟩ (kyC14 (by decide)) rfl rfl rfl rfl (Nat.le_of_ble_eq_true rfl) dX7_placeOnDraft_49 rfl ?_
    refine r_aload_n hX dX7_placeOnDraft_52 1 rfl ?_
    refine r_getN hX 13 b1 (kyC13 hb1) rfl rfl inlX6 1 (by decide) tn_25 (v := .int (μ3 13 b1 1)) rfl dX7_placeOnDraft_53 ?_
    refine r_iconst hX dX7_placeOnDraft_56 (v := 2) (by decide) ?_
    refine r_icmp_ne hX (tgt := 89) dX7_placeOnDraft_57 (by decide) (fun hc4 => ?_) (fun hc4 => ?_)
    · have h := ite_f hc4 h
      refine r_iconst hX dX7_placeOnDraft_89 (v := 1) (by decide) ?_
      refine r_goto hX (tgt := 94) dX7_placeOnDraft_90 (by decide) ?_
      exact r_zret hX (Or.inr rfl) hQ (pr1 h) (pr2 h) dX7_placeOnDraft_94
    · have h := ite_t hc4 h
      refine r_aload_n hX dX7_placeOnDraft_60 0 rfl ?_
      refine r_get hX 0 0 kyC0 rfl rfl inlX7 3 (by decide) tw1_182 (v := .ref (ad 14 6)) rfl dX7_placeOnDraft_61 ?_
      refine r_aload_n hX dX7_placeOnDraft_64 0 rfl ?_
      refine r_get hX 0 0 kyC0 rfl rfl inlX7 3 (by decide) tw1_182 (v := .ref (ad 14 6)) rfl dX7_placeOnDraft_65 ?_
      refine r_getN hX 14 6 (kyC14 (by decide)) rfl rfl inlX5 1 (by decide) tn_23 (v := .int (μ3 14 6 1)) rfl dX7_placeOnDraft_68 ?_
      refine r_iconst hX dX7_placeOnDraft_71 (v := 1) (by decide) ?_
      refine r_isub hX dX7_placeOnDraft_72 ?_
      refine r_aload_n hX dX7_placeOnDraft_73 0 rfl ?_
      refine r_get hX 0 0 kyC0 rfl rfl inlX7 0 (by decide) tw1_179 (v := .ref (ad 1 0)) rfl dX7_placeOnDraft_74 ?_
      refine r_aload_n hX dX7_placeOnDraft_77 1 rfl ?_
      refine r_getN hX 13 b1 (kyC13 hb1) rfl rfl inlX6 2 (by decide) tn_26 (v := .int (μ3 13 b1 2)) rfl dX7_placeOnDraft_78 ?_
      obtain ⟨q6, hq5, h⟩ := bind_ex h
      refine r_callV hX 14 6 (As := [.int ((μ3 14 6 1) - 1), .ref (ad 1 0), .int (μ3 13 b1 2)]) (rest := []) (st' := [.int q6.1]) (res := (some (.int q6.1))) (μ' := q6.2) (mX5_rise 6 (by decide) ((μ3 14 6 1) - 1) (μ3 13 b1 2) hq5) ckV_X7_213 ⟨rfl, rfl, by decide, by decide⟩ (kyC14 (by decide)) rfl rfl rfl rfl (Nat.le_of_ble_eq_true rfl) dX7_placeOnDraft_81 rfl ?_
      refine r_bipush hX dX7_placeOnDraft_84 (v := (-11)) (by decide) ?_
      refine r_icmp_eq hX (tgt := 93) dX7_placeOnDraft_86 (by decide) (fun hc7 => ?_) (fun hc7 => ?_)
      · have h := ite_t hc7 h
        refine r_iconst hX dX7_placeOnDraft_93 (v := 0) (by decide) ?_
        exact r_zret hX (Or.inl rfl) hQ (pr1 h) (pr2 h) dX7_placeOnDraft_94
      · have h := ite_f hc7 h
        refine r_iconst hX dX7_placeOnDraft_89 (v := 1) (by decide) ?_
        refine r_goto hX (tgt := 94) dX7_placeOnDraft_90 (by decide) ?_
        exact r_zret hX (Or.inr rfl) hQ (pr1 h) (pr2 h) dX7_placeOnDraft_94
  · have h := ite_t hc1 h
    refine r_aload_n hX dX7_placeOnDraft_8 0 rfl ?_
    refine r_get hX 0 0 kyC0 rfl rfl inlX7 3 (by decide) tw1_182 (v := .ref (ad 14 6)) rfl dX7_placeOnDraft_9 ?_
    refine r_iload_n hX dX7_placeOnDraft_12 2 rfl ?_
    refine r_aload_n hX dX7_placeOnDraft_13 0 rfl ?_
    refine r_get hX 0 0 kyC0 rfl rfl inlX7 0 (by decide) tw1_179 (v := .ref (ad 1 0)) rfl dX7_placeOnDraft_14 ?_
    refine r_aload_n hX dX7_placeOnDraft_17 1 rfl ?_
    refine r_getN hX 13 b1 (kyC13 hb1) rfl rfl inlX6 2 (by decide) tn_26 (v := .int (μ 13 b1 2)) rfl dX7_placeOnDraft_18 ?_
    obtain ⟨q9, hq8, h⟩ := bind_ex h
    refine r_callV hX 14 6 (As := [.int a2, .ref (ad 1 0), .int (μ 13 b1 2)]) (rest := []) (st' := [.int q9.1]) (res := (some (.int q9.1))) (μ' := q9.2) (mX5_placeFor 6 (by decide) a2 (μ 13 b1 2) hq8) ckV_X7_148 ⟨rfl, rfl, by decide, by decide⟩ (kyC14 (by decide)) rfl rfl rfl rfl (Nat.le_of_ble_eq_true rfl) dX7_placeOnDraft_21 rfl ?_
    refine r_istore_n hX dX7_placeOnDraft_24 (lv' := [(3, .int q9.1), (0, .ref (ad 0 0)), (1, .ref (ad 13 b1)), (2, .int a2)]) (by decide) rfl ?_
    refine r_iload_n hX dX7_placeOnDraft_25 0 rfl ?_
    refine r_bipush hX dX7_placeOnDraft_26 (v := (-11)) (by decide) ?_
    refine r_icmp_ne hX (tgt := 33) dX7_placeOnDraft_28 (by decide) (fun hc10 => ?_) (fun hc10 => ?_)
    · have h := ite_f hc10 h
      refine r_aload_n hX dX7_placeOnDraft_33 1 rfl ?_
      refine r_get hX 0 0 kyC0 rfl rfl inlX7 3 (by decide) tw1_182 (v := .ref (ad 14 6)) rfl dX7_placeOnDraft_34 ?_
      refine r_iload_n hX dX7_placeOnDraft_37 0 rfl ?_
      refine r_iload_n hX dX7_placeOnDraft_38 3 rfl ?_
      obtain ⟨μ12, hq11, h⟩ := bind_ex h
      refine r_callV hX 14 6 (As := [.int q9.1, .int a2]) (rest := []) (st' := []) (res := none) (μ' := μ12) (mX5_insert 6 (by decide) q9.1 a2 hq11) ckV_X7_206 ⟨rfl, rfl, by decide, by decide⟩ (kyC14 (by decide)) rfl rfl rfl rfl (Nat.le_of_ble_eq_true rfl) dX7_placeOnDraft_39 rfl ?_
      refine r_iconst hX dX7_placeOnDraft_42 (v := 1) (by decide) ?_
      exact r_zret hX (Or.inr rfl) hQ (pr1 h) (pr2 h) dX7_placeOnDraft_43
    · have h := ite_t hc10 h
      refine r_iconst hX dX7_placeOnDraft_31 (v := 0) (by decide) ?_
      exact r_zret hX (Or.inl rfl) hQ (pr1 h) (pr2 h) dX7_placeOnDraft_32
abbrev rmX7_keepDraft : Room := { frames := 4, cells := 0, slots := 0, locals := 87 }
noncomputable def jX7_keepDraft (μ : Mu) (b1 : Nat) (a2 : Int32) : Option (Int32 × Mu) := if a2 = 0 then some (1, μ) else (jX5_copy μ b1 6).bind (fun μ3 => some (0, μ3))
set_option maxHeartbeats 4000000 in
set_option maxRecDepth 100000 in
theorem mX7_keepDraft {l : Launch} {D : va_G} {cI cH cT : ClassId} {ad : Nat → Nat → Nat} {Z : va_W} {μ : Mu} {r : Int32} {μ' : Mu} (b1 : Nat) (hb1 : b1 < 6) (a2 : Int32) (h : jX7_keepDraft μ b1 a2 = some (r, μ')) : CT (gC l D cI cH cT ad Z) yX7_keepDraft (.code yX7_keepDraft cX7_keepDraft 3 (some .int) :: wsL_law) rmX7_keepDraft [.ref (ad 0 0), .ref (ad 13 b1), .int a2] μ (some (.int r)) μ' := by
  refine ct_of (own := RX7) (by decide) ⟨rfl, rfl⟩ (Nat.le_of_ble_eq_true rfl) rfl (fun X hX hQ => ?_)
  have hX : HX (gC l D cI cH cT ad Z) X cX7_keepDraft 3 RX7 rmX7_keepDraft (some .int) := hX
  show V (gC l D cI cH cT ad Z) X 3 μ 0 [(0, .ref (ad 0 0)), (1, .ref (ad 13 b1)), (2, .int a2)] []
  unfold jX7_keepDraft at h
  refine r_iload_n hX dX7_keepDraft_0 2 rfl ?_
  refine r_if_ne hX (tgt := 6) dX7_keepDraft_1 (by decide) (fun hc1 => ?_) (fun hc1 => ?_)
  · have h := ite_f hc1 h
    refine r_aload_n hX dX7_keepDraft_6 1 rfl ?_
    refine r_getN hX 13 b1 (kyC13 hb1) rfl rfl inlX6 0 (by decide) tn_24 (v := .ref (ad 14 b1)) rfl dX7_keepDraft_7 ?_
    refine r_aload_n hX dX7_keepDraft_10 0 rfl ?_
    refine r_get hX 0 0 kyC0 rfl rfl inlX7 3 (by decide) tw1_182 (v := .ref (ad 14 6)) rfl dX7_keepDraft_11 ?_
    obtain ⟨μ3, hq2, h⟩ := bind_ex h
    refine r_callV hX 14 b1 (As := [.ref (ad 14 6)]) (rest := []) (st' := []) (res := none) (μ' := μ3) (mX5_copy b1 (lt68 hb1) 6 (by decide) hq2) ckV_X7_121 ⟨rfl, rfl, by decide, by decide⟩ (kyC14 (lt68 hb1)) rfl rfl rfl rfl (Nat.le_of_ble_eq_true rfl) dX7_keepDraft_14 rfl ?_
    refine r_iconst hX dX7_keepDraft_17 (v := 0) (by decide) ?_
    exact r_iret hX hQ (pr1 h) (pr2 h) dX7_keepDraft_18
  · have h := ite_t hc1 h
    refine r_iconst hX dX7_keepDraft_4 (v := 1) (by decide) ?_
    exact r_iret hX hQ (pr1 h) (pr2 h) dX7_keepDraft_5
abbrev rmX7_removeOnDraft : Room := { frames := 4, cells := 0, slots := 0, locals := 98 }
noncomputable def jX7_removeOnDraft (μ : Mu) (b1 : Nat) (a2 : Int32) : Option (Int32 × Mu) := (jX5_copy μ 6 b1).bind (fun μ2 => if (μ2 13 b1 1) = 2 then (jX5_swap μ2 6 a2 ((μ2 14 6 1) - 1)).bind (fun μ5 => (jX5_remove μ5 6 ((μ2 14 6 1) - 1)).bind (fun μ7 => if a2 = ((μ2 14 6 1) - 1) then some (1, μ7) else (jX5_rise μ7 6 a2 (μ7 13 b1 2)).bind (fun q10 => if q10.1 = a2 then (jX5_sink q10.2 6 a2 (q10.2 13 b1 2)).bind (fun q14 => if q14.1 = (-11) then some (0, q14.2) else some (1, q14.2)) else if q10.1 = (-11) then some (0, q10.2) else some (1, q10.2)))) else (jX5_remove μ2 6 a2).bind (fun μ17 => some (1, μ17)))
set_option maxHeartbeats 4000000 in
set_option maxRecDepth 100000 in
theorem mX7_removeOnDraft {l : Launch} {D : va_G} {cI cH cT : ClassId} {ad : Nat → Nat → Nat} {Z : va_W} {μ : Mu} {r : Int32} {μ' : Mu} (b1 : Nat) (hb1 : b1 < 6) (a2 : Int32) (h : jX7_removeOnDraft μ b1 a2 = some (r, μ')) : CT (gC l D cI cH cT ad Z) yX7_removeOnDraft (.code yX7_removeOnDraft cX7_removeOnDraft 5 (some .boolean) :: wsL_law) rmX7_removeOnDraft [.ref (ad 0 0), .ref (ad 13 b1), .int a2] μ (some (.int r)) μ' := by
  refine ct_of (own := RX7) (by decide) ⟨rfl, rfl⟩ (Nat.le_of_ble_eq_true rfl) rfl (fun X hX hQ => ?_)
  have hX : HX (gC l D cI cH cT ad Z) X cX7_removeOnDraft 5 RX7 rmX7_removeOnDraft (some .boolean) := hX
  show V (gC l D cI cH cT ad Z) X 5 μ 0 [(0, .ref (ad 0 0)), (1, .ref (ad 13 b1)), (2, .int a2)] []
  unfold jX7_removeOnDraft at h
  refine r_aload_n hX dX7_removeOnDraft_0 0 rfl ?_
  refine r_get hX 0 0 kyC0 rfl rfl inlX7 3 (by decide) tw1_182 (v := .ref (ad 14 6)) rfl dX7_removeOnDraft_1 ?_
  refine r_aload_n hX dX7_removeOnDraft_4 1 rfl ?_
  refine r_getN hX 13 b1 (kyC13 hb1) rfl rfl inlX6 0 (by decide) tn_24 (v := .ref (ad 14 b1)) rfl dX7_removeOnDraft_5 ?_
  obtain ⟨μ2, hq1, h⟩ := bind_ex h
  refine r_callV hX 14 6 (As := [.ref (ad 14 b1)]) (rest := []) (st' := []) (res := none) (μ' := μ2) (mX5_copy 6 (by decide) b1 (lt68 hb1) hq1) ckV_X7_121 ⟨rfl, rfl, by decide, by decide⟩ (kyC14 (by decide)) rfl rfl rfl rfl (Nat.le_of_ble_eq_true rfl) dX7_removeOnDraft_8 rfl ?_
  refine r_aload_n hX dX7_removeOnDraft_11 1 rfl ?_
  refine r_getN hX 13 b1 (kyC13 hb1) rfl rfl inlX6 1 (by decide) tn_25 (v := .int (μ2 13 b1 1)) rfl dX7_removeOnDraft_12 ?_
  refine r_iconst hX dX7_removeOnDraft_15 (v := 2) (by decide) ?_
  refine r_icmp_eq hX (tgt := 29) dX7_removeOnDraft_16 (by decide) (fun hc3 => ?_) (fun hc3 => ?_)
  · have h := ite_t hc3 h
    refine r_aload_n hX dX7_removeOnDraft_29 0 rfl ?_
    refine r_get hX 0 0 kyC0 rfl rfl inlX7 3 (by decide) tw1_182 (v := .ref (ad 14 6)) rfl dX7_removeOnDraft_30 ?_
    refine r_getN hX 14 6 (kyC14 (by decide)) rfl rfl inlX5 1 (by decide) tn_23 (v := .int (μ2 14 6 1)) rfl dX7_removeOnDraft_33 ?_
    refine r_iconst hX dX7_removeOnDraft_36 (v := 1) (by decide) ?_
    refine r_isub hX dX7_removeOnDraft_37 ?_
    refine r_istore_n hX dX7_removeOnDraft_38 (lv' := [(3, .int ((μ2 14 6 1) - 1)), (0, .ref (ad 0 0)), (1, .ref (ad 13 b1)), (2, .int a2)]) (by decide) rfl ?_
    refine r_aload_n hX dX7_removeOnDraft_39 1 rfl ?_
    refine r_get hX 0 0 kyC0 rfl rfl inlX7 3 (by decide) tw1_182 (v := .ref (ad 14 6)) rfl dX7_removeOnDraft_40 ?_
    refine r_iload_n hX dX7_removeOnDraft_43 3 rfl ?_
    refine r_iload_n hX dX7_removeOnDraft_44 0 rfl ?_
    obtain ⟨μ5, hq4, h⟩ := bind_ex h
    refine r_callV hX 14 6 (As := [.int a2, .int ((μ2 14 6 1) - 1)]) (rest := []) (st' := []) (res := none) (μ' := μ5) (mX5_swap 6 (by decide) a2 ((μ2 14 6 1) - 1) hq4) ckV_X7_219 ⟨rfl, rfl, by decide, by decide⟩ (kyC14 (by decide)) rfl rfl rfl rfl (Nat.le_of_ble_eq_true rfl) dX7_removeOnDraft_45 rfl ?_
    refine r_aload_n hX dX7_removeOnDraft_48 1 rfl ?_
    refine r_get hX 0 0 kyC0 rfl rfl inlX7 3 (by decide) tw1_182 (v := .ref (ad 14 6)) rfl dX7_removeOnDraft_49 ?_
    refine r_iload_n hX dX7_removeOnDraft_52 0 rfl ?_
    obtain ⟨μ7, hq6, h⟩ := bind_ex h
    refine r_callV hX 14 6 (As := [.int ((μ2 14 6 1) - 1)]) (rest := []) (st' := []) (res := none) (μ' := μ7) (mX5_remove 6 (by decide) ((μ2 14 6 1) - 1) hq6) ckV_X7_216 ⟨rfl, rfl, by decide, by decide⟩ (kyC14 (by decide)) rfl rfl rfl rfl (Nat.le_of_ble_eq_true rfl) dX7_removeOnDraft_53 rfl ?_
    refine r_iload_n hX dX7_removeOnDraft_56 3 rfl ?_
    refine r_iload_n hX dX7_removeOnDraft_57 0 rfl ?_
    refine r_icmp_ne hX (tgt := 63) dX7_removeOnDraft_58 (by decide) (fun hc8 => ?_) (fun hc8 => ?_)
    · have h := ite_f hc8 h
      refine r_aload_n hX dX7_removeOnDraft_63 1 rfl ?_
      refine r_get hX 0 0 kyC0 rfl rfl inlX7 3 (by decide) tw1_182 (v := .ref (ad 14 6)) rfl dX7_removeOnDraft_64 ?_
      refine r_iload_n hX dX7_removeOnDraft_67 3 rfl ?_
      refine r_aload_n hX dX7_removeOnDraft_68 1 rfl ?_
      refine r_get hX 0 0 kyC0 rfl rfl inlX7 0 (by decide) tw1_179 (v := .ref (ad 1 0)) rfl dX7_removeOnDraft_69 ?_
      refine r_aload_n hX dX7_removeOnDraft_72 2 rfl ?_
      refine r_getN hX 13 b1 (kyC13 hb1) rfl rfl inlX6 2 (by decide) tn_26 (v := .int (μ7 13 b1 2)) rfl dX7_removeOnDraft_73 ?_
      obtain ⟨q10, hq9, h⟩ := bind_ex h
      refine r_callV hX 14 6 (As := [.int a2, .ref (ad 1 0), .int (μ7 13 b1 2)]) (rest := []) (st' := [.int q10.1]) (res := (some (.int q10.1))) (μ' := q10.2) (mX5_rise 6 (by decide) a2 (μ7 13 b1 2) hq9) ckV_X7_213 ⟨rfl, rfl, by decide, by decide⟩ (kyC14 (by decide)) rfl rfl rfl rfl (Nat.le_of_ble_eq_true rfl) dX7_removeOnDraft_76 rfl ?_
      refine r_istore hX dX7_removeOnDraft_79 (lv' := [(4, .int q10.1), (3, .int ((μ2 14 6 1) - 1)), (0, .ref (ad 0 0)), (1, .ref (ad 13 b1)), (2, .int a2)]) (by decide) rfl ?_
      refine r_iload hX dX7_removeOnDraft_81 0 rfl ?_
      refine r_iload_n hX dX7_removeOnDraft_83 4 rfl ?_
      refine r_icmp_ne hX (tgt := 105) dX7_removeOnDraft_84 (by decide) (fun hc11 => ?_) (fun hc11 => ?_)
      · have h := ite_f hc11 h
        refine r_iload hX dX7_removeOnDraft_105 0 rfl ?_
        refine r_bipush hX dX7_removeOnDraft_107 (v := (-11)) (by decide) ?_
        refine r_icmp_eq hX (tgt := 116) dX7_removeOnDraft_109 (by decide) (fun hc12 => ?_) (fun hc12 => ?_)
        · have h := ite_t hc12 h
          refine r_iconst hX dX7_removeOnDraft_116 (v := 0) (by decide) ?_
          exact r_zret hX (Or.inl rfl) hQ (pr1 h) (pr2 h) dX7_removeOnDraft_117
        · have h := ite_f hc12 h
          refine r_iconst hX dX7_removeOnDraft_112 (v := 1) (by decide) ?_
          refine r_goto hX (tgt := 117) dX7_removeOnDraft_113 (by decide) ?_
          exact r_zret hX (Or.inr rfl) hQ (pr1 h) (pr2 h) dX7_removeOnDraft_117
      · have h := ite_t hc11 h
        refine r_aload_n hX dX7_removeOnDraft_87 2 rfl ?_
        refine r_get hX 0 0 kyC0 rfl rfl inlX7 3 (by decide) tw1_182 (v := .ref (ad 14 6)) rfl dX7_removeOnDraft_88 ?_
        refine r_iload_n hX dX7_removeOnDraft_91 4 rfl ?_
        refine r_aload_n hX dX7_removeOnDraft_92 2 rfl ?_
        refine r_get hX 0 0 kyC0 rfl rfl inlX7 0 (by decide) tw1_179 (v := .ref (ad 1 0)) rfl dX7_removeOnDraft_93 ?_
        refine r_aload_n hX dX7_removeOnDraft_96 3 rfl ?_
        refine r_getN hX 13 b1 (kyC13 hb1) rfl rfl inlX6 2 (by decide) tn_26 (v := .int (q10.2 13 b1 2)) rfl dX7_removeOnDraft_97 ?_
        obtain ⟨q14, hq13, h⟩ := bind_ex h
        refine r_callV hX 14 6 (As := [.int a2, .ref (ad 1 0), .int (q10.2 13 b1 2)]) (rest := []) (st' := [.int q14.1]) (res := (some (.int q14.1))) (μ' := q14.2) (mX5_sink 6 (by decide) a2 (q10.2 13 b1 2) hq13) ckV_X7_222 ⟨rfl, rfl, by decide, by decide⟩ (kyC14 (by decide)) rfl rfl rfl rfl (Nat.le_of_ble_eq_true rfl) dX7_removeOnDraft_100 rfl ?_
        refine r_istore hX dX7_removeOnDraft_103 (lv' := [(4, .int q14.1), (3, .int ((μ2 14 6 1) - 1)), (0, .ref (ad 0 0)), (1, .ref (ad 13 b1)), (2, .int a2)]) (by decide) rfl ?_
        refine r_iload hX dX7_removeOnDraft_105 0 rfl ?_
        refine r_bipush hX dX7_removeOnDraft_107 (v := (-11)) (by decide) ?_
        refine r_icmp_eq hX (tgt := 116) dX7_removeOnDraft_109 (by decide) (fun hc15 => ?_) (fun hc15 => ?_)
        · have h := ite_t hc15 h
          refine r_iconst hX dX7_removeOnDraft_116 (v := 0) (by decide) ?_
          exact r_zret hX (Or.inl rfl) hQ (pr1 h) (pr2 h) dX7_removeOnDraft_117
        · have h := ite_f hc15 h
          refine r_iconst hX dX7_removeOnDraft_112 (v := 1) (by decide) ?_
          refine r_goto hX (tgt := 117) dX7_removeOnDraft_113 (by decide) ?_
          exact r_zret hX (Or.inr rfl) hQ (pr1 h) (pr2 h) dX7_removeOnDraft_117
    · have h := ite_t hc8 h
      refine r_iconst hX dX7_removeOnDraft_61 (v := 1) (by decide) ?_
      exact r_zret hX (Or.inr rfl) hQ (pr1 h) (pr2 h) dX7_removeOnDraft_62
  · have h := ite_f hc3 h
    refine r_aload_n hX dX7_removeOnDraft_19 0 rfl ?_
    refine r_get hX 0 0 kyC0 rfl rfl inlX7 3 (by decide) tw1_182 (v := .ref (ad 14 6)) rfl dX7_removeOnDraft_20 ?_
    refine r_iload_n hX dX7_removeOnDraft_23 2 rfl ?_
    obtain ⟨μ17, hq16, h⟩ := bind_ex h
    refine r_callV hX 14 6 (As := [.int a2]) (rest := []) (st' := []) (res := none) (μ' := μ17) (mX5_remove 6 (by decide) a2 hq16) ckV_X7_216 ⟨rfl, rfl, by decide, by decide⟩ (kyC14 (by decide)) rfl rfl rfl rfl (Nat.le_of_ble_eq_true rfl) dX7_removeOnDraft_24 rfl ?_
    refine r_iconst hX dX7_removeOnDraft_27 (v := 1) (by decide) ?_
    exact r_zret hX (Or.inr rfl) hQ (pr1 h) (pr2 h) dX7_removeOnDraft_28
abbrev rmX7_sortDraftAnew : Room := { frames := 4, cells := 0, slots := 0, locals := 101 }
noncomputable def jX7_sortDraftAnew_L36 (x1 : Int32) (x2 : Int32) (x3 : Int32) (kf : Mu → Int32 → Option (Int32 × Mu)) : Nat → Mu → Int32 → Option (Int32 × Mu)
  | 0, _, _ => none
  | n7 + 1, μ, x4 => if x2 ≤ x4 then kf μ x4 else (jX5_appendMerged μ 6 7 x4 (if x2 < (x4 + x3) then x2 else (x4 + x3)) (if x2 < (x4 + (2 * x3)) then x2 else (x4 + (2 * x3))) x1).bind (fun q10 => if q10.1 = 0 then some (0, q10.2) else jX7_sortDraftAnew_L36 x1 x2 x3 kf n7 q10.2 (x4 + (2 * x3)))
set_option maxHeartbeats 4000000 in
set_option maxRecDepth 100000 in
theorem mX7_sortDraftAnew_L36 {l : Launch} {D : va_G} {cI cH cT : ClassId} {ad : Nat → Nat → Nat} {Z : va_W} {X : Cx} (hX : HX (gC l D cI cH cT ad Z) X cX7_sortDraftAnew 7 RX7 rmX7_sortDraftAnew (some .boolean)) {r : Int32} {μ' : Mu} (hQ : HQ (gC l D cI cH cT ad Z) X (some (.int r)) μ') (x1 : Int32) (x2 : Int32) (x3 : Int32) (kf : Mu → Int32 → Option (Int32 × Mu)) (hkf : ∀ (μ : Mu) (x4 : Int32), kf μ x4 = some (r, μ') → V (gC l D cI cH cT ad Z) X 7 μ 102 [(0, .ref (ad 0 0)), (1, .int x1), (2, .int x2), (3, .int x3), (4, .int x4)] []) : ∀ (n7 : Nat) (μ : Mu) (x4 : Int32), jX7_sortDraftAnew_L36 x1 x2 x3 kf n7 μ x4 = some (r, μ') → V (gC l D cI cH cT ad Z) X 7 μ 36 [(0, .ref (ad 0 0)), (1, .int x1), (2, .int x2), (3, .int x3), (4, .int x4)] [] := by
  intro n7
  induction n7 with
  | zero => intro μ x4 h; exact none_no h
  | succ n7 ih =>
    intro μ x4 h
    rw [jX7_sortDraftAnew_L36] at h
    refine r_iload hX dX7_sortDraftAnew_36 4 rfl ?_
    refine r_iload_n hX dX7_sortDraftAnew_38 2 rfl ?_
    refine r_icmp_ge hX (tgt := 102) dX7_sortDraftAnew_39 (by decide) (fun hc8 => ?_) (fun hc8 => ?_)
    · have h := ite_t hc8 h
      refine r_sub [0, 1, 2, 3, 4] rfl ?_
      exact hkf μ x4 h
    · have h := ite_f hc8 h
      refine r_iload hX dX7_sortDraftAnew_42 4 rfl ?_
      refine r_iload_n hX dX7_sortDraftAnew_44 3 rfl ?_
      refine r_iadd hX dX7_sortDraftAnew_45 ?_
      refine r_iload_n hX dX7_sortDraftAnew_46 2 rfl ?_
      refine r_mmin hX tw2_195 tw2_196 tw1_11 tw2_197 (by decide) (Nat.le_of_ble_eq_true rfl) dX7_sortDraftAnew_47 ?_
      refine r_istore hX dX7_sortDraftAnew_50 (lv' := [(5, .int (if x2 < (x4 + x3) then x2 else (x4 + x3))), (0, .ref (ad 0 0)), (1, .int x1), (2, .int x2), (3, .int x3), (4, .int x4)]) (by decide) rfl ?_
      refine r_iload hX dX7_sortDraftAnew_52 5 rfl ?_
      refine r_iconst hX dX7_sortDraftAnew_54 (v := 2) (by decide) ?_
      refine r_iload_n hX dX7_sortDraftAnew_55 4 rfl ?_
      refine r_imul hX dX7_sortDraftAnew_56 ?_
      refine r_iadd hX dX7_sortDraftAnew_57 ?_
      refine r_iload_n hX dX7_sortDraftAnew_58 3 rfl ?_
      refine r_mmin hX tw2_195 tw2_196 tw1_11 tw2_197 (by decide) (Nat.le_of_ble_eq_true rfl) dX7_sortDraftAnew_59 ?_
      refine r_istore hX dX7_sortDraftAnew_62 (lv' := [(6, .int (if x2 < (x4 + (2 * x3)) then x2 else (x4 + (2 * x3)))), (5, .int (if x2 < (x4 + x3) then x2 else (x4 + x3))), (0, .ref (ad 0 0)), (1, .int x1), (2, .int x2), (3, .int x3), (4, .int x4)]) (by decide) rfl ?_
      refine r_aload_n hX dX7_sortDraftAnew_64 2 rfl ?_
      refine r_get hX 0 0 kyC0 rfl rfl inlX7 3 (by decide) tw1_182 (v := .ref (ad 14 6)) rfl dX7_sortDraftAnew_65 ?_
      refine r_aload_n hX dX7_sortDraftAnew_68 2 rfl ?_
      refine r_get hX 0 0 kyC0 rfl rfl inlX7 4 (by decide) tw1_183 (v := .ref (ad 14 7)) rfl dX7_sortDraftAnew_69 ?_
      refine r_iload hX dX7_sortDraftAnew_72 6 rfl ?_
      refine r_iload hX dX7_sortDraftAnew_74 1 rfl ?_
      refine r_iload hX dX7_sortDraftAnew_76 0 rfl ?_
      refine r_aload_n hX dX7_sortDraftAnew_78 2 rfl ?_
      refine r_get hX 0 0 kyC0 rfl rfl inlX7 0 (by decide) tw1_179 (v := .ref (ad 1 0)) rfl dX7_sortDraftAnew_79 ?_
      refine r_iload_n hX dX7_sortDraftAnew_82 3 rfl ?_
      obtain ⟨q10, hq9, h⟩ := bind_ex h
      refine r_callV hX 14 6 (As := [.ref (ad 14 7), .int x4, .int (if x2 < (x4 + x3) then x2 else (x4 + x3)), .int (if x2 < (x4 + (2 * x3)) then x2 else (x4 + (2 * x3))), .ref (ad 1 0), .int x1]) (rest := []) (st' := [.int q10.1]) (res := (some (.int q10.1))) (μ' := q10.2) (mX5_appendMerged 6 (by decide) 7 (by decide) x4 (if x2 < (x4 + x3) then x2 else (x4 + x3)) (if x2 < (x4 + (2 * x3)) then x2 else (x4 + (2 * x3))) x1 hq9) ckV_X7_230 ⟨rfl, rfl, by decide, by decide⟩ (kyC14 (by decide)) rfl rfl rfl rfl (Nat.le_of_ble_eq_true rfl) dX7_sortDraftAnew_83 rfl ?_
      refine r_if_ne hX (tgt := 91) dX7_sortDraftAnew_86 (by decide) (fun hc11 => ?_) (fun hc11 => ?_)
      · have h := ite_f hc11 h
        refine r_iload hX dX7_sortDraftAnew_91 6 rfl ?_
        refine r_iconst hX dX7_sortDraftAnew_93 (v := 2) (by decide) ?_
        refine r_iload_n hX dX7_sortDraftAnew_94 5 rfl ?_
        refine r_imul hX dX7_sortDraftAnew_95 ?_
        refine r_iadd hX dX7_sortDraftAnew_96 ?_
        refine r_istore hX dX7_sortDraftAnew_97 (lv' := [(4, .int (x4 + (2 * x3))), (6, .int (if x2 < (x4 + (2 * x3)) then x2 else (x4 + (2 * x3)))), (5, .int (if x2 < (x4 + x3) then x2 else (x4 + x3))), (0, .ref (ad 0 0)), (1, .int x1), (2, .int x2), (3, .int x3)]) (by decide) rfl ?_
        refine r_goto hX (tgt := 36) dX7_sortDraftAnew_99 (by decide) ?_
        refine r_sub [3, 4, 5, 6, 0] rfl ?_
        exact ih q10.2 (x4 + (2 * x3)) h
      · have h := ite_t hc11 h
        refine r_iconst hX dX7_sortDraftAnew_89 (v := 0) (by decide) ?_
        exact r_zret hX (Or.inl rfl) hQ (pr1 h) (pr2 h) dX7_sortDraftAnew_90
noncomputable def jX7_sortDraftAnew_L10 (x1 : Int32) (x2 : Int32) : Nat → Mu → Int32 → Option (Int32 × Mu)
  | 0, _, _ => none
  | n1 + 1, μ, x3 => if x2 ≤ x3 then some (1, μ) else (jX5_copy μ 7 6).bind (fun μ4 => (jX5_clear μ4 6).bind (fun μ6 => jX7_sortDraftAnew_L36 x1 x2 x3 (fun μ13 z12 => jX7_sortDraftAnew_L10 x1 x2 n1 μ13 (x3 * 2)) fuel μ6 0))
set_option maxHeartbeats 4000000 in
set_option maxRecDepth 100000 in
theorem mX7_sortDraftAnew_L10 {l : Launch} {D : va_G} {cI cH cT : ClassId} {ad : Nat → Nat → Nat} {Z : va_W} {X : Cx} (hX : HX (gC l D cI cH cT ad Z) X cX7_sortDraftAnew 7 RX7 rmX7_sortDraftAnew (some .boolean)) {r : Int32} {μ' : Mu} (hQ : HQ (gC l D cI cH cT ad Z) X (some (.int r)) μ') (x1 : Int32) (x2 : Int32) : ∀ (n1 : Nat) (μ : Mu) (x3 : Int32), jX7_sortDraftAnew_L10 x1 x2 n1 μ x3 = some (r, μ') → V (gC l D cI cH cT ad Z) X 7 μ 10 [(0, .ref (ad 0 0)), (1, .int x1), (2, .int x2), (3, .int x3)] [] := by
  intro n1
  induction n1 with
  | zero => intro μ x3 h; exact none_no h
  | succ n1 ih =>
    intro μ x3 h
    rw [jX7_sortDraftAnew_L10] at h
    refine r_iload_n hX dX7_sortDraftAnew_10 3 rfl ?_
    refine r_iload_n hX dX7_sortDraftAnew_11 2 rfl ?_
    refine r_icmp_ge hX (tgt := 109) dX7_sortDraftAnew_12 (by decide) (fun hc2 => ?_) (fun hc2 => ?_)
    · have h := ite_t hc2 h
      refine r_iconst hX dX7_sortDraftAnew_109 (v := 1) (by decide) ?_
      exact r_zret hX (Or.inr rfl) hQ (pr1 h) (pr2 h) dX7_sortDraftAnew_110
    · have h := ite_f hc2 h
      refine r_aload_n hX dX7_sortDraftAnew_15 0 rfl ?_
      refine r_get hX 0 0 kyC0 rfl rfl inlX7 4 (by decide) tw1_183 (v := .ref (ad 14 7)) rfl dX7_sortDraftAnew_16 ?_
      refine r_aload_n hX dX7_sortDraftAnew_19 0 rfl ?_
      refine r_get hX 0 0 kyC0 rfl rfl inlX7 3 (by decide) tw1_182 (v := .ref (ad 14 6)) rfl dX7_sortDraftAnew_20 ?_
      obtain ⟨μ4, hq3, h⟩ := bind_ex h
      refine r_callV hX 14 7 (As := [.ref (ad 14 6)]) (rest := []) (st' := []) (res := none) (μ' := μ4) (mX5_copy 7 (by decide) 6 (by decide) hq3) ckV_X7_121 ⟨rfl, rfl, by decide, by decide⟩ (kyC14 (by decide)) rfl rfl rfl rfl (Nat.le_of_ble_eq_true rfl) dX7_sortDraftAnew_23 rfl ?_
      refine r_aload_n hX dX7_sortDraftAnew_26 0 rfl ?_
      refine r_get hX 0 0 kyC0 rfl rfl inlX7 3 (by decide) tw1_182 (v := .ref (ad 14 6)) rfl dX7_sortDraftAnew_27 ?_
      obtain ⟨μ6, hq5, h⟩ := bind_ex h
      refine r_callV hX 14 6 (As := []) (rest := []) (st' := []) (res := none) (μ' := μ6) (mX5_clear 6 (by decide) hq5) ckV_X7_159 ⟨rfl, rfl, by decide, by decide⟩ (kyC14 (by decide)) rfl rfl rfl rfl (Nat.le_of_ble_eq_true rfl) dX7_sortDraftAnew_30 rfl ?_
      refine r_iconst hX dX7_sortDraftAnew_33 (v := 0) (by decide) ?_
      refine r_istore hX dX7_sortDraftAnew_34 (lv' := [(4, .int 0), (0, .ref (ad 0 0)), (1, .int x1), (2, .int x2), (3, .int x3)]) (by decide) rfl ?_
      refine r_sub [1, 2, 3, 4, 0] rfl ?_
      refine mX7_sortDraftAnew_L36 hX hQ x1 x2 x3 (fun μ13 z12 => jX7_sortDraftAnew_L10 x1 x2 n1 μ13 (x3 * 2)) (fun μ13 z12 h => ?_) fuel μ6 0 h
      refine r_iload_n hX dX7_sortDraftAnew_102 3 rfl ?_
      refine r_iconst hX dX7_sortDraftAnew_103 (v := 2) (by decide) ?_
      refine r_imul hX dX7_sortDraftAnew_104 ?_
      refine r_istore_n hX dX7_sortDraftAnew_105 (lv' := [(3, .int (x3 * 2)), (0, .ref (ad 0 0)), (1, .int x1), (2, .int x2), (4, .int z12)]) (by decide) rfl ?_
      refine r_goto hX (tgt := 10) dX7_sortDraftAnew_106 (by decide) ?_
      refine r_sub [1, 2, 3, 0] rfl ?_
      exact ih μ13 (x3 * 2) h
noncomputable def jX7_sortDraftAnew (μ : Mu) (a1 : Int32) : Option (Int32 × Mu) := jX7_sortDraftAnew_L10 a1 (μ 14 6 1) fuel μ 1
set_option maxHeartbeats 4000000 in
set_option maxRecDepth 100000 in
theorem mX7_sortDraftAnew {l : Launch} {D : va_G} {cI cH cT : ClassId} {ad : Nat → Nat → Nat} {Z : va_W} {μ : Mu} {r : Int32} {μ' : Mu} (a1 : Int32) (h : jX7_sortDraftAnew μ a1 = some (r, μ')) : CT (gC l D cI cH cT ad Z) yX7_sortDraftAnew (.code yX7_sortDraftAnew cX7_sortDraftAnew 7 (some .boolean) :: wsL_law) rmX7_sortDraftAnew [.ref (ad 0 0), .int a1] μ (some (.int r)) μ' := by
  refine ct_of (own := RX7) (by decide) ⟨rfl, rfl⟩ (Nat.le_of_ble_eq_true rfl) rfl (fun X hX hQ => ?_)
  have hX : HX (gC l D cI cH cT ad Z) X cX7_sortDraftAnew 7 RX7 rmX7_sortDraftAnew (some .boolean) := hX
  show V (gC l D cI cH cT ad Z) X 7 μ 0 [(0, .ref (ad 0 0)), (1, .int a1)] []
  unfold jX7_sortDraftAnew at h
  refine r_aload_n hX dX7_sortDraftAnew_0 0 rfl ?_
  refine r_get hX 0 0 kyC0 rfl rfl inlX7 3 (by decide) tw1_182 (v := .ref (ad 14 6)) rfl dX7_sortDraftAnew_1 ?_
  refine r_getN hX 14 6 (kyC14 (by decide)) rfl rfl inlX5 1 (by decide) tn_23 (v := .int (μ 14 6 1)) rfl dX7_sortDraftAnew_4 ?_
  refine r_istore_n hX dX7_sortDraftAnew_7 (lv' := [(2, .int (μ 14 6 1)), (0, .ref (ad 0 0)), (1, .int a1)]) (by decide) rfl ?_
  refine r_iconst hX dX7_sortDraftAnew_8 (v := 1) (by decide) ?_
  refine r_istore_n hX dX7_sortDraftAnew_9 (lv' := [(3, .int 1), (2, .int (μ 14 6 1)), (0, .ref (ad 0 0)), (1, .int a1)]) (by decide) rfl ?_
  refine r_sub [2, 3, 1, 0] rfl ?_
  exact mX7_sortDraftAnew_L10 hX hQ a1 (μ 14 6 1) fuel μ 1 h
abbrev rmX7_judgeOntoDraft : Room := { frames := 3, cells := 0, slots := 0, locals := 71 }
noncomputable def jX7_judgeOntoDraft_L9 (k1 : Nat) (x2 : Int32) : Nat → Mu → Int32 → Option (Int32 × Mu)
  | 0, _, _ => none
  | n3 + 1, μ, x3 => if (μ 14 k1 1) ≤ x3 then some (1, μ) else (jX5_cardAt μ k1 x3).bind (fun r6 => (jX1_askKeeping μ x2 r6).bind (fun q8 => if q8.1 = (-11) then (jX5_appendPart q8.2 6 k1 x3 (q8.2 14 k1 1)).bind (fun μ17 => some (0, μ17)) else mst (mu_st q8.2 9 0 3 ((q8.2 9 0 3) + 1)) (fun μ10 => if q8.1 = 1 then (jX5_cardAt μ10 k1 x3).bind (fun r13 => (jX5_append μ10 6 r13).bind (fun μ15 => jX7_judgeOntoDraft_L9 k1 x2 n3 μ15 (x3 + 1))) else jX7_judgeOntoDraft_L9 k1 x2 n3 μ10 (x3 + 1))))
set_option maxHeartbeats 4000000 in
set_option maxRecDepth 100000 in
theorem mX7_judgeOntoDraft_L9 {l : Launch} {D : va_G} {cI cH cT : ClassId} {ad : Nat → Nat → Nat} {Z : va_W} {X : Cx} (hX : HX (gC l D cI cH cT ad Z) X cX7_judgeOntoDraft 5 RX7 rmX7_judgeOntoDraft (some .boolean)) {r : Int32} {μ' : Mu} (hQ : HQ (gC l D cI cH cT ad Z) X (some (.int r)) μ') (k1 : Nat) (hk1 : k1 < 8) (x2 : Int32) : ∀ (n3 : Nat) (μ : Mu) (x3 : Int32), jX7_judgeOntoDraft_L9 k1 x2 n3 μ x3 = some (r, μ') → V (gC l D cI cH cT ad Z) X 5 μ 9 [(0, .ref (ad 0 0)), (1, .ref (ad 14 k1)), (2, .int x2), (3, .int x3)] [] := by
  intro n3
  induction n3 with
  | zero => intro μ x3 h; exact none_no h
  | succ n3 ih =>
    intro μ x3 h
    rw [jX7_judgeOntoDraft_L9] at h
    refine r_iload_n hX dX7_judgeOntoDraft_9 3 rfl ?_
    refine r_aload_n hX dX7_judgeOntoDraft_10 1 rfl ?_
    refine r_getN hX 14 k1 (kyC14 hk1) rfl rfl inlX5 1 (by decide) tn_23 (v := .int (μ 14 k1 1)) rfl dX7_judgeOntoDraft_11 ?_
    refine r_icmp_ge hX (tgt := 94) dX7_judgeOntoDraft_14 (by decide) (fun hc4 => ?_) (fun hc4 => ?_)
    · have h := ite_t hc4 h
      refine r_iconst hX dX7_judgeOntoDraft_94 (v := 1) (by decide) ?_
      exact r_zret hX (Or.inr rfl) hQ (pr1 h) (pr2 h) dX7_judgeOntoDraft_95
    · have h := ite_f hc4 h
      refine r_aload_n hX dX7_judgeOntoDraft_17 0 rfl ?_
      refine r_get hX 0 0 kyC0 rfl rfl inlX7 0 (by decide) tw1_179 (v := .ref (ad 1 0)) rfl dX7_judgeOntoDraft_18 ?_
      refine r_iload_n hX dX7_judgeOntoDraft_21 2 rfl ?_
      refine r_aload_n hX dX7_judgeOntoDraft_22 1 rfl ?_
      refine r_iload_n hX dX7_judgeOntoDraft_23 3 rfl ?_
      obtain ⟨r6, hq5, h⟩ := bind_ex h
      refine r_callV hX 14 k1 (As := [.int x3]) (rest := [.int x2, .ref (ad 1 0)]) (st' := [.int r6, .int x2, .ref (ad 1 0)]) (res := (some (.int r6))) (μ' := μ) (mX5_cardAt k1 hk1 x3 hq5) ckV_X7_139 ⟨rfl, rfl, by decide, by decide⟩ (kyC14 hk1) rfl rfl rfl rfl (Nat.le_of_ble_eq_true rfl) dX7_judgeOntoDraft_24 rfl ?_
      obtain ⟨q8, hq7, h⟩ := bind_ex h
      refine r_callV hX 1 0 (As := [.int x2, .int r6]) (rest := []) (st' := [.int q8.1]) (res := (some (.int q8.1))) (μ' := q8.2) (mX1_askKeeping x2 r6 hq7) ckV_X7_234 ⟨rfl, rfl, by decide, by decide⟩ kyC1 rfl rfl rfl rfl (Nat.le_of_ble_eq_true rfl) dX7_judgeOntoDraft_27 rfl ?_
      refine r_istore hX dX7_judgeOntoDraft_30 (lv' := [(4, .int q8.1), (0, .ref (ad 0 0)), (1, .ref (ad 14 k1)), (2, .int x2), (3, .int x3)]) (by decide) rfl ?_
      refine r_iload hX dX7_judgeOntoDraft_32 0 rfl ?_
      refine r_bipush hX dX7_judgeOntoDraft_34 (v := (-11)) (by decide) ?_
      refine r_icmp_ne hX (tgt := 54) dX7_judgeOntoDraft_36 (by decide) (fun hc9 => ?_) (fun hc9 => ?_)
      · have h := ite_f hc9 h
        refine r_aload_n hX dX7_judgeOntoDraft_54 1 rfl ?_
        refine r_get hX 0 0 kyC0 rfl rfl inlX7 0 (by decide) tw1_179 (v := .ref (ad 1 0)) rfl dX7_judgeOntoDraft_55 ?_
        refine r_getN hX 1 0 kyC1 rfl rfl inlX1 2 (by decide) tn_19 (v := .ref (ad 9 0)) rfl dX7_judgeOntoDraft_58 ?_
        refine r_dup hX dX7_judgeOntoDraft_61 rfl ?_
        refine r_getN hX 9 0 kyC9 rfl rfl inlX3 3 (by decide) tn_8 (v := .int (q8.2 9 0 3)) rfl dX7_judgeOntoDraft_62 ?_
        refine r_iconst hX dX7_judgeOntoDraft_65 (v := 1) (by decide) ?_
        refine r_iadd hX dX7_judgeOntoDraft_66 ?_
        refine r_putN hX 9 0 kyC9 rfl rfl inlX3 tyX3 tyX3_ok nmX3 3 (by decide) tn_8 rfl (tyX3_ok 3 (by decide)) rfl rfl (Nat.le_of_ble_eq_true rfl) rfl dX7_judgeOntoDraft_67 (fun μ10 eμ10 => ?_)
        have h := mst_at eμ10 h
        refine r_iload hX dX7_judgeOntoDraft_70 0 rfl ?_
        refine r_iconst hX dX7_judgeOntoDraft_72 (v := 1) (by decide) ?_
        refine r_icmp_ne hX (tgt := 88) dX7_judgeOntoDraft_73 (by decide) (fun hc11 => ?_) (fun hc11 => ?_)
        · have h := ite_f hc11 h
          refine r_iinc hX dX7_judgeOntoDraft_88 (j := 4) (v := x3 + 1) (lv' := [(3, .int (x3 + 1)), (4, .int q8.1), (0, .ref (ad 0 0)), (1, .ref (ad 14 k1)), (2, .int x2)]) rfl (congrArg (x3 + ·) (by decide)) (by decide) rfl ?_
          refine r_goto hX (tgt := 9) dX7_judgeOntoDraft_91 (by decide) ?_
          refine r_sub [2, 3, 4, 0] rfl ?_
          exact ih μ10 (x3 + 1) h
        · have h := ite_t hc11 h
          refine r_aload_n hX dX7_judgeOntoDraft_76 1 rfl ?_
          refine r_get hX 0 0 kyC0 rfl rfl inlX7 3 (by decide) tw1_182 (v := .ref (ad 14 6)) rfl dX7_judgeOntoDraft_77 ?_
          refine r_aload_n hX dX7_judgeOntoDraft_80 2 rfl ?_
          refine r_iload_n hX dX7_judgeOntoDraft_81 4 rfl ?_
          obtain ⟨r13, hq12, h⟩ := bind_ex h
          refine r_callV hX 14 k1 (As := [.int x3]) (rest := [.ref (ad 14 6)]) (st' := [.int r13, .ref (ad 14 6)]) (res := (some (.int r13))) (μ' := μ10) (mX5_cardAt k1 hk1 x3 hq12) ckV_X7_139 ⟨rfl, rfl, by decide, by decide⟩ (kyC14 hk1) rfl rfl rfl rfl (Nat.le_of_ble_eq_true rfl) dX7_judgeOntoDraft_82 rfl ?_
          obtain ⟨μ15, hq14, h⟩ := bind_ex h
          refine r_callV hX 14 6 (As := [.int r13]) (rest := []) (st' := []) (res := none) (μ' := μ15) (mX5_append 6 (by decide) r13 hq14) ckV_X7_209 ⟨rfl, rfl, by decide, by decide⟩ (kyC14 (by decide)) rfl rfl rfl rfl (Nat.le_of_ble_eq_true rfl) dX7_judgeOntoDraft_85 rfl ?_
          refine r_iinc hX dX7_judgeOntoDraft_88 (j := 4) (v := x3 + 1) (lv' := [(3, .int (x3 + 1)), (4, .int q8.1), (0, .ref (ad 0 0)), (1, .ref (ad 14 k1)), (2, .int x2)]) rfl (congrArg (x3 + ·) (by decide)) (by decide) rfl ?_
          refine r_goto hX (tgt := 9) dX7_judgeOntoDraft_91 (by decide) ?_
          refine r_sub [2, 3, 4, 0] rfl ?_
          exact ih μ15 (x3 + 1) h
      · have h := ite_t hc9 h
        refine r_aload_n hX dX7_judgeOntoDraft_39 1 rfl ?_
        refine r_get hX 0 0 kyC0 rfl rfl inlX7 3 (by decide) tw1_182 (v := .ref (ad 14 6)) rfl dX7_judgeOntoDraft_40 ?_
        refine r_aload_n hX dX7_judgeOntoDraft_43 2 rfl ?_
        refine r_iload_n hX dX7_judgeOntoDraft_44 4 rfl ?_
        refine r_aload_n hX dX7_judgeOntoDraft_45 2 rfl ?_
        refine r_getN hX 14 k1 (kyC14 hk1) rfl rfl inlX5 1 (by decide) tn_23 (v := .int (q8.2 14 k1 1)) rfl dX7_judgeOntoDraft_46 ?_
        obtain ⟨μ17, hq16, h⟩ := bind_ex h
        refine r_callV hX 14 6 (As := [.ref (ad 14 k1), .int x3, .int (q8.2 14 k1 1)]) (rest := []) (st' := []) (res := none) (μ' := μ17) (mX5_appendPart 6 (by decide) k1 hk1 x3 (q8.2 14 k1 1) hq16) ckV_X7_237 ⟨rfl, rfl, by decide, by decide⟩ (kyC14 (by decide)) rfl rfl rfl rfl (Nat.le_of_ble_eq_true rfl) dX7_judgeOntoDraft_49 rfl ?_
        refine r_iconst hX dX7_judgeOntoDraft_52 (v := 0) (by decide) ?_
        exact r_zret hX (Or.inl rfl) hQ (pr1 h) (pr2 h) dX7_judgeOntoDraft_53
noncomputable def jX7_judgeOntoDraft (μ : Mu) (b1 : Nat) (a2 : Int32) : Option (Int32 × Mu) := (jX5_clear μ 6).bind (fun μ2 => jX7_judgeOntoDraft_L9 b1 a2 fuel μ2 0)
set_option maxHeartbeats 4000000 in
set_option maxRecDepth 100000 in
theorem mX7_judgeOntoDraft {l : Launch} {D : va_G} {cI cH cT : ClassId} {ad : Nat → Nat → Nat} {Z : va_W} {μ : Mu} {r : Int32} {μ' : Mu} (b1 : Nat) (hb1 : b1 < 8) (a2 : Int32) (h : jX7_judgeOntoDraft μ b1 a2 = some (r, μ')) : CT (gC l D cI cH cT ad Z) yX7_judgeOntoDraft (.code yX7_judgeOntoDraft cX7_judgeOntoDraft 5 (some .boolean) :: wsL_law) rmX7_judgeOntoDraft [.ref (ad 0 0), .ref (ad 14 b1), .int a2] μ (some (.int r)) μ' := by
  refine ct_of (own := RX7) (by decide) ⟨rfl, rfl⟩ (Nat.le_of_ble_eq_true rfl) rfl (fun X hX hQ => ?_)
  have hX : HX (gC l D cI cH cT ad Z) X cX7_judgeOntoDraft 5 RX7 rmX7_judgeOntoDraft (some .boolean) := hX
  show V (gC l D cI cH cT ad Z) X 5 μ 0 [(0, .ref (ad 0 0)), (1, .ref (ad 14 b1)), (2, .int a2)] []
  unfold jX7_judgeOntoDraft at h
  refine r_aload_n hX dX7_judgeOntoDraft_0 0 rfl ?_
  refine r_get hX 0 0 kyC0 rfl rfl inlX7 3 (by decide) tw1_182 (v := .ref (ad 14 6)) rfl dX7_judgeOntoDraft_1 ?_
  obtain ⟨μ2, hq1, h⟩ := bind_ex h
  refine r_callV hX 14 6 (As := []) (rest := []) (st' := []) (res := none) (μ' := μ2) (mX5_clear 6 (by decide) hq1) ckV_X7_159 ⟨rfl, rfl, by decide, by decide⟩ (kyC14 (by decide)) rfl rfl rfl rfl (Nat.le_of_ble_eq_true rfl) dX7_judgeOntoDraft_4 rfl ?_
  refine r_iconst hX dX7_judgeOntoDraft_7 (v := 0) (by decide) ?_
  refine r_istore_n hX dX7_judgeOntoDraft_8 (lv' := [(3, .int 0), (0, .ref (ad 0 0)), (1, .ref (ad 14 b1)), (2, .int a2)]) (by decide) rfl ?_
  refine r_sub [1, 2, 3, 0] rfl ?_
  exact mX7_judgeOntoDraft_L9 hX hQ b1 hb1 a2 fuel μ2 0 h
abbrev rmX7_placeAllOnDraft : Room := { frames := 5, cells := 0, slots := 0, locals := 122 }
noncomputable def jX7_placeAllOnDraft_L2 (k1 : Nat) (k2 : Nat) : Nat → Mu → Int32 → Option (Int32 × Mu)
  | 0, _, _ => none
  | n1 + 1, μ, x3 => if (μ 14 k2 1) ≤ x3 then some (1, μ) else (jX5_cardAt μ k2 x3).bind (fun r4 => (jX7_placeOnDraft μ k1 r4).bind (fun q6 => if q6.1 = 0 then some (0, q6.2) else jX7_placeAllOnDraft_L2 k1 k2 n1 q6.2 (x3 + 1)))
set_option maxHeartbeats 4000000 in
set_option maxRecDepth 100000 in
theorem mX7_placeAllOnDraft_L2 {l : Launch} {D : va_G} {cI cH cT : ClassId} {ad : Nat → Nat → Nat} {Z : va_W} {X : Cx} (hX : HX (gC l D cI cH cT ad Z) X cX7_placeAllOnDraft 4 RX7 rmX7_placeAllOnDraft (some .boolean)) {r : Int32} {μ' : Mu} (hQ : HQ (gC l D cI cH cT ad Z) X (some (.int r)) μ') (k1 : Nat) (hk1 : k1 < 6) (k2 : Nat) (hk2 : k2 < 8) : ∀ (n1 : Nat) (μ : Mu) (x3 : Int32), jX7_placeAllOnDraft_L2 k1 k2 n1 μ x3 = some (r, μ') → V (gC l D cI cH cT ad Z) X 4 μ 2 [(0, .ref (ad 0 0)), (1, .ref (ad 13 k1)), (2, .ref (ad 14 k2)), (3, .int x3)] [] := by
  intro n1
  induction n1 with
  | zero => intro μ x3 h; exact none_no h
  | succ n1 ih =>
    intro μ x3 h
    rw [jX7_placeAllOnDraft_L2] at h
    refine r_iload_n hX dX7_placeAllOnDraft_2 3 rfl ?_
    refine r_aload_n hX dX7_placeAllOnDraft_3 2 rfl ?_
    refine r_getN hX 14 k2 (kyC14 hk2) rfl rfl inlX5 1 (by decide) tn_23 (v := .int (μ 14 k2 1)) rfl dX7_placeAllOnDraft_4 ?_
    refine r_icmp_ge hX (tgt := 31) dX7_placeAllOnDraft_7 (by decide) (fun hc2 => ?_) (fun hc2 => ?_)
    · have h := ite_t hc2 h
      refine r_iconst hX dX7_placeAllOnDraft_31 (v := 1) (by decide) ?_
      exact r_zret hX (Or.inr rfl) hQ (pr1 h) (pr2 h) dX7_placeAllOnDraft_32
    · have h := ite_f hc2 h
      refine r_aload_n hX dX7_placeAllOnDraft_10 0 rfl ?_
      refine r_aload_n hX dX7_placeAllOnDraft_11 1 rfl ?_
      refine r_aload_n hX dX7_placeAllOnDraft_12 2 rfl ?_
      refine r_iload_n hX dX7_placeAllOnDraft_13 3 rfl ?_
      obtain ⟨r4, hq3, h⟩ := bind_ex h
      refine r_callV hX 14 k2 (As := [.int x3]) (rest := [.ref (ad 13 k1), .ref (ad 0 0)]) (st' := [.int r4, .ref (ad 13 k1), .ref (ad 0 0)]) (res := (some (.int r4))) (μ' := μ) (mX5_cardAt k2 hk2 x3 hq3) ckV_X7_139 ⟨rfl, rfl, by decide, by decide⟩ (kyC14 hk2) rfl rfl rfl rfl (Nat.le_of_ble_eq_true rfl) dX7_placeAllOnDraft_14 rfl ?_
      obtain ⟨q6, hq5, h⟩ := bind_ex h
      refine r_callV hX 0 0 (As := [.ref (ad 13 k1), .int r4]) (rest := []) (st' := [.int q6.1]) (res := (some (.int q6.1))) (μ' := q6.2) (mX7_placeOnDraft k1 hk1 r4 hq5) ckV_X7_125 ⟨rfl, rfl, by decide, by decide⟩ kyC0 rfl rfl rfl rfl (Nat.le_of_ble_eq_true rfl) dX7_placeAllOnDraft_17 rfl ?_
      refine r_if_ne hX (tgt := 25) dX7_placeAllOnDraft_20 (by decide) (fun hc7 => ?_) (fun hc7 => ?_)
      · have h := ite_f hc7 h
        refine r_iinc hX dX7_placeAllOnDraft_25 (j := 3) (v := x3 + 1) (lv' := [(3, .int (x3 + 1)), (0, .ref (ad 0 0)), (1, .ref (ad 13 k1)), (2, .ref (ad 14 k2))]) rfl (congrArg (x3 + ·) (by decide)) (by decide) rfl ?_
        refine r_goto hX (tgt := 2) dX7_placeAllOnDraft_28 (by decide) ?_
        refine r_sub [1, 2, 3, 0] rfl ?_
        exact ih q6.2 (x3 + 1) h
      · have h := ite_t hc7 h
        refine r_iconst hX dX7_placeAllOnDraft_23 (v := 0) (by decide) ?_
        exact r_zret hX (Or.inl rfl) hQ (pr1 h) (pr2 h) dX7_placeAllOnDraft_24
noncomputable def jX7_placeAllOnDraft (μ : Mu) (b1 : Nat) (b2 : Nat) : Option (Int32 × Mu) := jX7_placeAllOnDraft_L2 b1 b2 fuel μ 0
set_option maxHeartbeats 4000000 in
set_option maxRecDepth 100000 in
theorem mX7_placeAllOnDraft {l : Launch} {D : va_G} {cI cH cT : ClassId} {ad : Nat → Nat → Nat} {Z : va_W} {μ : Mu} {r : Int32} {μ' : Mu} (b1 : Nat) (hb1 : b1 < 6) (b2 : Nat) (hb2 : b2 < 8) (h : jX7_placeAllOnDraft μ b1 b2 = some (r, μ')) : CT (gC l D cI cH cT ad Z) yX7_placeAllOnDraft (.code yX7_placeAllOnDraft cX7_placeAllOnDraft 4 (some .boolean) :: wsL_law) rmX7_placeAllOnDraft [.ref (ad 0 0), .ref (ad 13 b1), .ref (ad 14 b2)] μ (some (.int r)) μ' := by
  refine ct_of (own := RX7) (by decide) ⟨rfl, rfl⟩ (Nat.le_of_ble_eq_true rfl) rfl (fun X hX hQ => ?_)
  have hX : HX (gC l D cI cH cT ad Z) X cX7_placeAllOnDraft 4 RX7 rmX7_placeAllOnDraft (some .boolean) := hX
  show V (gC l D cI cH cT ad Z) X 4 μ 0 [(0, .ref (ad 0 0)), (1, .ref (ad 13 b1)), (2, .ref (ad 14 b2))] []
  unfold jX7_placeAllOnDraft at h
  refine r_iconst hX dX7_placeAllOnDraft_0 (v := 0) (by decide) ?_
  refine r_istore_n hX dX7_placeAllOnDraft_1 (lv' := [(3, .int 0), (0, .ref (ad 0 0)), (1, .ref (ad 13 b1)), (2, .ref (ad 14 b2))]) (by decide) rfl ?_
  refine r_sub [1, 2, 3, 0] rfl ?_
  exact mX7_placeAllOnDraft_L2 hX hQ b1 hb1 b2 hb2 fuel μ 0 h
abbrev rmX7_changeCards : Room := { frames := 3, cells := 0, slots := 0, locals := 72 }
noncomputable def jX7_changeCards_L2 (k1 : Nat) (x2 : Int32) : Nat → Mu → Int32 → Option (Int32 × Mu)
  | 0, _, _ => none
  | n1 + 1, μ, x3 => if (μ 14 k1 1) ≤ x3 then some (1, μ) else (jX5_cardAt μ k1 x3).bind (fun r4 => (jX1_askAdding μ x2 r4).bind (fun q6 => if q6.1 = (-11) then some (0, q6.2) else (jX5_replace q6.2 k1 x3 q6.1).bind (fun μ9 => mst (mu_st μ9 9 0 3 ((μ9 9 0 3) + 1)) (fun μ10 => jX7_changeCards_L2 k1 x2 n1 μ10 (x3 + 1)))))
set_option maxHeartbeats 4000000 in
set_option maxRecDepth 100000 in
theorem mX7_changeCards_L2 {l : Launch} {D : va_G} {cI cH cT : ClassId} {ad : Nat → Nat → Nat} {Z : va_W} {X : Cx} (hX : HX (gC l D cI cH cT ad Z) X cX7_changeCards 5 RX7 rmX7_changeCards (some .boolean)) {r : Int32} {μ' : Mu} (hQ : HQ (gC l D cI cH cT ad Z) X (some (.int r)) μ') (k1 : Nat) (hk1 : k1 < 8) (x2 : Int32) : ∀ (n1 : Nat) (μ : Mu) (x3 : Int32), jX7_changeCards_L2 k1 x2 n1 μ x3 = some (r, μ') → V (gC l D cI cH cT ad Z) X 5 μ 2 [(0, .ref (ad 0 0)), (1, .ref (ad 14 k1)), (2, .int x2), (3, .int x3)] [] := by
  intro n1
  induction n1 with
  | zero => intro μ x3 h; exact none_no h
  | succ n1 ih =>
    intro μ x3 h
    rw [jX7_changeCards_L2] at h
    refine r_iload_n hX dX7_changeCards_2 3 rfl ?_
    refine r_aload_n hX dX7_changeCards_3 1 rfl ?_
    refine r_getN hX 14 k1 (kyC14 hk1) rfl rfl inlX5 1 (by decide) tn_23 (v := .int (μ 14 k1 1)) rfl dX7_changeCards_4 ?_
    refine r_icmp_ge hX (tgt := 63) dX7_changeCards_7 (by decide) (fun hc2 => ?_) (fun hc2 => ?_)
    · have h := ite_t hc2 h
      refine r_iconst hX dX7_changeCards_63 (v := 1) (by decide) ?_
      exact r_zret hX (Or.inr rfl) hQ (pr1 h) (pr2 h) dX7_changeCards_64
    · have h := ite_f hc2 h
      refine r_aload_n hX dX7_changeCards_10 0 rfl ?_
      refine r_get hX 0 0 kyC0 rfl rfl inlX7 0 (by decide) tw1_179 (v := .ref (ad 1 0)) rfl dX7_changeCards_11 ?_
      refine r_iload_n hX dX7_changeCards_14 2 rfl ?_
      refine r_aload_n hX dX7_changeCards_15 1 rfl ?_
      refine r_iload_n hX dX7_changeCards_16 3 rfl ?_
      obtain ⟨r4, hq3, h⟩ := bind_ex h
      refine r_callV hX 14 k1 (As := [.int x3]) (rest := [.int x2, .ref (ad 1 0)]) (st' := [.int r4, .int x2, .ref (ad 1 0)]) (res := (some (.int r4))) (μ' := μ) (mX5_cardAt k1 hk1 x3 hq3) ckV_X7_139 ⟨rfl, rfl, by decide, by decide⟩ (kyC14 hk1) rfl rfl rfl rfl (Nat.le_of_ble_eq_true rfl) dX7_changeCards_17 rfl ?_
      obtain ⟨q6, hq5, h⟩ := bind_ex h
      refine r_callV hX 1 0 (As := [.int x2, .int r4]) (rest := []) (st' := [.int q6.1]) (res := (some (.int q6.1))) (μ' := q6.2) (mX1_askAdding x2 r4 hq5) ckV_X7_241 ⟨rfl, rfl, by decide, by decide⟩ kyC1 rfl rfl rfl rfl (Nat.le_of_ble_eq_true rfl) dX7_changeCards_20 rfl ?_
      refine r_istore hX dX7_changeCards_23 (lv' := [(4, .int q6.1), (0, .ref (ad 0 0)), (1, .ref (ad 14 k1)), (2, .int x2), (3, .int x3)]) (by decide) rfl ?_
      refine r_iload hX dX7_changeCards_25 0 rfl ?_
      refine r_bipush hX dX7_changeCards_27 (v := (-11)) (by decide) ?_
      refine r_icmp_ne hX (tgt := 34) dX7_changeCards_29 (by decide) (fun hc7 => ?_) (fun hc7 => ?_)
      · have h := ite_f hc7 h
        refine r_aload_n hX dX7_changeCards_34 2 rfl ?_
        refine r_iload_n hX dX7_changeCards_35 4 rfl ?_
        refine r_iload hX dX7_changeCards_36 0 rfl ?_
        obtain ⟨μ9, hq8, h⟩ := bind_ex h
        refine r_callV hX 14 k1 (As := [.int x3, .int q6.1]) (rest := []) (st' := []) (res := none) (μ' := μ9) (mX5_replace k1 hk1 x3 q6.1 hq8) ckV_X7_244 ⟨rfl, rfl, by decide, by decide⟩ (kyC14 hk1) rfl rfl rfl rfl (Nat.le_of_ble_eq_true rfl) dX7_changeCards_38 rfl ?_
        refine r_aload_n hX dX7_changeCards_41 1 rfl ?_
        refine r_get hX 0 0 kyC0 rfl rfl inlX7 0 (by decide) tw1_179 (v := .ref (ad 1 0)) rfl dX7_changeCards_42 ?_
        refine r_getN hX 1 0 kyC1 rfl rfl inlX1 2 (by decide) tn_19 (v := .ref (ad 9 0)) rfl dX7_changeCards_45 ?_
        refine r_dup hX dX7_changeCards_48 rfl ?_
        refine r_getN hX 9 0 kyC9 rfl rfl inlX3 3 (by decide) tn_8 (v := .int (μ9 9 0 3)) rfl dX7_changeCards_49 ?_
        refine r_iconst hX dX7_changeCards_52 (v := 1) (by decide) ?_
        refine r_iadd hX dX7_changeCards_53 ?_
        refine r_putN hX 9 0 kyC9 rfl rfl inlX3 tyX3 tyX3_ok nmX3 3 (by decide) tn_8 rfl (tyX3_ok 3 (by decide)) rfl rfl (Nat.le_of_ble_eq_true rfl) rfl dX7_changeCards_54 (fun μ10 eμ10 => ?_)
        have h := mst_at eμ10 h
        refine r_iinc hX dX7_changeCards_57 (j := 4) (v := x3 + 1) (lv' := [(3, .int (x3 + 1)), (4, .int q6.1), (0, .ref (ad 0 0)), (1, .ref (ad 14 k1)), (2, .int x2)]) rfl (congrArg (x3 + ·) (by decide)) (by decide) rfl ?_
        refine r_goto hX (tgt := 2) dX7_changeCards_60 (by decide) ?_
        refine r_sub [2, 3, 4, 0] rfl ?_
        exact ih μ10 (x3 + 1) h
      · have h := ite_t hc7 h
        refine r_iconst hX dX7_changeCards_32 (v := 0) (by decide) ?_
        exact r_zret hX (Or.inl rfl) hQ (pr1 h) (pr2 h) dX7_changeCards_33
noncomputable def jX7_changeCards (μ : Mu) (b1 : Nat) (a2 : Int32) : Option (Int32 × Mu) := jX7_changeCards_L2 b1 a2 fuel μ 0
set_option maxHeartbeats 4000000 in
set_option maxRecDepth 100000 in
theorem mX7_changeCards {l : Launch} {D : va_G} {cI cH cT : ClassId} {ad : Nat → Nat → Nat} {Z : va_W} {μ : Mu} {r : Int32} {μ' : Mu} (b1 : Nat) (hb1 : b1 < 8) (a2 : Int32) (h : jX7_changeCards μ b1 a2 = some (r, μ')) : CT (gC l D cI cH cT ad Z) yX7_changeCards (.code yX7_changeCards cX7_changeCards 5 (some .boolean) :: wsL_law) rmX7_changeCards [.ref (ad 0 0), .ref (ad 14 b1), .int a2] μ (some (.int r)) μ' := by
  refine ct_of (own := RX7) (by decide) ⟨rfl, rfl⟩ (Nat.le_of_ble_eq_true rfl) rfl (fun X hX hQ => ?_)
  have hX : HX (gC l D cI cH cT ad Z) X cX7_changeCards 5 RX7 rmX7_changeCards (some .boolean) := hX
  show V (gC l D cI cH cT ad Z) X 5 μ 0 [(0, .ref (ad 0 0)), (1, .ref (ad 14 b1)), (2, .int a2)] []
  unfold jX7_changeCards at h
  refine r_iconst hX dX7_changeCards_0 (v := 0) (by decide) ?_
  refine r_istore_n hX dX7_changeCards_1 (lv' := [(3, .int 0), (0, .ref (ad 0 0)), (1, .ref (ad 14 b1)), (2, .int a2)]) (by decide) rfl ?_
  refine r_sub [1, 2, 3, 0] rfl ?_
  exact mX7_changeCards_L2 hX hQ b1 hb1 a2 fuel μ 0 h
abbrev rmX7_mergeIntoDraft : Room := { frames := 4, cells := 0, slots := 0, locals := 101 }
noncomputable def jX7_mergeIntoDraft (μ : Mu) (b1 : Nat) (a2 : Int32) : Option (Int32 × Mu) := (jX5_copy μ 7 6).bind (fun μ2 => (jX5_appendPart μ2 7 b1 0 (μ2 14 b1 1)).bind (fun μ4 => (jX5_clear μ4 6).bind (fun μ6 => (jX5_appendMerged μ6 6 7 0 (μ 14 6 1) (μ6 14 7 1) a2).bind (fun q8 => if q8.1 = 0 ∨ q8.1 = 1 then some (q8.1, q8.2) else none))))
set_option maxHeartbeats 4000000 in
set_option maxRecDepth 100000 in
theorem mX7_mergeIntoDraft {l : Launch} {D : va_G} {cI cH cT : ClassId} {ad : Nat → Nat → Nat} {Z : va_W} {μ : Mu} {r : Int32} {μ' : Mu} (b1 : Nat) (hb1 : b1 < 8) (a2 : Int32) (h : jX7_mergeIntoDraft μ b1 a2 = some (r, μ')) : CT (gC l D cI cH cT ad Z) yX7_mergeIntoDraft (.code yX7_mergeIntoDraft cX7_mergeIntoDraft 4 (some .boolean) :: wsL_law) rmX7_mergeIntoDraft [.ref (ad 0 0), .ref (ad 14 b1), .int a2] μ (some (.int r)) μ' := by
  refine ct_of (own := RX7) (by decide) ⟨rfl, rfl⟩ (Nat.le_of_ble_eq_true rfl) rfl (fun X hX hQ => ?_)
  have hX : HX (gC l D cI cH cT ad Z) X cX7_mergeIntoDraft 4 RX7 rmX7_mergeIntoDraft (some .boolean) := hX
  show V (gC l D cI cH cT ad Z) X 4 μ 0 [(0, .ref (ad 0 0)), (1, .ref (ad 14 b1)), (2, .int a2)] []
  unfold jX7_mergeIntoDraft at h
  refine r_aload_n hX dX7_mergeIntoDraft_0 0 rfl ?_
  refine r_get hX 0 0 kyC0 rfl rfl inlX7 3 (by decide) tw1_182 (v := .ref (ad 14 6)) rfl dX7_mergeIntoDraft_1 ?_
  refine r_getN hX 14 6 (kyC14 (by decide)) rfl rfl inlX5 1 (by decide) tn_23 (v := .int (μ 14 6 1)) rfl dX7_mergeIntoDraft_4 ?_
  refine r_istore_n hX dX7_mergeIntoDraft_7 (lv' := [(3, .int (μ 14 6 1)), (0, .ref (ad 0 0)), (1, .ref (ad 14 b1)), (2, .int a2)]) (by decide) rfl ?_
  refine r_aload_n hX dX7_mergeIntoDraft_8 1 rfl ?_
  refine r_get hX 0 0 kyC0 rfl rfl inlX7 4 (by decide) tw1_183 (v := .ref (ad 14 7)) rfl dX7_mergeIntoDraft_9 ?_
  refine r_aload_n hX dX7_mergeIntoDraft_12 1 rfl ?_
  refine r_get hX 0 0 kyC0 rfl rfl inlX7 3 (by decide) tw1_182 (v := .ref (ad 14 6)) rfl dX7_mergeIntoDraft_13 ?_
  obtain ⟨μ2, hq1, h⟩ := bind_ex h
  refine r_callV hX 14 7 (As := [.ref (ad 14 6)]) (rest := []) (st' := []) (res := none) (μ' := μ2) (mX5_copy 7 (by decide) 6 (by decide) hq1) ckV_X7_121 ⟨rfl, rfl, by decide, by decide⟩ (kyC14 (by decide)) rfl rfl rfl rfl (Nat.le_of_ble_eq_true rfl) dX7_mergeIntoDraft_16 rfl ?_
  refine r_aload_n hX dX7_mergeIntoDraft_19 1 rfl ?_
  refine r_get hX 0 0 kyC0 rfl rfl inlX7 4 (by decide) tw1_183 (v := .ref (ad 14 7)) rfl dX7_mergeIntoDraft_20 ?_
  refine r_aload_n hX dX7_mergeIntoDraft_23 2 rfl ?_
  refine r_iconst hX dX7_mergeIntoDraft_24 (v := 0) (by decide) ?_
  refine r_aload_n hX dX7_mergeIntoDraft_25 2 rfl ?_
  refine r_getN hX 14 b1 (kyC14 hb1) rfl rfl inlX5 1 (by decide) tn_23 (v := .int (μ2 14 b1 1)) rfl dX7_mergeIntoDraft_26 ?_
  obtain ⟨μ4, hq3, h⟩ := bind_ex h
  refine r_callV hX 14 7 (As := [.ref (ad 14 b1), .int 0, .int (μ2 14 b1 1)]) (rest := []) (st' := []) (res := none) (μ' := μ4) (mX5_appendPart 7 (by decide) b1 hb1 0 (μ2 14 b1 1) hq3) ckV_X7_237 ⟨rfl, rfl, by decide, by decide⟩ (kyC14 (by decide)) rfl rfl rfl rfl (Nat.le_of_ble_eq_true rfl) dX7_mergeIntoDraft_29 rfl ?_
  refine r_aload_n hX dX7_mergeIntoDraft_32 1 rfl ?_
  refine r_get hX 0 0 kyC0 rfl rfl inlX7 3 (by decide) tw1_182 (v := .ref (ad 14 6)) rfl dX7_mergeIntoDraft_33 ?_
  obtain ⟨μ6, hq5, h⟩ := bind_ex h
  refine r_callV hX 14 6 (As := []) (rest := []) (st' := []) (res := none) (μ' := μ6) (mX5_clear 6 (by decide) hq5) ckV_X7_159 ⟨rfl, rfl, by decide, by decide⟩ (kyC14 (by decide)) rfl rfl rfl rfl (Nat.le_of_ble_eq_true rfl) dX7_mergeIntoDraft_36 rfl ?_
  refine r_aload_n hX dX7_mergeIntoDraft_39 1 rfl ?_
  refine r_get hX 0 0 kyC0 rfl rfl inlX7 3 (by decide) tw1_182 (v := .ref (ad 14 6)) rfl dX7_mergeIntoDraft_40 ?_
  refine r_aload_n hX dX7_mergeIntoDraft_43 1 rfl ?_
  refine r_get hX 0 0 kyC0 rfl rfl inlX7 4 (by decide) tw1_183 (v := .ref (ad 14 7)) rfl dX7_mergeIntoDraft_44 ?_
  refine r_iconst hX dX7_mergeIntoDraft_47 (v := 0) (by decide) ?_
  refine r_iload_n hX dX7_mergeIntoDraft_48 0 rfl ?_
  refine r_aload_n hX dX7_mergeIntoDraft_49 1 rfl ?_
  refine r_get hX 0 0 kyC0 rfl rfl inlX7 4 (by decide) tw1_183 (v := .ref (ad 14 7)) rfl dX7_mergeIntoDraft_50 ?_
  refine r_getN hX 14 7 (kyC14 (by decide)) rfl rfl inlX5 1 (by decide) tn_23 (v := .int (μ6 14 7 1)) rfl dX7_mergeIntoDraft_53 ?_
  refine r_aload_n hX dX7_mergeIntoDraft_56 1 rfl ?_
  refine r_get hX 0 0 kyC0 rfl rfl inlX7 0 (by decide) tw1_179 (v := .ref (ad 1 0)) rfl dX7_mergeIntoDraft_57 ?_
  refine r_iload_n hX dX7_mergeIntoDraft_60 3 rfl ?_
  obtain ⟨q8, hq7, h⟩ := bind_ex h
  refine r_callV hX 14 6 (As := [.ref (ad 14 7), .int 0, .int (μ 14 6 1), .int (μ6 14 7 1), .ref (ad 1 0), .int a2]) (rest := []) (st' := [.int q8.1]) (res := (some (.int q8.1))) (μ' := q8.2) (mX5_appendMerged 6 (by decide) 7 (by decide) 0 (μ 14 6 1) (μ6 14 7 1) a2 hq7) ckV_X7_230 ⟨rfl, rfl, by decide, by decide⟩ (kyC14 (by decide)) rfl rfl rfl rfl (Nat.le_of_ble_eq_true rfl) dX7_mergeIntoDraft_61 rfl ?_
  obtain ⟨hz9, h⟩ := ite_some h
  exact r_zret hX hz9 hQ (pr1 h) (pr2 h) dX7_mergeIntoDraft_64
abbrev rmX7_isWhole : Room := { frames := 2, cells := 0, slots := 0, locals := 46 }
noncomputable def jX7_isWhole_L11 (μ : Mu) (k1 : Nat) : Nat → Int32 → Option (Int32)
  | 0, _ => none
  | n2 + 1, x2 => if (μ 14 k1 1) ≤ x2 then some 1 else if (μ 13 k1 1) = 1 then (jX5_cardAt μ k1 x2).bind (fun r13 => (jX5_cardAt μ k1 (x2 - 1)).bind (fun r15 => (jX1_compareTruly μ (μ 13 k1 2) r13 r15).bind (fun r17 => if 0 ≤ r17 then jX7_isWhole_L11 μ k1 n2 (x2 + 1) else some 0))) else (jX5_cardAt μ k1 x2).bind (fun r6 => (jX5_cardAt μ k1 ((x2 - 1) / 2)).bind (fun r8 => (jX1_compareTruly μ (μ 13 k1 2) r6 r8).bind (fun r10 => if 0 ≤ r10 then jX7_isWhole_L11 μ k1 n2 (x2 + 1) else some 0)))
set_option maxHeartbeats 4000000 in
set_option maxRecDepth 100000 in
theorem mX7_isWhole_L11 {l : Launch} {D : va_G} {cI cH cT : ClassId} {ad : Nat → Nat → Nat} {Z : va_W} {X : Cx} (hX : HX (gC l D cI cH cT ad Z) X cX7_isWhole 4 RX7 rmX7_isWhole (some .boolean)) {μ : Mu} {r : Int32} (hQ : HQ (gC l D cI cH cT ad Z) X (some (.int r)) μ) (k1 : Nat) (hk1 : k1 < 6) : ∀ (n2 : Nat) (x2 : Int32), jX7_isWhole_L11 μ k1 n2 x2 = some r → V (gC l D cI cH cT ad Z) X 4 μ 11 [(0, .ref (ad 0 0)), (1, .ref (ad 13 k1)), (2, .int x2)] [] := by
  intro n2
  induction n2 with
  | zero => intro x2 h; exact none_no h
  | succ n2 ih =>
    intro x2 h
    rw [jX7_isWhole_L11] at h
    refine r_iload_n hX dX7_isWhole_11 2 rfl ?_
    refine r_aload_n hX dX7_isWhole_12 1 rfl ?_
    refine r_getN hX 13 k1 (kyC13 hk1) rfl rfl inlX6 0 (by decide) tn_24 (v := .ref (ad 14 k1)) rfl dX7_isWhole_13 ?_
    refine r_getN hX 14 k1 (kyC14 (lt68 hk1)) rfl rfl inlX5 1 (by decide) tn_23 (v := .int (μ 14 k1 1)) rfl dX7_isWhole_16 ?_
    refine r_icmp_ge hX (tgt := 80) dX7_isWhole_19 (by decide) (fun hc3 => ?_) (fun hc3 => ?_)
    · have h := ite_t hc3 h
      refine r_iconst hX dX7_isWhole_80 (v := 1) (by decide) ?_
      exact r_zret hX (Or.inr rfl) hQ (Option.some.inj h) rfl dX7_isWhole_81
    · have h := ite_f hc3 h
      refine r_aload_n hX dX7_isWhole_22 1 rfl ?_
      refine r_getN hX 13 k1 (kyC13 hk1) rfl rfl inlX6 1 (by decide) tn_25 (v := .int (μ 13 k1 1)) rfl dX7_isWhole_23 ?_
      refine r_iconst hX dX7_isWhole_26 (v := 1) (by decide) ?_
      refine r_icmp_ne hX (tgt := 36) dX7_isWhole_27 (by decide) (fun hc4 => ?_) (fun hc4 => ?_)
      · have h := ite_f hc4 h
        refine r_iload_n hX dX7_isWhole_36 2 rfl ?_
        refine r_iconst hX dX7_isWhole_37 (v := 1) (by decide) ?_
        refine r_isub hX dX7_isWhole_38 ?_
        refine r_iconst hX dX7_isWhole_39 (v := 2) (by decide) ?_
        refine r_idiv hX dX7_isWhole_40 (by decide) ?_
        refine r_istore_n hX dX7_isWhole_41 (lv' := [(3, .int ((x2 - 1) / 2)), (0, .ref (ad 0 0)), (1, .ref (ad 13 k1)), (2, .int x2)]) (by decide) rfl ?_
        refine r_aload_n hX dX7_isWhole_42 1 rfl ?_
        refine r_get hX 0 0 kyC0 rfl rfl inlX7 0 (by decide) tw1_179 (v := .ref (ad 1 0)) rfl dX7_isWhole_43 ?_
        refine r_aload_n hX dX7_isWhole_46 2 rfl ?_
        refine r_getN hX 13 k1 (kyC13 hk1) rfl rfl inlX6 2 (by decide) tn_26 (v := .int (μ 13 k1 2)) rfl dX7_isWhole_47 ?_
        refine r_aload_n hX dX7_isWhole_50 2 rfl ?_
        refine r_getN hX 13 k1 (kyC13 hk1) rfl rfl inlX6 0 (by decide) tn_24 (v := .ref (ad 14 k1)) rfl dX7_isWhole_51 ?_
        refine r_iload_n hX dX7_isWhole_54 3 rfl ?_
        obtain ⟨r6, hq5, h⟩ := bind_ex h
        refine r_callV hX 14 k1 (As := [.int x2]) (rest := [.int (μ 13 k1 2), .ref (ad 1 0)]) (st' := [.int r6, .int (μ 13 k1 2), .ref (ad 1 0)]) (res := (some (.int r6))) (μ' := μ) (mX5_cardAt k1 (lt68 hk1) x2 hq5) ckV_X7_139 ⟨rfl, rfl, by decide, by decide⟩ (kyC14 (lt68 hk1)) rfl rfl rfl rfl (Nat.le_of_ble_eq_true rfl) dX7_isWhole_55 rfl ?_
        refine r_aload_n hX dX7_isWhole_58 2 rfl ?_
        refine r_getN hX 13 k1 (kyC13 hk1) rfl rfl inlX6 0 (by decide) tn_24 (v := .ref (ad 14 k1)) rfl dX7_isWhole_59 ?_
        refine r_iload_n hX dX7_isWhole_62 0 rfl ?_
        obtain ⟨r8, hq7, h⟩ := bind_ex h
        refine r_callV hX 14 k1 (As := [.int ((x2 - 1) / 2)]) (rest := [.int r6, .int (μ 13 k1 2), .ref (ad 1 0)]) (st' := [.int r8, .int r6, .int (μ 13 k1 2), .ref (ad 1 0)]) (res := (some (.int r8))) (μ' := μ) (mX5_cardAt k1 (lt68 hk1) ((x2 - 1) / 2) hq7) ckV_X7_139 ⟨rfl, rfl, by decide, by decide⟩ (kyC14 (lt68 hk1)) rfl rfl rfl rfl (Nat.le_of_ble_eq_true rfl) dX7_isWhole_63 rfl ?_
        obtain ⟨r10, hq9, h⟩ := bind_ex h
        refine r_callV hX 1 0 (As := [.int (μ 13 k1 2), .int r6, .int r8]) (rest := []) (st' := [.int r10]) (res := (some (.int r10))) (μ' := μ) (mX1_compareTruly (μ 13 k1 2) r6 r8 hq9) ckV_X7_247 ⟨rfl, rfl, by decide, by decide⟩ kyC1 rfl rfl rfl rfl (Nat.le_of_ble_eq_true rfl) dX7_isWhole_66 rfl ?_
        refine r_if_ge hX (tgt := 74) dX7_isWhole_69 (by decide) (fun hc11 => ?_) (fun hc11 => ?_)
        · have h := ite_t hc11 h
          refine r_iinc hX dX7_isWhole_74 (j := 3) (v := x2 + 1) (lv' := [(2, .int (x2 + 1)), (3, .int ((x2 - 1) / 2)), (0, .ref (ad 0 0)), (1, .ref (ad 13 k1))]) rfl (congrArg (x2 + ·) (by decide)) (by decide) rfl ?_
          refine r_goto hX (tgt := 11) dX7_isWhole_77 (by decide) ?_
          refine r_sub [2, 3, 0] rfl ?_
          exact ih (x2 + 1) h
        · have h := ite_f hc11 h
          refine r_iconst hX dX7_isWhole_72 (v := 0) (by decide) ?_
          exact r_zret hX (Or.inl rfl) hQ (Option.some.inj h) rfl dX7_isWhole_73
      · have h := ite_t hc4 h
        refine r_iload_n hX dX7_isWhole_30 2 rfl ?_
        refine r_iconst hX dX7_isWhole_31 (v := 1) (by decide) ?_
        refine r_isub hX dX7_isWhole_32 ?_
        refine r_goto hX (tgt := 41) dX7_isWhole_33 (by decide) ?_
        refine r_istore_n hX dX7_isWhole_41 (lv' := [(3, .int (x2 - 1)), (0, .ref (ad 0 0)), (1, .ref (ad 13 k1)), (2, .int x2)]) (by decide) rfl ?_
        refine r_aload_n hX dX7_isWhole_42 1 rfl ?_
        refine r_get hX 0 0 kyC0 rfl rfl inlX7 0 (by decide) tw1_179 (v := .ref (ad 1 0)) rfl dX7_isWhole_43 ?_
        refine r_aload_n hX dX7_isWhole_46 2 rfl ?_
        refine r_getN hX 13 k1 (kyC13 hk1) rfl rfl inlX6 2 (by decide) tn_26 (v := .int (μ 13 k1 2)) rfl dX7_isWhole_47 ?_
        refine r_aload_n hX dX7_isWhole_50 2 rfl ?_
        refine r_getN hX 13 k1 (kyC13 hk1) rfl rfl inlX6 0 (by decide) tn_24 (v := .ref (ad 14 k1)) rfl dX7_isWhole_51 ?_
        refine r_iload_n hX dX7_isWhole_54 3 rfl ?_
        obtain ⟨r13, hq12, h⟩ := bind_ex h
        refine r_callV hX 14 k1 (As := [.int x2]) (rest := [.int (μ 13 k1 2), .ref (ad 1 0)]) (st' := [.int r13, .int (μ 13 k1 2), .ref (ad 1 0)]) (res := (some (.int r13))) (μ' := μ) (mX5_cardAt k1 (lt68 hk1) x2 hq12) ckV_X7_139 ⟨rfl, rfl, by decide, by decide⟩ (kyC14 (lt68 hk1)) rfl rfl rfl rfl (Nat.le_of_ble_eq_true rfl) dX7_isWhole_55 rfl ?_
        refine r_aload_n hX dX7_isWhole_58 2 rfl ?_
        refine r_getN hX 13 k1 (kyC13 hk1) rfl rfl inlX6 0 (by decide) tn_24 (v := .ref (ad 14 k1)) rfl dX7_isWhole_59 ?_
        refine r_iload_n hX dX7_isWhole_62 0 rfl ?_
        obtain ⟨r15, hq14, h⟩ := bind_ex h
        refine r_callV hX 14 k1 (As := [.int (x2 - 1)]) (rest := [.int r13, .int (μ 13 k1 2), .ref (ad 1 0)]) (st' := [.int r15, .int r13, .int (μ 13 k1 2), .ref (ad 1 0)]) (res := (some (.int r15))) (μ' := μ) (mX5_cardAt k1 (lt68 hk1) (x2 - 1) hq14) ckV_X7_139 ⟨rfl, rfl, by decide, by decide⟩ (kyC14 (lt68 hk1)) rfl rfl rfl rfl (Nat.le_of_ble_eq_true rfl) dX7_isWhole_63 rfl ?_
        obtain ⟨r17, hq16, h⟩ := bind_ex h
        refine r_callV hX 1 0 (As := [.int (μ 13 k1 2), .int r13, .int r15]) (rest := []) (st' := [.int r17]) (res := (some (.int r17))) (μ' := μ) (mX1_compareTruly (μ 13 k1 2) r13 r15 hq16) ckV_X7_247 ⟨rfl, rfl, by decide, by decide⟩ kyC1 rfl rfl rfl rfl (Nat.le_of_ble_eq_true rfl) dX7_isWhole_66 rfl ?_
        refine r_if_ge hX (tgt := 74) dX7_isWhole_69 (by decide) (fun hc18 => ?_) (fun hc18 => ?_)
        · have h := ite_t hc18 h
          refine r_iinc hX dX7_isWhole_74 (j := 3) (v := x2 + 1) (lv' := [(2, .int (x2 + 1)), (3, .int (x2 - 1)), (0, .ref (ad 0 0)), (1, .ref (ad 13 k1))]) rfl (congrArg (x2 + ·) (by decide)) (by decide) rfl ?_
          refine r_goto hX (tgt := 11) dX7_isWhole_77 (by decide) ?_
          refine r_sub [2, 3, 0] rfl ?_
          exact ih (x2 + 1) h
        · have h := ite_f hc18 h
          refine r_iconst hX dX7_isWhole_72 (v := 0) (by decide) ?_
          exact r_zret hX (Or.inl rfl) hQ (Option.some.inj h) rfl dX7_isWhole_73
noncomputable def jX7_isWhole (μ : Mu) (b1 : Nat) : Option (Int32) := if (μ 13 b1 1) = 0 then some 1 else jX7_isWhole_L11 μ b1 fuel 1
set_option maxHeartbeats 4000000 in
set_option maxRecDepth 100000 in
theorem mX7_isWhole {l : Launch} {D : va_G} {cI cH cT : ClassId} {ad : Nat → Nat → Nat} {Z : va_W} {μ : Mu} {r : Int32} (b1 : Nat) (hb1 : b1 < 6) (h : jX7_isWhole μ b1 = some r) : CT (gC l D cI cH cT ad Z) yX7_isWhole (.code yX7_isWhole cX7_isWhole 4 (some .boolean) :: wsL_law) rmX7_isWhole [.ref (ad 0 0), .ref (ad 13 b1)] μ (some (.int r)) μ := by
  refine ct_of (own := RX7) (by decide) ⟨rfl, rfl⟩ (Nat.le_of_ble_eq_true rfl) rfl (fun X hX hQ => ?_)
  have hX : HX (gC l D cI cH cT ad Z) X cX7_isWhole 4 RX7 rmX7_isWhole (some .boolean) := hX
  show V (gC l D cI cH cT ad Z) X 4 μ 0 [(0, .ref (ad 0 0)), (1, .ref (ad 13 b1))] []
  unfold jX7_isWhole at h
  refine r_aload_n hX dX7_isWhole_0 1 rfl ?_
  refine r_getN hX 13 b1 (kyC13 hb1) rfl rfl inlX6 1 (by decide) tn_25 (v := .int (μ 13 b1 1)) rfl dX7_isWhole_1 ?_
  refine r_if_ne hX (tgt := 9) dX7_isWhole_4 (by decide) (fun hc1 => ?_) (fun hc1 => ?_)
  · have h := ite_f hc1 h
    refine r_iconst hX dX7_isWhole_9 (v := 1) (by decide) ?_
    refine r_istore_n hX dX7_isWhole_10 (lv' := [(2, .int 1), (0, .ref (ad 0 0)), (1, .ref (ad 13 b1))]) (by decide) rfl ?_
    refine r_sub [1, 2, 0] rfl ?_
    exact mX7_isWhole_L11 hX hQ b1 hb1 fuel 1 h
  · have h := ite_t hc1 h
    refine r_iconst hX dX7_isWhole_7 (v := 1) (by decide) ?_
    exact r_zret hX (Or.inr rfl) hQ (Option.some.inj h) rfl dX7_isWhole_8
