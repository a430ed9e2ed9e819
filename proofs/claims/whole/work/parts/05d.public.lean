abbrev rmX7_put : Room := { frames := 5, cells := 0, slots := 0, locals := 122 }
noncomputable def jX7_put (μ : Mu) (a1 : Int32) (a2 : Int32) : Option (Int32 × Mu) := (jX7_hasTray μ a1).bind (fun r2 => if r2 = 0 then some ((-1), μ) else (jX0_has μ a2).bind (fun r5 => if r5 = 0 then some ((-1), μ) else if inb a1 6 = true then if (μ 14 a1.toNatClampNeg 1) < 40 then (jX1_beginAct μ).bind (fun μ10 => (jX5_copy μ10 6 a1.toNatClampNeg).bind (fun μ12 => (jX7_placeOnDraft μ12 a1.toNatClampNeg a2).bind (fun q14 => (jX7_keepDraft q14.2 a1.toNatClampNeg q14.1).bind (fun q16 => some (q16.1, q16.2))))) else some ((-3), μ) else none))
set_option maxHeartbeats 4000000 in
set_option maxRecDepth 100000 in
theorem mX7_put {l : Launch} {D : va_G} {cI cH cT : ClassId} {ad : Nat → Nat → Nat} {Z : va_W} {μ : Mu} {r : Int32} {μ' : Mu} (a1 : Int32) (a2 : Int32) (h : jX7_put μ a1 a2 = some (r, μ')) : CT (gC l D cI cH cT ad Z) yX7_put (.code yX7_put cX7_put 4 (some .int) :: wsL_law) rmX7_put [.ref (ad 0 0), .int a1, .int a2] μ (some (.int r)) μ' := by
  refine ct_of (own := RX7) (by decide) ⟨rfl, rfl⟩ (Nat.le_of_ble_eq_true rfl) rfl (fun X hX hQ => ?_)
  have hX : HX (gC l D cI cH cT ad Z) X cX7_put 4 RX7 rmX7_put (some .int) := hX
  show V (gC l D cI cH cT ad Z) X 4 μ 0 [(0, .ref (ad 0 0)), (1, .int a1), (2, .int a2)] []
  unfold jX7_put at h
  refine r_aload_n hX dX7_put_0 0 rfl ?_
  refine r_iload_n hX dX7_put_1 1 rfl ?_
  obtain ⟨r2, hq1, h⟩ := bind_ex h
  refine r_callV hX 0 0 (As := [.int a1]) (rest := []) (st' := [.int r2]) (res := (some (.int r2))) (μ' := μ) (mX7_hasTray a1 hq1) ckV_X7_109 ⟨rfl, rfl, by decide, by decide⟩ kyC0 rfl rfl rfl rfl (Nat.le_of_ble_eq_true rfl) dX7_put_2 rfl ?_
  refine r_if_eq hX (tgt := 22) dX7_put_5 (by decide) (fun hc3 => ?_) (fun hc3 => ?_)
  · have h := ite_t hc3 h
    refine r_iconst hX dX7_put_22 (v := (-1)) (by decide) ?_
    exact r_iret hX hQ (pr1 h) (pr2 h) dX7_put_23
  · have h := ite_f hc3 h
    refine r_aload_n hX dX7_put_8 0 rfl ?_
    refine r_get hX 0 0 kyC0 rfl rfl inlX7 0 (by decide) tw1_179 (v := .ref (ad 1 0)) rfl dX7_put_9 ?_
    refine r_getN hX 1 0 kyC1 rfl rfl inlX1 0 (by decide) tn_17 (v := .ref (ad 2 0)) rfl dX7_put_12 ?_
    refine r_iload_n hX dX7_put_15 2 rfl ?_
    obtain ⟨r5, hq4, h⟩ := bind_ex h
    refine r_callV hX 2 0 (As := [.int a2]) (rest := []) (st' := [.int r5]) (res := (some (.int r5))) (μ' := μ) (mX0_has a2 hq4) ckV_X7_51 ⟨rfl, rfl, by decide, by decide⟩ kyC2 rfl rfl rfl rfl (Nat.le_of_ble_eq_true rfl) dX7_put_16 rfl ?_
    refine r_if_ne hX (tgt := 24) dX7_put_19 (by decide) (fun hc6 => ?_) (fun hc6 => ?_)
    · have h := ite_f hc6 h
      refine r_aload_n hX dX7_put_24 0 rfl ?_
      refine r_get hX 0 0 kyC0 rfl rfl inlX7 1 (by decide) tw1_180 (v := .ref (ad 12 0)) rfl dX7_put_25 ?_
      refine r_iload_n hX dX7_put_28 1 rfl ?_
      obtain ⟨hb7, h⟩ := ite_some h
      refine r_aald hX 12 0 kyC12 rfl (t0 := 2) rfl hb7 (a := ad 13 a1.toNatClampNeg) rfl dX7_put_29 ?_
      refine r_astore_n hX dX7_put_30 (lv' := [(3, .ref (ad 13 a1.toNatClampNeg)), (0, .ref (ad 0 0)), (1, .int a1), (2, .int a2)]) (by decide) rfl ?_
      refine r_aload_n hX dX7_put_31 0 rfl ?_
      refine r_getN hX 13 a1.toNatClampNeg (kyC13 (inb_lt hb7)) rfl rfl inlX6 0 (by decide) tn_24 (v := .ref (ad 14 a1.toNatClampNeg)) rfl dX7_put_32 ?_
      refine r_getN hX 14 a1.toNatClampNeg (kyC14 (lt68 (inb_lt hb7))) rfl rfl inlX5 1 (by decide) tn_23 (v := .int (μ 14 a1.toNatClampNeg 1)) rfl dX7_put_35 ?_
      refine r_bipush hX dX7_put_38 (v := 40) (by decide) ?_
      refine r_icmp_lt hX (tgt := 46) dX7_put_40 (by decide) (fun hc8 => ?_) (fun hc8 => ?_)
      · have h := ite_t hc8 h
        refine r_aload_n hX dX7_put_46 1 rfl ?_
        refine r_get hX 0 0 kyC0 rfl rfl inlX7 0 (by decide) tw1_179 (v := .ref (ad 1 0)) rfl dX7_put_47 ?_
        obtain ⟨μ10, hq9, h⟩ := bind_ex h
        refine r_callV hX 1 0 (As := []) (rest := []) (st' := []) (res := none) (μ' := μ10) (mX1_beginAct  hq9) ckV_X7_118 ⟨rfl, rfl, by decide, by decide⟩ kyC1 rfl rfl rfl rfl (Nat.le_of_ble_eq_true rfl) dX7_put_50 rfl ?_
        refine r_aload_n hX dX7_put_53 1 rfl ?_
        refine r_get hX 0 0 kyC0 rfl rfl inlX7 3 (by decide) tw1_182 (v := .ref (ad 14 6)) rfl dX7_put_54 ?_
        refine r_aload_n hX dX7_put_57 0 rfl ?_
        refine r_getN hX 13 a1.toNatClampNeg (kyC13 (inb_lt hb7)) rfl rfl inlX6 0 (by decide) tn_24 (v := .ref (ad 14 a1.toNatClampNeg)) rfl dX7_put_58 ?_
        obtain ⟨μ12, hq11, h⟩ := bind_ex h
        refine r_callV hX 14 6 (As := [.ref (ad 14 a1.toNatClampNeg)]) (rest := []) (st' := []) (res := none) (μ' := μ12) (mX5_copy 6 (by decide) a1.toNatClampNeg (lt68 (inb_lt hb7)) hq11) ckV_X7_121 ⟨rfl, rfl, by decide, by decide⟩ (kyC14 (by decide)) rfl rfl rfl rfl (Nat.le_of_ble_eq_true rfl) dX7_put_61 rfl ?_
        refine r_aload_n hX dX7_put_64 1 rfl ?_
        refine r_aload_n hX dX7_put_65 0 rfl ?_
        refine r_aload_n hX dX7_put_66 1 rfl ?_
        refine r_aload_n hX dX7_put_67 0 rfl ?_
        refine r_iload_n hX dX7_put_68 3 rfl ?_
        obtain ⟨q14, hq13, h⟩ := bind_ex h
        refine r_callV hX 0 0 (As := [.ref (ad 13 a1.toNatClampNeg), .int a2]) (rest := [.ref (ad 13 a1.toNatClampNeg), .ref (ad 0 0)]) (st' := [.int q14.1, .ref (ad 13 a1.toNatClampNeg), .ref (ad 0 0)]) (res := (some (.int q14.1))) (μ' := q14.2) (mX7_placeOnDraft a1.toNatClampNeg (inb_lt hb7) a2 hq13) ckV_X7_125 ⟨rfl, rfl, by decide, by decide⟩ kyC0 rfl rfl rfl rfl (Nat.le_of_ble_eq_true rfl) dX7_put_69 rfl ?_
        obtain ⟨q16, hq15, h⟩ := bind_ex h
        refine r_callV hX 0 0 (As := [.ref (ad 13 a1.toNatClampNeg), .int q14.1]) (rest := []) (st' := [.int q16.1]) (res := (some (.int q16.1))) (μ' := q16.2) (mX7_keepDraft a1.toNatClampNeg (inb_lt hb7) q14.1 hq15) ckV_X7_129 ⟨rfl, rfl, by decide, by decide⟩ kyC0 rfl rfl rfl rfl (Nat.le_of_ble_eq_true rfl) dX7_put_72 rfl ?_
        exact r_iret hX hQ (pr1 h) (pr2 h) dX7_put_75
      · have h := ite_f hc8 h
        refine r_bipush hX dX7_put_43 (v := (-3)) (by decide) ?_
        exact r_iret hX hQ (pr1 h) (pr2 h) dX7_put_45
    · have h := ite_t hc6 h
      refine r_iconst hX dX7_put_22 (v := (-1)) (by decide) ?_
      exact r_iret hX hQ (pr1 h) (pr2 h) dX7_put_23
abbrev rmX7_take : Room := { frames := 5, cells := 0, slots := 0, locals := 122 }
noncomputable def jX7_take (μ : Mu) (a1 : Int32) (a2 : Int32) : Option (Int32 × Mu) := (jX7_hasTray μ a1).bind (fun r2 => if r2 = 0 then some ((-1), μ) else if inb a1 6 = true then (jX5_hasPlace μ a1.toNatClampNeg a2).bind (fun r6 => if r6 = 0 then some ((-1), μ) else (jX1_beginAct μ).bind (fun μ9 => if inb a1 6 = true then if inb a1 6 = true then (jX7_removeOnDraft μ9 a1.toNatClampNeg a2).bind (fun q13 => (jX7_keepDraft q13.2 a1.toNatClampNeg q13.1).bind (fun q15 => some (q15.1, q15.2))) else none else none)) else none)
set_option maxHeartbeats 4000000 in
set_option maxRecDepth 100000 in
theorem mX7_take {l : Launch} {D : va_G} {cI cH cT : ClassId} {ad : Nat → Nat → Nat} {Z : va_W} {μ : Mu} {r : Int32} {μ' : Mu} (a1 : Int32) (a2 : Int32) (h : jX7_take μ a1 a2 = some (r, μ')) : CT (gC l D cI cH cT ad Z) yX7_take (.code yX7_take cX7_take 3 (some .int) :: wsL_law) rmX7_take [.ref (ad 0 0), .int a1, .int a2] μ (some (.int r)) μ' := by
  refine ct_of (own := RX7) (by decide) ⟨rfl, rfl⟩ (Nat.le_of_ble_eq_true rfl) rfl (fun X hX hQ => ?_)
  have hX : HX (gC l D cI cH cT ad Z) X cX7_take 3 RX7 rmX7_take (some .int) := hX
  show V (gC l D cI cH cT ad Z) X 3 μ 0 [(0, .ref (ad 0 0)), (1, .int a1), (2, .int a2)] []
  unfold jX7_take at h
  refine r_aload_n hX dX7_take_0 0 rfl ?_
  refine r_iload_n hX dX7_take_1 1 rfl ?_
  obtain ⟨r2, hq1, h⟩ := bind_ex h
  refine r_callV hX 0 0 (As := [.int a1]) (rest := []) (st' := [.int r2]) (res := (some (.int r2))) (μ' := μ) (mX7_hasTray a1 hq1) ckV_X7_109 ⟨rfl, rfl, by decide, by decide⟩ kyC0 rfl rfl rfl rfl (Nat.le_of_ble_eq_true rfl) dX7_take_2 rfl ?_
  refine r_if_eq hX (tgt := 24) dX7_take_5 (by decide) (fun hc3 => ?_) (fun hc3 => ?_)
  · have h := ite_t hc3 h
    refine r_iconst hX dX7_take_24 (v := (-1)) (by decide) ?_
    exact r_iret hX hQ (pr1 h) (pr2 h) dX7_take_25
  · have h := ite_f hc3 h
    refine r_aload_n hX dX7_take_8 0 rfl ?_
    refine r_get hX 0 0 kyC0 rfl rfl inlX7 1 (by decide) tw1_180 (v := .ref (ad 12 0)) rfl dX7_take_9 ?_
    refine r_iload_n hX dX7_take_12 1 rfl ?_
    obtain ⟨hb4, h⟩ := ite_some h
    refine r_aald hX 12 0 kyC12 rfl (t0 := 2) rfl hb4 (a := ad 13 a1.toNatClampNeg) rfl dX7_take_13 ?_
    refine r_getN hX 13 a1.toNatClampNeg (kyC13 (inb_lt hb4)) rfl rfl inlX6 0 (by decide) tn_24 (v := .ref (ad 14 a1.toNatClampNeg)) rfl dX7_take_14 ?_
    refine r_iload_n hX dX7_take_17 2 rfl ?_
    obtain ⟨r6, hq5, h⟩ := bind_ex h
    refine r_callV hX 14 a1.toNatClampNeg (As := [.int a2]) (rest := []) (st' := [.int r6]) (res := (some (.int r6))) (μ' := μ) (mX5_hasPlace a1.toNatClampNeg (lt68 (inb_lt hb4)) a2 hq5) ckV_X7_133 ⟨rfl, rfl, by decide, by decide⟩ (kyC14 (lt68 (inb_lt hb4))) rfl rfl rfl rfl (Nat.le_of_ble_eq_true rfl) dX7_take_18 rfl ?_
    refine r_if_ne hX (tgt := 26) dX7_take_21 (by decide) (fun hc7 => ?_) (fun hc7 => ?_)
    · have h := ite_f hc7 h
      refine r_aload_n hX dX7_take_26 0 rfl ?_
      refine r_get hX 0 0 kyC0 rfl rfl inlX7 0 (by decide) tw1_179 (v := .ref (ad 1 0)) rfl dX7_take_27 ?_
      obtain ⟨μ9, hq8, h⟩ := bind_ex h
      refine r_callV hX 1 0 (As := []) (rest := []) (st' := []) (res := none) (μ' := μ9) (mX1_beginAct  hq8) ckV_X7_118 ⟨rfl, rfl, by decide, by decide⟩ kyC1 rfl rfl rfl rfl (Nat.le_of_ble_eq_true rfl) dX7_take_30 rfl ?_
      refine r_aload_n hX dX7_take_33 0 rfl ?_
      refine r_aload_n hX dX7_take_34 0 rfl ?_
      refine r_get hX 0 0 kyC0 rfl rfl inlX7 1 (by decide) tw1_180 (v := .ref (ad 12 0)) rfl dX7_take_35 ?_
      refine r_iload_n hX dX7_take_38 1 rfl ?_
      obtain ⟨hb10, h⟩ := ite_some h
      refine r_aald hX 12 0 kyC12 rfl (t0 := 2) rfl hb10 (a := ad 13 a1.toNatClampNeg) rfl dX7_take_39 ?_
      refine r_aload_n hX dX7_take_40 0 rfl ?_
      refine r_aload_n hX dX7_take_41 0 rfl ?_
      refine r_get hX 0 0 kyC0 rfl rfl inlX7 1 (by decide) tw1_180 (v := .ref (ad 12 0)) rfl dX7_take_42 ?_
      refine r_iload_n hX dX7_take_45 1 rfl ?_
      obtain ⟨hb11, h⟩ := ite_some h
      refine r_aald hX 12 0 kyC12 rfl (t0 := 2) rfl hb11 (a := ad 13 a1.toNatClampNeg) rfl dX7_take_46 ?_
      refine r_iload_n hX dX7_take_47 2 rfl ?_
      obtain ⟨q13, hq12, h⟩ := bind_ex h
      refine r_callV hX 0 0 (As := [.ref (ad 13 a1.toNatClampNeg), .int a2]) (rest := [.ref (ad 13 a1.toNatClampNeg), .ref (ad 0 0)]) (st' := [.int q13.1, .ref (ad 13 a1.toNatClampNeg), .ref (ad 0 0)]) (res := (some (.int q13.1))) (μ' := q13.2) (mX7_removeOnDraft a1.toNatClampNeg (inb_lt hb11) a2 hq12) ckV_X7_136 ⟨rfl, rfl, by decide, by decide⟩ kyC0 rfl rfl rfl rfl (Nat.le_of_ble_eq_true rfl) dX7_take_48 rfl ?_
      obtain ⟨q15, hq14, h⟩ := bind_ex h
      refine r_callV hX 0 0 (As := [.ref (ad 13 a1.toNatClampNeg), .int q13.1]) (rest := []) (st' := [.int q15.1]) (res := (some (.int q15.1))) (μ' := q15.2) (mX7_keepDraft a1.toNatClampNeg (inb_lt hb10) q13.1 hq14) ckV_X7_129 ⟨rfl, rfl, by decide, by decide⟩ kyC0 rfl rfl rfl rfl (Nat.le_of_ble_eq_true rfl) dX7_take_51 rfl ?_
      exact r_iret hX hQ (pr1 h) (pr2 h) dX7_take_54
    · have h := ite_t hc7 h
      refine r_iconst hX dX7_take_24 (v := (-1)) (by decide) ?_
      exact r_iret hX hQ (pr1 h) (pr2 h) dX7_take_25
abbrev rmX7_first : Room := { frames := 5, cells := 0, slots := 0, locals := 122 }
noncomputable def jX7_first (μ : Mu) (a1 : Int32) : Option (Int32 × Mu) := (jX7_hasTray μ a1).bind (fun r2 => if r2 = 0 then some ((-1), μ) else if inb a1 6 = true then (jX5_hasPlace μ a1.toNatClampNeg 0).bind (fun r6 => if r6 = 0 then some ((-1), μ) else if inb a1 6 = true then (jX5_cardAt μ a1.toNatClampNeg 0).bind (fun r10 => (jX1_beginAct μ).bind (fun μ12 => if inb a1 6 = true then if inb a1 6 = true then (jX7_removeOnDraft μ12 a1.toNatClampNeg 0).bind (fun q16 => (jX7_keepDraft q16.2 a1.toNatClampNeg q16.1).bind (fun q18 => if q18.1 = 0 then some (r10, q18.2) else some ((-11), q18.2))) else none else none)) else none) else none)
set_option maxHeartbeats 4000000 in
set_option maxRecDepth 100000 in
theorem mX7_first {l : Launch} {D : va_G} {cI cH cT : ClassId} {ad : Nat → Nat → Nat} {Z : va_W} {μ : Mu} {r : Int32} {μ' : Mu} (a1 : Int32) (h : jX7_first μ a1 = some (r, μ')) : CT (gC l D cI cH cT ad Z) yX7_first (.code yX7_first cX7_first 4 (some .int) :: wsL_law) rmX7_first [.ref (ad 0 0), .int a1] μ (some (.int r)) μ' := by
  refine ct_of (own := RX7) (by decide) ⟨rfl, rfl⟩ (Nat.le_of_ble_eq_true rfl) rfl (fun X hX hQ => ?_)
  have hX : HX (gC l D cI cH cT ad Z) X cX7_first 4 RX7 rmX7_first (some .int) := hX
  show V (gC l D cI cH cT ad Z) X 4 μ 0 [(0, .ref (ad 0 0)), (1, .int a1)] []
  unfold jX7_first at h
  refine r_aload_n hX dX7_first_0 0 rfl ?_
  refine r_iload_n hX dX7_first_1 1 rfl ?_
  obtain ⟨r2, hq1, h⟩ := bind_ex h
  refine r_callV hX 0 0 (As := [.int a1]) (rest := []) (st' := [.int r2]) (res := (some (.int r2))) (μ' := μ) (mX7_hasTray a1 hq1) ckV_X7_109 ⟨rfl, rfl, by decide, by decide⟩ kyC0 rfl rfl rfl rfl (Nat.le_of_ble_eq_true rfl) dX7_first_2 rfl ?_
  refine r_if_eq hX (tgt := 24) dX7_first_5 (by decide) (fun hc3 => ?_) (fun hc3 => ?_)
  · have h := ite_t hc3 h
    refine r_iconst hX dX7_first_24 (v := (-1)) (by decide) ?_
    exact r_iret hX hQ (pr1 h) (pr2 h) dX7_first_25
  · have h := ite_f hc3 h
    refine r_aload_n hX dX7_first_8 0 rfl ?_
    refine r_get hX 0 0 kyC0 rfl rfl inlX7 1 (by decide) tw1_180 (v := .ref (ad 12 0)) rfl dX7_first_9 ?_
    refine r_iload_n hX dX7_first_12 1 rfl ?_
    obtain ⟨hb4, h⟩ := ite_some h
    refine r_aald hX 12 0 kyC12 rfl (t0 := 2) rfl hb4 (a := ad 13 a1.toNatClampNeg) rfl dX7_first_13 ?_
    refine r_getN hX 13 a1.toNatClampNeg (kyC13 (inb_lt hb4)) rfl rfl inlX6 0 (by decide) tn_24 (v := .ref (ad 14 a1.toNatClampNeg)) rfl dX7_first_14 ?_
    refine r_iconst hX dX7_first_17 (v := 0) (by decide) ?_
    obtain ⟨r6, hq5, h⟩ := bind_ex h
    refine r_callV hX 14 a1.toNatClampNeg (As := [.int 0]) (rest := []) (st' := [.int r6]) (res := (some (.int r6))) (μ' := μ) (mX5_hasPlace a1.toNatClampNeg (lt68 (inb_lt hb4)) 0 hq5) ckV_X7_133 ⟨rfl, rfl, by decide, by decide⟩ (kyC14 (lt68 (inb_lt hb4))) rfl rfl rfl rfl (Nat.le_of_ble_eq_true rfl) dX7_first_18 rfl ?_
    refine r_if_ne hX (tgt := 26) dX7_first_21 (by decide) (fun hc7 => ?_) (fun hc7 => ?_)
    · have h := ite_f hc7 h
      refine r_aload_n hX dX7_first_26 0 rfl ?_
      refine r_get hX 0 0 kyC0 rfl rfl inlX7 1 (by decide) tw1_180 (v := .ref (ad 12 0)) rfl dX7_first_27 ?_
      refine r_iload_n hX dX7_first_30 1 rfl ?_
      obtain ⟨hb8, h⟩ := ite_some h
      refine r_aald hX 12 0 kyC12 rfl (t0 := 2) rfl hb8 (a := ad 13 a1.toNatClampNeg) rfl dX7_first_31 ?_
      refine r_getN hX 13 a1.toNatClampNeg (kyC13 (inb_lt hb8)) rfl rfl inlX6 0 (by decide) tn_24 (v := .ref (ad 14 a1.toNatClampNeg)) rfl dX7_first_32 ?_
      refine r_iconst hX dX7_first_35 (v := 0) (by decide) ?_
      obtain ⟨r10, hq9, h⟩ := bind_ex h
      refine r_callV hX 14 a1.toNatClampNeg (As := [.int 0]) (rest := []) (st' := [.int r10]) (res := (some (.int r10))) (μ' := μ) (mX5_cardAt a1.toNatClampNeg (lt68 (inb_lt hb8)) 0 hq9) ckV_X7_139 ⟨rfl, rfl, by decide, by decide⟩ (kyC14 (lt68 (inb_lt hb8))) rfl rfl rfl rfl (Nat.le_of_ble_eq_true rfl) dX7_first_36 rfl ?_
      refine r_istore_n hX dX7_first_39 (lv' := [(2, .int r10), (0, .ref (ad 0 0)), (1, .int a1)]) (by decide) rfl ?_
      refine r_aload_n hX dX7_first_40 1 rfl ?_
      refine r_get hX 0 0 kyC0 rfl rfl inlX7 0 (by decide) tw1_179 (v := .ref (ad 1 0)) rfl dX7_first_41 ?_
      obtain ⟨μ12, hq11, h⟩ := bind_ex h
      refine r_callV hX 1 0 (As := []) (rest := []) (st' := []) (res := none) (μ' := μ12) (mX1_beginAct  hq11) ckV_X7_118 ⟨rfl, rfl, by decide, by decide⟩ kyC1 rfl rfl rfl rfl (Nat.le_of_ble_eq_true rfl) dX7_first_44 rfl ?_
      refine r_aload_n hX dX7_first_47 1 rfl ?_
      refine r_aload_n hX dX7_first_48 1 rfl ?_
      refine r_get hX 0 0 kyC0 rfl rfl inlX7 1 (by decide) tw1_180 (v := .ref (ad 12 0)) rfl dX7_first_49 ?_
      refine r_iload_n hX dX7_first_52 2 rfl ?_
      obtain ⟨hb13, h⟩ := ite_some h
      refine r_aald hX 12 0 kyC12 rfl (t0 := 2) rfl hb13 (a := ad 13 a1.toNatClampNeg) rfl dX7_first_53 ?_
      refine r_aload_n hX dX7_first_54 1 rfl ?_
      refine r_aload_n hX dX7_first_55 1 rfl ?_
      refine r_get hX 0 0 kyC0 rfl rfl inlX7 1 (by decide) tw1_180 (v := .ref (ad 12 0)) rfl dX7_first_56 ?_
      refine r_iload_n hX dX7_first_59 2 rfl ?_
      obtain ⟨hb14, h⟩ := ite_some h
      refine r_aald hX 12 0 kyC12 rfl (t0 := 2) rfl hb14 (a := ad 13 a1.toNatClampNeg) rfl dX7_first_60 ?_
      refine r_iconst hX dX7_first_61 (v := 0) (by decide) ?_
      obtain ⟨q16, hq15, h⟩ := bind_ex h
      refine r_callV hX 0 0 (As := [.ref (ad 13 a1.toNatClampNeg), .int 0]) (rest := [.ref (ad 13 a1.toNatClampNeg), .ref (ad 0 0)]) (st' := [.int q16.1, .ref (ad 13 a1.toNatClampNeg), .ref (ad 0 0)]) (res := (some (.int q16.1))) (μ' := q16.2) (mX7_removeOnDraft a1.toNatClampNeg (inb_lt hb14) 0 hq15) ckV_X7_136 ⟨rfl, rfl, by decide, by decide⟩ kyC0 rfl rfl rfl rfl (Nat.le_of_ble_eq_true rfl) dX7_first_62 rfl ?_
      obtain ⟨q18, hq17, h⟩ := bind_ex h
      refine r_callV hX 0 0 (As := [.ref (ad 13 a1.toNatClampNeg), .int q16.1]) (rest := []) (st' := [.int q18.1]) (res := (some (.int q18.1))) (μ' := q18.2) (mX7_keepDraft a1.toNatClampNeg (inb_lt hb13) q16.1 hq17) ckV_X7_129 ⟨rfl, rfl, by decide, by decide⟩ kyC0 rfl rfl rfl rfl (Nat.le_of_ble_eq_true rfl) dX7_first_65 rfl ?_
      refine r_istore_n hX dX7_first_68 (lv' := [(3, .int q18.1), (2, .int r10), (0, .ref (ad 0 0)), (1, .int a1)]) (by decide) rfl ?_
      refine r_iload_n hX dX7_first_69 0 rfl ?_
      refine r_if_ne hX (tgt := 77) dX7_first_70 (by decide) (fun hc19 => ?_) (fun hc19 => ?_)
      · have h := ite_f hc19 h
        refine r_bipush hX dX7_first_77 (v := (-11)) (by decide) ?_
        exact r_iret hX hQ (pr1 h) (pr2 h) dX7_first_79
      · have h := ite_t hc19 h
        refine r_iload_n hX dX7_first_73 1 rfl ?_
        refine r_goto hX (tgt := 79) dX7_first_74 (by decide) ?_
        exact r_iret hX hQ (pr1 h) (pr2 h) dX7_first_79
    · have h := ite_t hc7 h
      refine r_iconst hX dX7_first_24 (v := (-1)) (by decide) ?_
      exact r_iret hX hQ (pr1 h) (pr2 h) dX7_first_25
abbrev rmX7_find : Room := { frames := 4, cells := 0, slots := 0, locals := 99 }
noncomputable def jX7_find (μ : Mu) (a1 : Int32) (a2 : Int32) : Option (Int32 × Mu) := (jX7_hasTray μ a1).bind (fun r2 => if r2 = 0 then some ((-1), μ) else (jX0_has μ a2).bind (fun r5 => if r5 = 0 then some ((-1), μ) else if inb a1 6 = true then if (μ 13 a1.toNatClampNeg 1) = 1 then (jX1_beginAct μ).bind (fun μ10 => (jX5_placeFor μ10 a1.toNatClampNeg a2 (μ10 13 a1.toNatClampNeg 2)).bind (fun q12 => some (q12.1, q12.2))) else some ((-2), μ) else none))
set_option maxHeartbeats 4000000 in
set_option maxRecDepth 100000 in
theorem mX7_find {l : Launch} {D : va_G} {cI cH cT : ClassId} {ad : Nat → Nat → Nat} {Z : va_W} {μ : Mu} {r : Int32} {μ' : Mu} (a1 : Int32) (a2 : Int32) (h : jX7_find μ a1 a2 = some (r, μ')) : CT (gC l D cI cH cT ad Z) yX7_find (.code yX7_find cX7_find 4 (some .int) :: wsL_law) rmX7_find [.ref (ad 0 0), .int a1, .int a2] μ (some (.int r)) μ' := by
  refine ct_of (own := RX7) (by decide) ⟨rfl, rfl⟩ (Nat.le_of_ble_eq_true rfl) rfl (fun X hX hQ => ?_)
  have hX : HX (gC l D cI cH cT ad Z) X cX7_find 4 RX7 rmX7_find (some .int) := hX
  show V (gC l D cI cH cT ad Z) X 4 μ 0 [(0, .ref (ad 0 0)), (1, .int a1), (2, .int a2)] []
  unfold jX7_find at h
  refine r_aload_n hX dX7_find_0 0 rfl ?_
  refine r_iload_n hX dX7_find_1 1 rfl ?_
  obtain ⟨r2, hq1, h⟩ := bind_ex h
  refine r_callV hX 0 0 (As := [.int a1]) (rest := []) (st' := [.int r2]) (res := (some (.int r2))) (μ' := μ) (mX7_hasTray a1 hq1) ckV_X7_109 ⟨rfl, rfl, by decide, by decide⟩ kyC0 rfl rfl rfl rfl (Nat.le_of_ble_eq_true rfl) dX7_find_2 rfl ?_
  refine r_if_eq hX (tgt := 22) dX7_find_5 (by decide) (fun hc3 => ?_) (fun hc3 => ?_)
  · have h := ite_t hc3 h
    refine r_iconst hX dX7_find_22 (v := (-1)) (by decide) ?_
    exact r_iret hX hQ (pr1 h) (pr2 h) dX7_find_23
  · have h := ite_f hc3 h
    refine r_aload_n hX dX7_find_8 0 rfl ?_
    refine r_get hX 0 0 kyC0 rfl rfl inlX7 0 (by decide) tw1_179 (v := .ref (ad 1 0)) rfl dX7_find_9 ?_
    refine r_getN hX 1 0 kyC1 rfl rfl inlX1 0 (by decide) tn_17 (v := .ref (ad 2 0)) rfl dX7_find_12 ?_
    refine r_iload_n hX dX7_find_15 2 rfl ?_
    obtain ⟨r5, hq4, h⟩ := bind_ex h
    refine r_callV hX 2 0 (As := [.int a2]) (rest := []) (st' := [.int r5]) (res := (some (.int r5))) (μ' := μ) (mX0_has a2 hq4) ckV_X7_51 ⟨rfl, rfl, by decide, by decide⟩ kyC2 rfl rfl rfl rfl (Nat.le_of_ble_eq_true rfl) dX7_find_16 rfl ?_
    refine r_if_ne hX (tgt := 24) dX7_find_19 (by decide) (fun hc6 => ?_) (fun hc6 => ?_)
    · have h := ite_f hc6 h
      refine r_aload_n hX dX7_find_24 0 rfl ?_
      refine r_get hX 0 0 kyC0 rfl rfl inlX7 1 (by decide) tw1_180 (v := .ref (ad 12 0)) rfl dX7_find_25 ?_
      refine r_iload_n hX dX7_find_28 1 rfl ?_
      obtain ⟨hb7, h⟩ := ite_some h
      refine r_aald hX 12 0 kyC12 rfl (t0 := 2) rfl hb7 (a := ad 13 a1.toNatClampNeg) rfl dX7_find_29 ?_
      refine r_astore_n hX dX7_find_30 (lv' := [(3, .ref (ad 13 a1.toNatClampNeg)), (0, .ref (ad 0 0)), (1, .int a1), (2, .int a2)]) (by decide) rfl ?_
      refine r_aload_n hX dX7_find_31 0 rfl ?_
      refine r_getN hX 13 a1.toNatClampNeg (kyC13 (inb_lt hb7)) rfl rfl inlX6 1 (by decide) tn_25 (v := .int (μ 13 a1.toNatClampNeg 1)) rfl dX7_find_32 ?_
      refine r_iconst hX dX7_find_35 (v := 1) (by decide) ?_
      refine r_icmp_eq hX (tgt := 42) dX7_find_36 (by decide) (fun hc8 => ?_) (fun hc8 => ?_)
      · have h := ite_t hc8 h
        refine r_aload_n hX dX7_find_42 1 rfl ?_
        refine r_get hX 0 0 kyC0 rfl rfl inlX7 0 (by decide) tw1_179 (v := .ref (ad 1 0)) rfl dX7_find_43 ?_
        obtain ⟨μ10, hq9, h⟩ := bind_ex h
        refine r_callV hX 1 0 (As := []) (rest := []) (st' := []) (res := none) (μ' := μ10) (mX1_beginAct  hq9) ckV_X7_118 ⟨rfl, rfl, by decide, by decide⟩ kyC1 rfl rfl rfl rfl (Nat.le_of_ble_eq_true rfl) dX7_find_46 rfl ?_
        refine r_aload_n hX dX7_find_49 0 rfl ?_
        refine r_getN hX 13 a1.toNatClampNeg (kyC13 (inb_lt hb7)) rfl rfl inlX6 0 (by decide) tn_24 (v := .ref (ad 14 a1.toNatClampNeg)) rfl dX7_find_50 ?_
        refine r_iload_n hX dX7_find_53 3 rfl ?_
        refine r_aload_n hX dX7_find_54 1 rfl ?_
        refine r_get hX 0 0 kyC0 rfl rfl inlX7 0 (by decide) tw1_179 (v := .ref (ad 1 0)) rfl dX7_find_55 ?_
        refine r_aload_n hX dX7_find_58 0 rfl ?_
        refine r_getN hX 13 a1.toNatClampNeg (kyC13 (inb_lt hb7)) rfl rfl inlX6 2 (by decide) tn_26 (v := .int (μ10 13 a1.toNatClampNeg 2)) rfl dX7_find_59 ?_
        obtain ⟨q12, hq11, h⟩ := bind_ex h
        refine r_callV hX 14 a1.toNatClampNeg (As := [.int a2, .ref (ad 1 0), .int (μ10 13 a1.toNatClampNeg 2)]) (rest := []) (st' := [.int q12.1]) (res := (some (.int q12.1))) (μ' := q12.2) (mX5_placeFor a1.toNatClampNeg (lt68 (inb_lt hb7)) a2 (μ10 13 a1.toNatClampNeg 2) hq11) ckV_X7_148 ⟨rfl, rfl, by decide, by decide⟩ (kyC14 (lt68 (inb_lt hb7))) rfl rfl rfl rfl (Nat.le_of_ble_eq_true rfl) dX7_find_62 rfl ?_
        exact r_iret hX hQ (pr1 h) (pr2 h) dX7_find_65
      · have h := ite_f hc8 h
        refine r_bipush hX dX7_find_39 (v := (-2)) (by decide) ?_
        exact r_iret hX hQ (pr1 h) (pr2 h) dX7_find_41
    · have h := ite_t hc6 h
      refine r_iconst hX dX7_find_22 (v := (-1)) (by decide) ?_
      exact r_iret hX hQ (pr1 h) (pr2 h) dX7_find_23
abbrev rmX7_sort : Room := { frames := 5, cells := 0, slots := 0, locals := 127 }
noncomputable def jX7_sort (μ : Mu) (a1 : Int32) (a2 : Int32) : Option (Int32 × Mu) := (jX7_hasTray μ a1).bind (fun r2 => if r2 = 0 then some ((-1), μ) else (jX1_hasHook μ a2).bind (fun r5 => if r5 = 0 then some ((-1), μ) else if inb a1 6 = true then if (μ 13 a1.toNatClampNeg 1) = 0 then (jX1_compares μ a2).bind (fun r10 => if r10 = 0 then some ((-2), μ) else (jX1_beginAct μ).bind (fun μ13 => (jX5_copy μ13 6 a1.toNatClampNeg).bind (fun μ15 => (jX7_sortDraftAnew μ15 a2).bind (fun q17 => (jX7_keepDraft q17.2 a1.toNatClampNeg q17.1).bind (fun q19 => some (q19.1, q19.2)))))) else some ((-2), μ) else none))
set_option maxHeartbeats 4000000 in
set_option maxRecDepth 100000 in
theorem mX7_sort {l : Launch} {D : va_G} {cI cH cT : ClassId} {ad : Nat → Nat → Nat} {Z : va_W} {μ : Mu} {r : Int32} {μ' : Mu} (a1 : Int32) (a2 : Int32) (h : jX7_sort μ a1 a2 = some (r, μ')) : CT (gC l D cI cH cT ad Z) yX7_sort (.code yX7_sort cX7_sort 4 (some .int) :: wsL_law) rmX7_sort [.ref (ad 0 0), .int a1, .int a2] μ (some (.int r)) μ' := by
  refine ct_of (own := RX7) (by decide) ⟨rfl, rfl⟩ (Nat.le_of_ble_eq_true rfl) rfl (fun X hX hQ => ?_)
  have hX : HX (gC l D cI cH cT ad Z) X cX7_sort 4 RX7 rmX7_sort (some .int) := hX
  show V (gC l D cI cH cT ad Z) X 4 μ 0 [(0, .ref (ad 0 0)), (1, .int a1), (2, .int a2)] []
  unfold jX7_sort at h
  refine r_aload_n hX dX7_sort_0 0 rfl ?_
  refine r_iload_n hX dX7_sort_1 1 rfl ?_
  obtain ⟨r2, hq1, h⟩ := bind_ex h
  refine r_callV hX 0 0 (As := [.int a1]) (rest := []) (st' := [.int r2]) (res := (some (.int r2))) (μ' := μ) (mX7_hasTray a1 hq1) ckV_X7_109 ⟨rfl, rfl, by decide, by decide⟩ kyC0 rfl rfl rfl rfl (Nat.le_of_ble_eq_true rfl) dX7_sort_2 rfl ?_
  refine r_if_eq hX (tgt := 19) dX7_sort_5 (by decide) (fun hc3 => ?_) (fun hc3 => ?_)
  · have h := ite_t hc3 h
    refine r_iconst hX dX7_sort_19 (v := (-1)) (by decide) ?_
    exact r_iret hX hQ (pr1 h) (pr2 h) dX7_sort_20
  · have h := ite_f hc3 h
    refine r_aload_n hX dX7_sort_8 0 rfl ?_
    refine r_get hX 0 0 kyC0 rfl rfl inlX7 0 (by decide) tw1_179 (v := .ref (ad 1 0)) rfl dX7_sort_9 ?_
    refine r_iload_n hX dX7_sort_12 2 rfl ?_
    obtain ⟨r5, hq4, h⟩ := bind_ex h
    refine r_callV hX 1 0 (As := [.int a2]) (rest := []) (st' := [.int r5]) (res := (some (.int r5))) (μ' := μ) (mX1_hasHook a2 hq4) ckV_X7_67 ⟨rfl, rfl, by decide, by decide⟩ kyC1 rfl rfl rfl rfl (Nat.le_of_ble_eq_true rfl) dX7_sort_13 rfl ?_
    refine r_if_ne hX (tgt := 21) dX7_sort_16 (by decide) (fun hc6 => ?_) (fun hc6 => ?_)
    · have h := ite_f hc6 h
      refine r_aload_n hX dX7_sort_21 0 rfl ?_
      refine r_get hX 0 0 kyC0 rfl rfl inlX7 1 (by decide) tw1_180 (v := .ref (ad 12 0)) rfl dX7_sort_22 ?_
      refine r_iload_n hX dX7_sort_25 1 rfl ?_
      obtain ⟨hb7, h⟩ := ite_some h
      refine r_aald hX 12 0 kyC12 rfl (t0 := 2) rfl hb7 (a := ad 13 a1.toNatClampNeg) rfl dX7_sort_26 ?_
      refine r_astore_n hX dX7_sort_27 (lv' := [(3, .ref (ad 13 a1.toNatClampNeg)), (0, .ref (ad 0 0)), (1, .int a1), (2, .int a2)]) (by decide) rfl ?_
      refine r_aload_n hX dX7_sort_28 0 rfl ?_
      refine r_getN hX 13 a1.toNatClampNeg (kyC13 (inb_lt hb7)) rfl rfl inlX6 1 (by decide) tn_25 (v := .int (μ 13 a1.toNatClampNeg 1)) rfl dX7_sort_29 ?_
      refine r_if_ne hX (tgt := 46) dX7_sort_32 (by decide) (fun hc8 => ?_) (fun hc8 => ?_)
      · have h := ite_f hc8 h
        refine r_bipush hX dX7_sort_46 (v := (-2)) (by decide) ?_
        exact r_iret hX hQ (pr1 h) (pr2 h) dX7_sort_48
      · have h := ite_t hc8 h
        refine r_aload_n hX dX7_sort_35 1 rfl ?_
        refine r_get hX 0 0 kyC0 rfl rfl inlX7 0 (by decide) tw1_179 (v := .ref (ad 1 0)) rfl dX7_sort_36 ?_
        refine r_iload_n hX dX7_sort_39 3 rfl ?_
        obtain ⟨r10, hq9, h⟩ := bind_ex h
        refine r_callV hX 1 0 (As := [.int a2]) (rest := []) (st' := [.int r10]) (res := (some (.int r10))) (μ' := μ) (mX1_compares a2 hq9) ckV_X7_102 ⟨rfl, rfl, by decide, by decide⟩ kyC1 rfl rfl rfl rfl (Nat.le_of_ble_eq_true rfl) dX7_sort_40 rfl ?_
        refine r_if_ne hX (tgt := 49) dX7_sort_43 (by decide) (fun hc11 => ?_) (fun hc11 => ?_)
        · have h := ite_f hc11 h
          refine r_aload_n hX dX7_sort_49 1 rfl ?_
          refine r_get hX 0 0 kyC0 rfl rfl inlX7 0 (by decide) tw1_179 (v := .ref (ad 1 0)) rfl dX7_sort_50 ?_
          obtain ⟨μ13, hq12, h⟩ := bind_ex h
          refine r_callV hX 1 0 (As := []) (rest := []) (st' := []) (res := none) (μ' := μ13) (mX1_beginAct  hq12) ckV_X7_118 ⟨rfl, rfl, by decide, by decide⟩ kyC1 rfl rfl rfl rfl (Nat.le_of_ble_eq_true rfl) dX7_sort_53 rfl ?_
          refine r_aload_n hX dX7_sort_56 1 rfl ?_
          refine r_get hX 0 0 kyC0 rfl rfl inlX7 3 (by decide) tw1_182 (v := .ref (ad 14 6)) rfl dX7_sort_57 ?_
          refine r_aload_n hX dX7_sort_60 0 rfl ?_
          refine r_getN hX 13 a1.toNatClampNeg (kyC13 (inb_lt hb7)) rfl rfl inlX6 0 (by decide) tn_24 (v := .ref (ad 14 a1.toNatClampNeg)) rfl dX7_sort_61 ?_
          obtain ⟨μ15, hq14, h⟩ := bind_ex h
          refine r_callV hX 14 6 (As := [.ref (ad 14 a1.toNatClampNeg)]) (rest := []) (st' := []) (res := none) (μ' := μ15) (mX5_copy 6 (by decide) a1.toNatClampNeg (lt68 (inb_lt hb7)) hq14) ckV_X7_121 ⟨rfl, rfl, by decide, by decide⟩ (kyC14 (by decide)) rfl rfl rfl rfl (Nat.le_of_ble_eq_true rfl) dX7_sort_64 rfl ?_
          refine r_aload_n hX dX7_sort_67 1 rfl ?_
          refine r_aload_n hX dX7_sort_68 0 rfl ?_
          refine r_aload_n hX dX7_sort_69 1 rfl ?_
          refine r_iload_n hX dX7_sort_70 3 rfl ?_
          obtain ⟨q17, hq16, h⟩ := bind_ex h
          refine r_callV hX 0 0 (As := [.int a2]) (rest := [.ref (ad 13 a1.toNatClampNeg), .ref (ad 0 0)]) (st' := [.int q17.1, .ref (ad 13 a1.toNatClampNeg), .ref (ad 0 0)]) (res := (some (.int q17.1))) (μ' := q17.2) (mX7_sortDraftAnew a2 hq16) ckV_X7_152 ⟨rfl, rfl, by decide, by decide⟩ kyC0 rfl rfl rfl rfl (Nat.le_of_ble_eq_true rfl) dX7_sort_71 rfl ?_
          obtain ⟨q19, hq18, h⟩ := bind_ex h
          refine r_callV hX 0 0 (As := [.ref (ad 13 a1.toNatClampNeg), .int q17.1]) (rest := []) (st' := [.int q19.1]) (res := (some (.int q19.1))) (μ' := q19.2) (mX7_keepDraft a1.toNatClampNeg (inb_lt hb7) q17.1 hq18) ckV_X7_129 ⟨rfl, rfl, by decide, by decide⟩ kyC0 rfl rfl rfl rfl (Nat.le_of_ble_eq_true rfl) dX7_sort_74 rfl ?_
          exact r_iret hX hQ (pr1 h) (pr2 h) dX7_sort_77
        · have h := ite_t hc11 h
          refine r_bipush hX dX7_sort_46 (v := (-2)) (by decide) ?_
          exact r_iret hX hQ (pr1 h) (pr2 h) dX7_sort_48
    · have h := ite_t hc6 h
      refine r_iconst hX dX7_sort_19 (v := (-1)) (by decide) ?_
      exact r_iret hX hQ (pr1 h) (pr2 h) dX7_sort_20
abbrev rmX7_filter : Room := { frames := 6, cells := 0, slots := 0, locals := 145 }
noncomputable def jX7_filter (μ : Mu) (a1 : Int32) (a2 : Int32) : Option (Int32 × Mu) := (jX7_hasTray μ a1).bind (fun r2 => if r2 = 0 then some ((-1), μ) else (jX1_hasHook μ a2).bind (fun r5 => if r5 = 0 then some ((-1), μ) else (jX1_kindOf μ a2).bind (fun r8 => if r8 = 3 then if inb a1 6 = true then (jX1_beginAct μ).bind (fun μ12 => (jX7_judgeOntoDraft μ12 a1.toNatClampNeg a2).bind (fun q14 => if (q14.2 13 a1.toNatClampNeg 1) = 2 then (jX5_copy q14.2 7 6).bind (fun μ20 => (jX5_clear μ20 6).bind (fun μ22 => if q14.1 = 0 then (jX7_keepDraft μ22 a1.toNatClampNeg 0).bind (fun q25 => some (q25.1, q25.2)) else (jX7_placeAllOnDraft μ22 a1.toNatClampNeg 7).bind (fun q27 => if q27.1 = 0 then (jX7_keepDraft q27.2 a1.toNatClampNeg 0).bind (fun q30 => some (q30.1, q30.2)) else (jX7_keepDraft q27.2 a1.toNatClampNeg 1).bind (fun q32 => some (q32.1, q32.2))))) else (jX5_copy q14.2 a1.toNatClampNeg 6).bind (fun μ17 => if q14.1 = 0 then some (2, μ17) else some (0, μ17)))) else none else some ((-2), μ))))
set_option maxHeartbeats 4000000 in
set_option maxRecDepth 100000 in
theorem mX7_filter {l : Launch} {D : va_G} {cI cH cT : ClassId} {ad : Nat → Nat → Nat} {Z : va_W} {μ : Mu} {r : Int32} {μ' : Mu} (a1 : Int32) (a2 : Int32) (h : jX7_filter μ a1 a2 = some (r, μ')) : CT (gC l D cI cH cT ad Z) yX7_filter (.code yX7_filter cX7_filter 5 (some .int) :: wsL_law) rmX7_filter [.ref (ad 0 0), .int a1, .int a2] μ (some (.int r)) μ' := by
  refine ct_of (own := RX7) (by decide) ⟨rfl, rfl⟩ (Nat.le_of_ble_eq_true rfl) rfl (fun X hX hQ => ?_)
  have hX : HX (gC l D cI cH cT ad Z) X cX7_filter 5 RX7 rmX7_filter (some .int) := hX
  show V (gC l D cI cH cT ad Z) X 5 μ 0 [(0, .ref (ad 0 0)), (1, .int a1), (2, .int a2)] []
  unfold jX7_filter at h
  refine r_aload_n hX dX7_filter_0 0 rfl ?_
  refine r_iload_n hX dX7_filter_1 1 rfl ?_
  obtain ⟨r2, hq1, h⟩ := bind_ex h
  refine r_callV hX 0 0 (As := [.int a1]) (rest := []) (st' := [.int r2]) (res := (some (.int r2))) (μ' := μ) (mX7_hasTray a1 hq1) ckV_X7_109 ⟨rfl, rfl, by decide, by decide⟩ kyC0 rfl rfl rfl rfl (Nat.le_of_ble_eq_true rfl) dX7_filter_2 rfl ?_
  refine r_if_eq hX (tgt := 19) dX7_filter_5 (by decide) (fun hc3 => ?_) (fun hc3 => ?_)
  · have h := ite_t hc3 h
    refine r_iconst hX dX7_filter_19 (v := (-1)) (by decide) ?_
    exact r_iret hX hQ (pr1 h) (pr2 h) dX7_filter_20
  · have h := ite_f hc3 h
    refine r_aload_n hX dX7_filter_8 0 rfl ?_
    refine r_get hX 0 0 kyC0 rfl rfl inlX7 0 (by decide) tw1_179 (v := .ref (ad 1 0)) rfl dX7_filter_9 ?_
    refine r_iload_n hX dX7_filter_12 2 rfl ?_
    obtain ⟨r5, hq4, h⟩ := bind_ex h
    refine r_callV hX 1 0 (As := [.int a2]) (rest := []) (st' := [.int r5]) (res := (some (.int r5))) (μ' := μ) (mX1_hasHook a2 hq4) ckV_X7_67 ⟨rfl, rfl, by decide, by decide⟩ kyC1 rfl rfl rfl rfl (Nat.le_of_ble_eq_true rfl) dX7_filter_13 rfl ?_
    refine r_if_ne hX (tgt := 21) dX7_filter_16 (by decide) (fun hc6 => ?_) (fun hc6 => ?_)
    · have h := ite_f hc6 h
      refine r_aload_n hX dX7_filter_21 0 rfl ?_
      refine r_get hX 0 0 kyC0 rfl rfl inlX7 0 (by decide) tw1_179 (v := .ref (ad 1 0)) rfl dX7_filter_22 ?_
      refine r_iload_n hX dX7_filter_25 2 rfl ?_
      obtain ⟨r8, hq7, h⟩ := bind_ex h
      refine r_callV hX 1 0 (As := [.int a2]) (rest := []) (st' := [.int r8]) (res := (some (.int r8))) (μ' := μ) (mX1_kindOf a2 hq7) ckV_X7_90 ⟨rfl, rfl, by decide, by decide⟩ kyC1 rfl rfl rfl rfl (Nat.le_of_ble_eq_true rfl) dX7_filter_26 rfl ?_
      refine r_iconst hX dX7_filter_29 (v := 3) (by decide) ?_
      refine r_icmp_eq hX (tgt := 36) dX7_filter_30 (by decide) (fun hc9 => ?_) (fun hc9 => ?_)
      · have h := ite_t hc9 h
        refine r_aload_n hX dX7_filter_36 0 rfl ?_
        refine r_get hX 0 0 kyC0 rfl rfl inlX7 1 (by decide) tw1_180 (v := .ref (ad 12 0)) rfl dX7_filter_37 ?_
        refine r_iload_n hX dX7_filter_40 1 rfl ?_
        obtain ⟨hb10, h⟩ := ite_some h
        refine r_aald hX 12 0 kyC12 rfl (t0 := 2) rfl hb10 (a := ad 13 a1.toNatClampNeg) rfl dX7_filter_41 ?_
        refine r_astore_n hX dX7_filter_42 (lv' := [(3, .ref (ad 13 a1.toNatClampNeg)), (0, .ref (ad 0 0)), (1, .int a1), (2, .int a2)]) (by decide) rfl ?_
        refine r_aload_n hX dX7_filter_43 1 rfl ?_
        refine r_get hX 0 0 kyC0 rfl rfl inlX7 0 (by decide) tw1_179 (v := .ref (ad 1 0)) rfl dX7_filter_44 ?_
        obtain ⟨μ12, hq11, h⟩ := bind_ex h
        refine r_callV hX 1 0 (As := []) (rest := []) (st' := []) (res := none) (μ' := μ12) (mX1_beginAct  hq11) ckV_X7_118 ⟨rfl, rfl, by decide, by decide⟩ kyC1 rfl rfl rfl rfl (Nat.le_of_ble_eq_true rfl) dX7_filter_47 rfl ?_
        refine r_aload_n hX dX7_filter_50 1 rfl ?_
        refine r_aload_n hX dX7_filter_51 0 rfl ?_
        refine r_getN hX 13 a1.toNatClampNeg (kyC13 (inb_lt hb10)) rfl rfl inlX6 0 (by decide) tn_24 (v := .ref (ad 14 a1.toNatClampNeg)) rfl dX7_filter_52 ?_
        refine r_iload_n hX dX7_filter_55 3 rfl ?_
        obtain ⟨q14, hq13, h⟩ := bind_ex h
        refine r_callV hX 0 0 (As := [.ref (ad 14 a1.toNatClampNeg), .int a2]) (rest := []) (st' := [.int q14.1]) (res := (some (.int q14.1))) (μ' := q14.2) (mX7_judgeOntoDraft a1.toNatClampNeg (lt68 (inb_lt hb10)) a2 hq13) ckV_X7_155 ⟨rfl, rfl, by decide, by decide⟩ kyC0 rfl rfl rfl rfl (Nat.le_of_ble_eq_true rfl) dX7_filter_56 rfl ?_
        refine r_istore hX dX7_filter_59 (lv' := [(4, .int q14.1), (3, .ref (ad 13 a1.toNatClampNeg)), (0, .ref (ad 0 0)), (1, .int a1), (2, .int a2)]) (by decide) rfl ?_
        refine r_aload_n hX dX7_filter_61 1 rfl ?_
        refine r_getN hX 13 a1.toNatClampNeg (kyC13 (inb_lt hb10)) rfl rfl inlX6 1 (by decide) tn_25 (v := .int (q14.2 13 a1.toNatClampNeg 1)) rfl dX7_filter_62 ?_
        refine r_iconst hX dX7_filter_65 (v := 2) (by decide) ?_
        refine r_icmp_ne hX (tgt := 115) dX7_filter_66 (by decide) (fun hc15 => ?_) (fun hc15 => ?_)
        · have h := ite_f hc15 h
          refine r_aload_n hX dX7_filter_115 1 rfl ?_
          refine r_getN hX 13 a1.toNatClampNeg (kyC13 (inb_lt hb10)) rfl rfl inlX6 0 (by decide) tn_24 (v := .ref (ad 14 a1.toNatClampNeg)) rfl dX7_filter_116 ?_
          refine r_aload_n hX dX7_filter_119 2 rfl ?_
          refine r_get hX 0 0 kyC0 rfl rfl inlX7 3 (by decide) tw1_182 (v := .ref (ad 14 6)) rfl dX7_filter_120 ?_
          obtain ⟨μ17, hq16, h⟩ := bind_ex h
          refine r_callV hX 14 a1.toNatClampNeg (As := [.ref (ad 14 6)]) (rest := []) (st' := []) (res := none) (μ' := μ17) (mX5_copy a1.toNatClampNeg (lt68 (inb_lt hb10)) 6 (by decide) hq16) ckV_X7_121 ⟨rfl, rfl, by decide, by decide⟩ (kyC14 (lt68 (inb_lt hb10))) rfl rfl rfl rfl (Nat.le_of_ble_eq_true rfl) dX7_filter_123 rfl ?_
          refine r_iload hX dX7_filter_126 0 rfl ?_
          refine r_if_eq hX (tgt := 135) dX7_filter_128 (by decide) (fun hc18 => ?_) (fun hc18 => ?_)
          · have h := ite_t hc18 h
            refine r_iconst hX dX7_filter_135 (v := 2) (by decide) ?_
            exact r_iret hX hQ (pr1 h) (pr2 h) dX7_filter_136
          · have h := ite_f hc18 h
            refine r_iconst hX dX7_filter_131 (v := 0) (by decide) ?_
            refine r_goto hX (tgt := 136) dX7_filter_132 (by decide) ?_
            exact r_iret hX hQ (pr1 h) (pr2 h) dX7_filter_136
        · have h := ite_t hc15 h
          refine r_aload_n hX dX7_filter_69 2 rfl ?_
          refine r_get hX 0 0 kyC0 rfl rfl inlX7 4 (by decide) tw1_183 (v := .ref (ad 14 7)) rfl dX7_filter_70 ?_
          refine r_aload_n hX dX7_filter_73 2 rfl ?_
          refine r_get hX 0 0 kyC0 rfl rfl inlX7 3 (by decide) tw1_182 (v := .ref (ad 14 6)) rfl dX7_filter_74 ?_
          obtain ⟨μ20, hq19, h⟩ := bind_ex h
          refine r_callV hX 14 7 (As := [.ref (ad 14 6)]) (rest := []) (st' := []) (res := none) (μ' := μ20) (mX5_copy 7 (by decide) 6 (by decide) hq19) ckV_X7_121 ⟨rfl, rfl, by decide, by decide⟩ (kyC14 (by decide)) rfl rfl rfl rfl (Nat.le_of_ble_eq_true rfl) dX7_filter_77 rfl ?_
          refine r_aload_n hX dX7_filter_80 2 rfl ?_
          refine r_get hX 0 0 kyC0 rfl rfl inlX7 3 (by decide) tw1_182 (v := .ref (ad 14 6)) rfl dX7_filter_81 ?_
          obtain ⟨μ22, hq21, h⟩ := bind_ex h
          refine r_callV hX 14 6 (As := []) (rest := []) (st' := []) (res := none) (μ' := μ22) (mX5_clear 6 (by decide) hq21) ckV_X7_159 ⟨rfl, rfl, by decide, by decide⟩ (kyC14 (by decide)) rfl rfl rfl rfl (Nat.le_of_ble_eq_true rfl) dX7_filter_84 rfl ?_
          refine r_aload_n hX dX7_filter_87 2 rfl ?_
          refine r_aload_n hX dX7_filter_88 1 rfl ?_
          refine r_iload hX dX7_filter_89 0 rfl ?_
          refine r_if_eq hX (tgt := 110) dX7_filter_91 (by decide) (fun hc23 => ?_) (fun hc23 => ?_)
          · have h := ite_t hc23 h
            refine r_iconst hX dX7_filter_110 (v := 0) (by decide) ?_
            obtain ⟨q25, hq24, h⟩ := bind_ex h
            refine r_callV hX 0 0 (As := [.ref (ad 13 a1.toNatClampNeg), .int 0]) (rest := []) (st' := [.int q25.1]) (res := (some (.int q25.1))) (μ' := q25.2) (mX7_keepDraft a1.toNatClampNeg (inb_lt hb10) 0 hq24) ckV_X7_129 ⟨rfl, rfl, by decide, by decide⟩ kyC0 rfl rfl rfl rfl (Nat.le_of_ble_eq_true rfl) dX7_filter_111 rfl ?_
            exact r_iret hX hQ (pr1 h) (pr2 h) dX7_filter_114
          · have h := ite_f hc23 h
            refine r_aload_n hX dX7_filter_94 2 rfl ?_
            refine r_aload_n hX dX7_filter_95 1 rfl ?_
            refine r_aload_n hX dX7_filter_96 2 rfl ?_
            refine r_get hX 0 0 kyC0 rfl rfl inlX7 4 (by decide) tw1_183 (v := .ref (ad 14 7)) rfl dX7_filter_97 ?_
            obtain ⟨q27, hq26, h⟩ := bind_ex h
            refine r_callV hX 0 0 (As := [.ref (ad 13 a1.toNatClampNeg), .ref (ad 14 7)]) (rest := [.ref (ad 13 a1.toNatClampNeg), .ref (ad 0 0)]) (st' := [.int q27.1, .ref (ad 13 a1.toNatClampNeg), .ref (ad 0 0)]) (res := (some (.int q27.1))) (μ' := q27.2) (mX7_placeAllOnDraft a1.toNatClampNeg (inb_lt hb10) 7 (by decide) hq26) ckV_X7_161 ⟨rfl, rfl, by decide, by decide⟩ kyC0 rfl rfl rfl rfl (Nat.le_of_ble_eq_true rfl) dX7_filter_100 rfl ?_
            refine r_if_eq hX (tgt := 110) dX7_filter_103 (by decide) (fun hc28 => ?_) (fun hc28 => ?_)
            · have h := ite_t hc28 h
              refine r_iconst hX dX7_filter_110 (v := 0) (by decide) ?_
              obtain ⟨q30, hq29, h⟩ := bind_ex h
              refine r_callV hX 0 0 (As := [.ref (ad 13 a1.toNatClampNeg), .int 0]) (rest := []) (st' := [.int q30.1]) (res := (some (.int q30.1))) (μ' := q30.2) (mX7_keepDraft a1.toNatClampNeg (inb_lt hb10) 0 hq29) ckV_X7_129 ⟨rfl, rfl, by decide, by decide⟩ kyC0 rfl rfl rfl rfl (Nat.le_of_ble_eq_true rfl) dX7_filter_111 rfl ?_
              exact r_iret hX hQ (pr1 h) (pr2 h) dX7_filter_114
            · have h := ite_f hc28 h
              refine r_iconst hX dX7_filter_106 (v := 1) (by decide) ?_
              refine r_goto hX (tgt := 111) dX7_filter_107 (by decide) ?_
              obtain ⟨q32, hq31, h⟩ := bind_ex h
              refine r_callV hX 0 0 (As := [.ref (ad 13 a1.toNatClampNeg), .int 1]) (rest := []) (st' := [.int q32.1]) (res := (some (.int q32.1))) (μ' := q32.2) (mX7_keepDraft a1.toNatClampNeg (inb_lt hb10) 1 hq31) ckV_X7_129 ⟨rfl, rfl, by decide, by decide⟩ kyC0 rfl rfl rfl rfl (Nat.le_of_ble_eq_true rfl) dX7_filter_111 rfl ?_
              exact r_iret hX hQ (pr1 h) (pr2 h) dX7_filter_114
      · have h := ite_f hc9 h
        refine r_bipush hX dX7_filter_33 (v := (-2)) (by decide) ?_
        exact r_iret hX hQ (pr1 h) (pr2 h) dX7_filter_35
    · have h := ite_t hc6 h
      refine r_iconst hX dX7_filter_19 (v := (-1)) (by decide) ?_
      exact r_iret hX hQ (pr1 h) (pr2 h) dX7_filter_20
abbrev rmX7_change : Room := { frames := 4, cells := 0, slots := 0, locals := 96 }
noncomputable def jX7_change (μ : Mu) (a1 : Int32) (a2 : Int32) : Option (Int32 × Mu) := (jX7_hasTray μ a1).bind (fun r2 => if r2 = 0 then some ((-1), μ) else (jX1_hasHook μ a2).bind (fun r5 => if r5 = 0 then some ((-1), μ) else if inb a1 6 = true then if (μ 13 a1.toNatClampNeg 1) = 0 then (jX1_kindOf μ a2).bind (fun r10 => if r10 = 4 then if ((μ 2 0 2) + (μ 14 a1.toNatClampNeg 1)) ≤ 120 then (jX1_beginAct μ).bind (fun μ14 => (jX7_changeCards μ14 a1.toNatClampNeg a2).bind (fun q16 => if q16.1 = 0 then some (2, q16.2) else some (0, q16.2))) else some ((-3), μ) else some ((-2), μ)) else some ((-2), μ) else none))
set_option maxHeartbeats 4000000 in
set_option maxRecDepth 100000 in
theorem mX7_change {l : Launch} {D : va_G} {cI cH cT : ClassId} {ad : Nat → Nat → Nat} {Z : va_W} {μ : Mu} {r : Int32} {μ' : Mu} (a1 : Int32) (a2 : Int32) (h : jX7_change μ a1 a2 = some (r, μ')) : CT (gC l D cI cH cT ad Z) yX7_change (.code yX7_change cX7_change 4 (some .int) :: wsL_law) rmX7_change [.ref (ad 0 0), .int a1, .int a2] μ (some (.int r)) μ' := by
  refine ct_of (own := RX7) (by decide) ⟨rfl, rfl⟩ (Nat.le_of_ble_eq_true rfl) rfl (fun X hX hQ => ?_)
  have hX : HX (gC l D cI cH cT ad Z) X cX7_change 4 RX7 rmX7_change (some .int) := hX
  show V (gC l D cI cH cT ad Z) X 4 μ 0 [(0, .ref (ad 0 0)), (1, .int a1), (2, .int a2)] []
  unfold jX7_change at h
  refine r_aload_n hX dX7_change_0 0 rfl ?_
  refine r_iload_n hX dX7_change_1 1 rfl ?_
  obtain ⟨r2, hq1, h⟩ := bind_ex h
  refine r_callV hX 0 0 (As := [.int a1]) (rest := []) (st' := [.int r2]) (res := (some (.int r2))) (μ' := μ) (mX7_hasTray a1 hq1) ckV_X7_109 ⟨rfl, rfl, by decide, by decide⟩ kyC0 rfl rfl rfl rfl (Nat.le_of_ble_eq_true rfl) dX7_change_2 rfl ?_
  refine r_if_eq hX (tgt := 19) dX7_change_5 (by decide) (fun hc3 => ?_) (fun hc3 => ?_)
  · have h := ite_t hc3 h
    refine r_iconst hX dX7_change_19 (v := (-1)) (by decide) ?_
    exact r_iret hX hQ (pr1 h) (pr2 h) dX7_change_20
  · have h := ite_f hc3 h
    refine r_aload_n hX dX7_change_8 0 rfl ?_
    refine r_get hX 0 0 kyC0 rfl rfl inlX7 0 (by decide) tw1_179 (v := .ref (ad 1 0)) rfl dX7_change_9 ?_
    refine r_iload_n hX dX7_change_12 2 rfl ?_
    obtain ⟨r5, hq4, h⟩ := bind_ex h
    refine r_callV hX 1 0 (As := [.int a2]) (rest := []) (st' := [.int r5]) (res := (some (.int r5))) (μ' := μ) (mX1_hasHook a2 hq4) ckV_X7_67 ⟨rfl, rfl, by decide, by decide⟩ kyC1 rfl rfl rfl rfl (Nat.le_of_ble_eq_true rfl) dX7_change_13 rfl ?_
    refine r_if_ne hX (tgt := 21) dX7_change_16 (by decide) (fun hc6 => ?_) (fun hc6 => ?_)
    · have h := ite_f hc6 h
      refine r_aload_n hX dX7_change_21 0 rfl ?_
      refine r_get hX 0 0 kyC0 rfl rfl inlX7 1 (by decide) tw1_180 (v := .ref (ad 12 0)) rfl dX7_change_22 ?_
      refine r_iload_n hX dX7_change_25 1 rfl ?_
      obtain ⟨hb7, h⟩ := ite_some h
      refine r_aald hX 12 0 kyC12 rfl (t0 := 2) rfl hb7 (a := ad 13 a1.toNatClampNeg) rfl dX7_change_26 ?_
      refine r_astore_n hX dX7_change_27 (lv' := [(3, .ref (ad 13 a1.toNatClampNeg)), (0, .ref (ad 0 0)), (1, .int a1), (2, .int a2)]) (by decide) rfl ?_
      refine r_aload_n hX dX7_change_28 0 rfl ?_
      refine r_getN hX 13 a1.toNatClampNeg (kyC13 (inb_lt hb7)) rfl rfl inlX6 1 (by decide) tn_25 (v := .int (μ 13 a1.toNatClampNeg 1)) rfl dX7_change_29 ?_
      refine r_if_ne hX (tgt := 47) dX7_change_32 (by decide) (fun hc8 => ?_) (fun hc8 => ?_)
      · have h := ite_f hc8 h
        refine r_bipush hX dX7_change_47 (v := (-2)) (by decide) ?_
        exact r_iret hX hQ (pr1 h) (pr2 h) dX7_change_49
      · have h := ite_t hc8 h
        refine r_aload_n hX dX7_change_35 1 rfl ?_
        refine r_get hX 0 0 kyC0 rfl rfl inlX7 0 (by decide) tw1_179 (v := .ref (ad 1 0)) rfl dX7_change_36 ?_
        refine r_iload_n hX dX7_change_39 3 rfl ?_
        obtain ⟨r10, hq9, h⟩ := bind_ex h
        refine r_callV hX 1 0 (As := [.int a2]) (rest := []) (st' := [.int r10]) (res := (some (.int r10))) (μ' := μ) (mX1_kindOf a2 hq9) ckV_X7_90 ⟨rfl, rfl, by decide, by decide⟩ kyC1 rfl rfl rfl rfl (Nat.le_of_ble_eq_true rfl) dX7_change_40 rfl ?_
        refine r_iconst hX dX7_change_43 (v := 4) (by decide) ?_
        refine r_icmp_eq hX (tgt := 50) dX7_change_44 (by decide) (fun hc11 => ?_) (fun hc11 => ?_)
        · have h := ite_t hc11 h
          refine r_aload_n hX dX7_change_50 1 rfl ?_
          refine r_get hX 0 0 kyC0 rfl rfl inlX7 0 (by decide) tw1_179 (v := .ref (ad 1 0)) rfl dX7_change_51 ?_
          refine r_getN hX 1 0 kyC1 rfl rfl inlX1 0 (by decide) tn_17 (v := .ref (ad 2 0)) rfl dX7_change_54 ?_
          refine r_getN hX 2 0 kyC2 rfl rfl inlX0 2 (by decide) tn_1 (v := .int (μ 2 0 2)) rfl dX7_change_57 ?_
          refine r_aload_n hX dX7_change_60 0 rfl ?_
          refine r_getN hX 13 a1.toNatClampNeg (kyC13 (inb_lt hb7)) rfl rfl inlX6 0 (by decide) tn_24 (v := .ref (ad 14 a1.toNatClampNeg)) rfl dX7_change_61 ?_
          refine r_getN hX 14 a1.toNatClampNeg (kyC14 (lt68 (inb_lt hb7))) rfl rfl inlX5 1 (by decide) tn_23 (v := .int (μ 14 a1.toNatClampNeg 1)) rfl dX7_change_64 ?_
          refine r_iadd hX dX7_change_67 ?_
          refine r_bipush hX dX7_change_68 (v := 120) (by decide) ?_
          refine r_icmp_le hX (tgt := 76) dX7_change_70 (by decide) (fun hc12 => ?_) (fun hc12 => ?_)
          · have h := ite_t hc12 h
            refine r_aload_n hX dX7_change_76 1 rfl ?_
            refine r_get hX 0 0 kyC0 rfl rfl inlX7 0 (by decide) tw1_179 (v := .ref (ad 1 0)) rfl dX7_change_77 ?_
            obtain ⟨μ14, hq13, h⟩ := bind_ex h
            refine r_callV hX 1 0 (As := []) (rest := []) (st' := []) (res := none) (μ' := μ14) (mX1_beginAct  hq13) ckV_X7_118 ⟨rfl, rfl, by decide, by decide⟩ kyC1 rfl rfl rfl rfl (Nat.le_of_ble_eq_true rfl) dX7_change_80 rfl ?_
            refine r_aload_n hX dX7_change_83 1 rfl ?_
            refine r_aload_n hX dX7_change_84 0 rfl ?_
            refine r_getN hX 13 a1.toNatClampNeg (kyC13 (inb_lt hb7)) rfl rfl inlX6 0 (by decide) tn_24 (v := .ref (ad 14 a1.toNatClampNeg)) rfl dX7_change_85 ?_
            refine r_iload_n hX dX7_change_88 3 rfl ?_
            obtain ⟨q16, hq15, h⟩ := bind_ex h
            refine r_callV hX 0 0 (As := [.ref (ad 14 a1.toNatClampNeg), .int a2]) (rest := []) (st' := [.int q16.1]) (res := (some (.int q16.1))) (μ' := q16.2) (mX7_changeCards a1.toNatClampNeg (lt68 (inb_lt hb7)) a2 hq15) ckV_X7_166 ⟨rfl, rfl, by decide, by decide⟩ kyC0 rfl rfl rfl rfl (Nat.le_of_ble_eq_true rfl) dX7_change_89 rfl ?_
            refine r_if_eq hX (tgt := 99) dX7_change_92 (by decide) (fun hc17 => ?_) (fun hc17 => ?_)
            · have h := ite_t hc17 h
              refine r_iconst hX dX7_change_99 (v := 2) (by decide) ?_
              exact r_iret hX hQ (pr1 h) (pr2 h) dX7_change_100
            · have h := ite_f hc17 h
              refine r_iconst hX dX7_change_95 (v := 0) (by decide) ?_
              refine r_goto hX (tgt := 100) dX7_change_96 (by decide) ?_
              exact r_iret hX hQ (pr1 h) (pr2 h) dX7_change_100
          · have h := ite_f hc12 h
            refine r_bipush hX dX7_change_73 (v := (-3)) (by decide) ?_
            exact r_iret hX hQ (pr1 h) (pr2 h) dX7_change_75
        · have h := ite_f hc11 h
          refine r_bipush hX dX7_change_47 (v := (-2)) (by decide) ?_
          exact r_iret hX hQ (pr1 h) (pr2 h) dX7_change_49
    · have h := ite_t hc6 h
      refine r_iconst hX dX7_change_19 (v := (-1)) (by decide) ?_
      exact r_iret hX hQ (pr1 h) (pr2 h) dX7_change_20
abbrev rmX7_all : Room := { frames := 6, cells := 0, slots := 0, locals := 145 }
noncomputable def jX7_all (μ : Mu) (a1 : Int32) (a2 : Int32) : Option (Int32 × Mu) := (jX7_hasTray μ a1).bind (fun r2 => if r2 = 0 then some ((-1), μ) else (jX7_hasTray μ a2).bind (fun r5 => if r5 = 0 then some ((-1), μ) else if a1 = a2 then some ((-1), μ) else if inb a1 6 = true then if inb a2 6 = true then if (μ 13 a1.toNatClampNeg 1) = (μ 13 a2.toNatClampNeg 1) then if (μ 13 a1.toNatClampNeg 2) = (μ 13 a2.toNatClampNeg 2) then if ((μ 14 a1.toNatClampNeg 1) + (μ 14 a2.toNatClampNeg 1)) ≤ 40 then (jX1_beginAct μ).bind (fun μ14 => (jX5_copy μ14 6 a2.toNatClampNeg).bind (fun μ16 => if (μ16 13 a2.toNatClampNeg 1) = 1 then (jX7_mergeIntoDraft μ16 a1.toNatClampNeg (μ16 13 a2.toNatClampNeg 2)).bind (fun q26 => (jX7_keepDraft q26.2 a2.toNatClampNeg q26.1).bind (fun q28 => if q28.1 = 0 then (jX5_clear q28.2 a1.toNatClampNeg).bind (fun μ31 => some (q28.1, μ31)) else some (q28.1, q28.2))) else (jX7_placeAllOnDraft μ16 a2.toNatClampNeg a1.toNatClampNeg).bind (fun q19 => (jX7_keepDraft q19.2 a2.toNatClampNeg q19.1).bind (fun q21 => if q21.1 = 0 then (jX5_clear q21.2 a1.toNatClampNeg).bind (fun μ24 => some (q21.1, μ24)) else some (q21.1, q21.2))))) else some ((-3), μ) else some ((-2), μ) else some ((-2), μ) else none else none))
set_option maxHeartbeats 4000000 in
set_option maxRecDepth 100000 in
theorem mX7_all {l : Launch} {D : va_G} {cI cH cT : ClassId} {ad : Nat → Nat → Nat} {Z : va_W} {μ : Mu} {r : Int32} {μ' : Mu} (a1 : Int32) (a2 : Int32) (h : jX7_all μ a1 a2 = some (r, μ')) : CT (gC l D cI cH cT ad Z) yX7_all (.code yX7_all cX7_all 7 (some .int) :: wsL_law) rmX7_all [.ref (ad 0 0), .int a1, .int a2] μ (some (.int r)) μ' := by
  refine ct_of (own := RX7) (by decide) ⟨rfl, rfl⟩ (Nat.le_of_ble_eq_true rfl) rfl (fun X hX hQ => ?_)
  have hX : HX (gC l D cI cH cT ad Z) X cX7_all 7 RX7 rmX7_all (some .int) := hX
  show V (gC l D cI cH cT ad Z) X 7 μ 0 [(0, .ref (ad 0 0)), (1, .int a1), (2, .int a2)] []
  unfold jX7_all at h
  refine r_aload_n hX dX7_all_0 0 rfl ?_
  refine r_iload_n hX dX7_all_1 1 rfl ?_
  obtain ⟨r2, hq1, h⟩ := bind_ex h
  refine r_callV hX 0 0 (As := [.int a1]) (rest := []) (st' := [.int r2]) (res := (some (.int r2))) (μ' := μ) (mX7_hasTray a1 hq1) ckV_X7_109 ⟨rfl, rfl, by decide, by decide⟩ kyC0 rfl rfl rfl rfl (Nat.le_of_ble_eq_true rfl) dX7_all_2 rfl ?_
  refine r_if_eq hX (tgt := 21) dX7_all_5 (by decide) (fun hc3 => ?_) (fun hc3 => ?_)
  · have h := ite_t hc3 h
    refine r_iconst hX dX7_all_21 (v := (-1)) (by decide) ?_
    exact r_iret hX hQ (pr1 h) (pr2 h) dX7_all_22
  · have h := ite_f hc3 h
    refine r_aload_n hX dX7_all_8 0 rfl ?_
    refine r_iload_n hX dX7_all_9 2 rfl ?_
    obtain ⟨r5, hq4, h⟩ := bind_ex h
    refine r_callV hX 0 0 (As := [.int a2]) (rest := []) (st' := [.int r5]) (res := (some (.int r5))) (μ' := μ) (mX7_hasTray a2 hq4) ckV_X7_109 ⟨rfl, rfl, by decide, by decide⟩ kyC0 rfl rfl rfl rfl (Nat.le_of_ble_eq_true rfl) dX7_all_10 rfl ?_
    refine r_if_eq hX (tgt := 21) dX7_all_13 (by decide) (fun hc6 => ?_) (fun hc6 => ?_)
    · have h := ite_t hc6 h
      refine r_iconst hX dX7_all_21 (v := (-1)) (by decide) ?_
      exact r_iret hX hQ (pr1 h) (pr2 h) dX7_all_22
    · have h := ite_f hc6 h
      refine r_iload_n hX dX7_all_16 1 rfl ?_
      refine r_iload_n hX dX7_all_17 2 rfl ?_
      refine r_icmp_ne hX (tgt := 23) dX7_all_18 (by decide) (fun hc7 => ?_) (fun hc7 => ?_)
      · have h := ite_f hc7 h
        refine r_aload_n hX dX7_all_23 0 rfl ?_
        refine r_get hX 0 0 kyC0 rfl rfl inlX7 1 (by decide) tw1_180 (v := .ref (ad 12 0)) rfl dX7_all_24 ?_
        refine r_iload_n hX dX7_all_27 1 rfl ?_
        obtain ⟨hb8, h⟩ := ite_some h
        refine r_aald hX 12 0 kyC12 rfl (t0 := 2) rfl hb8 (a := ad 13 a1.toNatClampNeg) rfl dX7_all_28 ?_
        refine r_astore_n hX dX7_all_29 (lv' := [(3, .ref (ad 13 a1.toNatClampNeg)), (0, .ref (ad 0 0)), (1, .int a1), (2, .int a2)]) (by decide) rfl ?_
        refine r_aload_n hX dX7_all_30 1 rfl ?_
        refine r_get hX 0 0 kyC0 rfl rfl inlX7 1 (by decide) tw1_180 (v := .ref (ad 12 0)) rfl dX7_all_31 ?_
        refine r_iload_n hX dX7_all_34 3 rfl ?_
        obtain ⟨hb9, h⟩ := ite_some h
        refine r_aald hX 12 0 kyC12 rfl (t0 := 2) rfl hb9 (a := ad 13 a2.toNatClampNeg) rfl dX7_all_35 ?_
        refine r_astore hX dX7_all_36 (lv' := [(4, .ref (ad 13 a2.toNatClampNeg)), (3, .ref (ad 13 a1.toNatClampNeg)), (0, .ref (ad 0 0)), (1, .int a1), (2, .int a2)]) (by decide) rfl ?_
        refine r_aload_n hX dX7_all_38 1 rfl ?_
        refine r_getN hX 13 a1.toNatClampNeg (kyC13 (inb_lt hb8)) rfl rfl inlX6 1 (by decide) tn_25 (v := .int (μ 13 a1.toNatClampNeg 1)) rfl dX7_all_39 ?_
        refine r_aload hX dX7_all_42 0 rfl ?_
        refine r_getN hX 13 a2.toNatClampNeg (kyC13 (inb_lt hb9)) rfl rfl inlX6 1 (by decide) tn_25 (v := .int (μ 13 a2.toNatClampNeg 1)) rfl dX7_all_44 ?_
        refine r_icmp_ne hX (tgt := 62) dX7_all_47 (by decide) (fun hc10 => ?_) (fun hc10 => ?_)
        · have h := ite_f hc10 h
          refine r_bipush hX dX7_all_62 (v := (-2)) (by decide) ?_
          exact r_iret hX hQ (pr1 h) (pr2 h) dX7_all_64
        · have h := ite_t hc10 h
          refine r_aload_n hX dX7_all_50 1 rfl ?_
          refine r_getN hX 13 a1.toNatClampNeg (kyC13 (inb_lt hb8)) rfl rfl inlX6 2 (by decide) tn_26 (v := .int (μ 13 a1.toNatClampNeg 2)) rfl dX7_all_51 ?_
          refine r_aload hX dX7_all_54 0 rfl ?_
          refine r_getN hX 13 a2.toNatClampNeg (kyC13 (inb_lt hb9)) rfl rfl inlX6 2 (by decide) tn_26 (v := .int (μ 13 a2.toNatClampNeg 2)) rfl dX7_all_56 ?_
          refine r_icmp_eq hX (tgt := 65) dX7_all_59 (by decide) (fun hc11 => ?_) (fun hc11 => ?_)
          · have h := ite_t hc11 h
            refine r_aload_n hX dX7_all_65 1 rfl ?_
            refine r_getN hX 13 a1.toNatClampNeg (kyC13 (inb_lt hb8)) rfl rfl inlX6 0 (by decide) tn_24 (v := .ref (ad 14 a1.toNatClampNeg)) rfl dX7_all_66 ?_
            refine r_getN hX 14 a1.toNatClampNeg (kyC14 (lt68 (inb_lt hb8))) rfl rfl inlX5 1 (by decide) tn_23 (v := .int (μ 14 a1.toNatClampNeg 1)) rfl dX7_all_69 ?_
            refine r_aload hX dX7_all_72 0 rfl ?_
            refine r_getN hX 13 a2.toNatClampNeg (kyC13 (inb_lt hb9)) rfl rfl inlX6 0 (by decide) tn_24 (v := .ref (ad 14 a2.toNatClampNeg)) rfl dX7_all_74 ?_
            refine r_getN hX 14 a2.toNatClampNeg (kyC14 (lt68 (inb_lt hb9))) rfl rfl inlX5 1 (by decide) tn_23 (v := .int (μ 14 a2.toNatClampNeg 1)) rfl dX7_all_77 ?_
            refine r_iadd hX dX7_all_80 ?_
            refine r_bipush hX dX7_all_81 (v := 40) (by decide) ?_
            refine r_icmp_le hX (tgt := 89) dX7_all_83 (by decide) (fun hc12 => ?_) (fun hc12 => ?_)
            · have h := ite_t hc12 h
              refine r_aload_n hX dX7_all_89 2 rfl ?_
              refine r_get hX 0 0 kyC0 rfl rfl inlX7 0 (by decide) tw1_179 (v := .ref (ad 1 0)) rfl dX7_all_90 ?_
              obtain ⟨μ14, hq13, h⟩ := bind_ex h
              refine r_callV hX 1 0 (As := []) (rest := []) (st' := []) (res := none) (μ' := μ14) (mX1_beginAct  hq13) ckV_X7_118 ⟨rfl, rfl, by decide, by decide⟩ kyC1 rfl rfl rfl rfl (Nat.le_of_ble_eq_true rfl) dX7_all_93 rfl ?_
              refine r_aload_n hX dX7_all_96 2 rfl ?_
              refine r_get hX 0 0 kyC0 rfl rfl inlX7 3 (by decide) tw1_182 (v := .ref (ad 14 6)) rfl dX7_all_97 ?_
              refine r_aload hX dX7_all_100 0 rfl ?_
              refine r_getN hX 13 a2.toNatClampNeg (kyC13 (inb_lt hb9)) rfl rfl inlX6 0 (by decide) tn_24 (v := .ref (ad 14 a2.toNatClampNeg)) rfl dX7_all_102 ?_
              obtain ⟨μ16, hq15, h⟩ := bind_ex h
              refine r_callV hX 14 6 (As := [.ref (ad 14 a2.toNatClampNeg)]) (rest := []) (st' := []) (res := none) (μ' := μ16) (mX5_copy 6 (by decide) a2.toNatClampNeg (lt68 (inb_lt hb9)) hq15) ckV_X7_121 ⟨rfl, rfl, by decide, by decide⟩ (kyC14 (by decide)) rfl rfl rfl rfl (Nat.le_of_ble_eq_true rfl) dX7_all_105 rfl ?_
              refine r_aload hX dX7_all_108 0 rfl ?_
              refine r_getN hX 13 a2.toNatClampNeg (kyC13 (inb_lt hb9)) rfl rfl inlX6 1 (by decide) tn_25 (v := .int (μ16 13 a2.toNatClampNeg 1)) rfl dX7_all_110 ?_
              refine r_iconst hX dX7_all_113 (v := 1) (by decide) ?_
              refine r_icmp_ne hX (tgt := 133) dX7_all_114 (by decide) (fun hc17 => ?_) (fun hc17 => ?_)
              · have h := ite_f hc17 h
                refine r_aload_n hX dX7_all_133 2 rfl ?_
                refine r_aload hX dX7_all_134 0 rfl ?_
                refine r_aload_n hX dX7_all_136 1 rfl ?_
                refine r_getN hX 13 a1.toNatClampNeg (kyC13 (inb_lt hb8)) rfl rfl inlX6 0 (by decide) tn_24 (v := .ref (ad 14 a1.toNatClampNeg)) rfl dX7_all_137 ?_
                obtain ⟨q19, hq18, h⟩ := bind_ex h
                refine r_callV hX 0 0 (As := [.ref (ad 13 a2.toNatClampNeg), .ref (ad 14 a1.toNatClampNeg)]) (rest := []) (st' := [.int q19.1]) (res := (some (.int q19.1))) (μ' := q19.2) (mX7_placeAllOnDraft a2.toNatClampNeg (inb_lt hb9) a1.toNatClampNeg (lt68 (inb_lt hb8)) hq18) ckV_X7_161 ⟨rfl, rfl, by decide, by decide⟩ kyC0 rfl rfl rfl rfl (Nat.le_of_ble_eq_true rfl) dX7_all_140 rfl ?_
                refine r_istore hX dX7_all_143 (lv' := [(5, .int q19.1), (4, .ref (ad 13 a2.toNatClampNeg)), (3, .ref (ad 13 a1.toNatClampNeg)), (0, .ref (ad 0 0)), (1, .int a1), (2, .int a2)]) (by decide) rfl ?_
                refine r_aload_n hX dX7_all_145 3 rfl ?_
                refine r_aload hX dX7_all_146 1 rfl ?_
                refine r_iload hX dX7_all_148 0 rfl ?_
                obtain ⟨q21, hq20, h⟩ := bind_ex h
                refine r_callV hX 0 0 (As := [.ref (ad 13 a2.toNatClampNeg), .int q19.1]) (rest := []) (st' := [.int q21.1]) (res := (some (.int q21.1))) (μ' := q21.2) (mX7_keepDraft a2.toNatClampNeg (inb_lt hb9) q19.1 hq20) ckV_X7_129 ⟨rfl, rfl, by decide, by decide⟩ kyC0 rfl rfl rfl rfl (Nat.le_of_ble_eq_true rfl) dX7_all_150 rfl ?_
                refine r_istore hX dX7_all_153 (lv' := [(6, .int q21.1), (5, .int q19.1), (4, .ref (ad 13 a2.toNatClampNeg)), (3, .ref (ad 13 a1.toNatClampNeg)), (0, .ref (ad 0 0)), (1, .int a1), (2, .int a2)]) (by decide) rfl ?_
                refine r_iload hX dX7_all_155 0 rfl ?_
                refine r_if_ne hX (tgt := 167) dX7_all_157 (by decide) (fun hc22 => ?_) (fun hc22 => ?_)
                · have h := ite_f hc22 h
                  refine r_iload hX dX7_all_167 0 rfl ?_
                  exact r_iret hX hQ (pr1 h) (pr2 h) dX7_all_169
                · have h := ite_t hc22 h
                  refine r_aload_n hX dX7_all_160 3 rfl ?_
                  refine r_getN hX 13 a1.toNatClampNeg (kyC13 (inb_lt hb8)) rfl rfl inlX6 0 (by decide) tn_24 (v := .ref (ad 14 a1.toNatClampNeg)) rfl dX7_all_161 ?_
                  obtain ⟨μ24, hq23, h⟩ := bind_ex h
                  refine r_callV hX 14 a1.toNatClampNeg (As := []) (rest := []) (st' := []) (res := none) (μ' := μ24) (mX5_clear a1.toNatClampNeg (lt68 (inb_lt hb8)) hq23) ckV_X7_159 ⟨rfl, rfl, by decide, by decide⟩ (kyC14 (lt68 (inb_lt hb8))) rfl rfl rfl rfl (Nat.le_of_ble_eq_true rfl) dX7_all_164 rfl ?_
                  refine r_iload hX dX7_all_167 0 rfl ?_
                  exact r_iret hX hQ (pr1 h) (pr2 h) dX7_all_169
              · have h := ite_t hc17 h
                refine r_aload_n hX dX7_all_117 2 rfl ?_
                refine r_aload_n hX dX7_all_118 1 rfl ?_
                refine r_getN hX 13 a1.toNatClampNeg (kyC13 (inb_lt hb8)) rfl rfl inlX6 0 (by decide) tn_24 (v := .ref (ad 14 a1.toNatClampNeg)) rfl dX7_all_119 ?_
                refine r_aload hX dX7_all_122 0 rfl ?_
                refine r_getN hX 13 a2.toNatClampNeg (kyC13 (inb_lt hb9)) rfl rfl inlX6 2 (by decide) tn_26 (v := .int (μ16 13 a2.toNatClampNeg 2)) rfl dX7_all_124 ?_
                obtain ⟨q26, hq25, h⟩ := bind_ex h
                refine r_callV hX 0 0 (As := [.ref (ad 14 a1.toNatClampNeg), .int (μ16 13 a2.toNatClampNeg 2)]) (rest := []) (st' := [.int q26.1]) (res := (some (.int q26.1))) (μ' := q26.2) (mX7_mergeIntoDraft a1.toNatClampNeg (lt68 (inb_lt hb8)) (μ16 13 a2.toNatClampNeg 2) hq25) ckV_X7_169 ⟨rfl, rfl, by decide, by decide⟩ kyC0 rfl rfl rfl rfl (Nat.le_of_ble_eq_true rfl) dX7_all_127 rfl ?_
                refine r_goto hX (tgt := 143) dX7_all_130 (by decide) ?_
                refine r_istore hX dX7_all_143 (lv' := [(5, .int q26.1), (4, .ref (ad 13 a2.toNatClampNeg)), (3, .ref (ad 13 a1.toNatClampNeg)), (0, .ref (ad 0 0)), (1, .int a1), (2, .int a2)]) (by decide) rfl ?_
                refine r_aload_n hX dX7_all_145 3 rfl ?_
                refine r_aload hX dX7_all_146 1 rfl ?_
                refine r_iload hX dX7_all_148 0 rfl ?_
                obtain ⟨q28, hq27, h⟩ := bind_ex h
                refine r_callV hX 0 0 (As := [.ref (ad 13 a2.toNatClampNeg), .int q26.1]) (rest := []) (st' := [.int q28.1]) (res := (some (.int q28.1))) (μ' := q28.2) (mX7_keepDraft a2.toNatClampNeg (inb_lt hb9) q26.1 hq27) ckV_X7_129 ⟨rfl, rfl, by decide, by decide⟩ kyC0 rfl rfl rfl rfl (Nat.le_of_ble_eq_true rfl) dX7_all_150 rfl ?_
                refine r_istore hX dX7_all_153 (lv' := [(6, .int q28.1), (5, .int q26.1), (4, .ref (ad 13 a2.toNatClampNeg)), (3, .ref (ad 13 a1.toNatClampNeg)), (0, .ref (ad 0 0)), (1, .int a1), (2, .int a2)]) (by decide) rfl ?_
                refine r_iload hX dX7_all_155 0 rfl ?_
                refine r_if_ne hX (tgt := 167) dX7_all_157 (by decide) (fun hc29 => ?_) (fun hc29 => ?_)
                · have h := ite_f hc29 h
                  refine r_iload hX dX7_all_167 0 rfl ?_
                  exact r_iret hX hQ (pr1 h) (pr2 h) dX7_all_169
                · have h := ite_t hc29 h
                  refine r_aload_n hX dX7_all_160 3 rfl ?_
                  refine r_getN hX 13 a1.toNatClampNeg (kyC13 (inb_lt hb8)) rfl rfl inlX6 0 (by decide) tn_24 (v := .ref (ad 14 a1.toNatClampNeg)) rfl dX7_all_161 ?_
                  obtain ⟨μ31, hq30, h⟩ := bind_ex h
                  refine r_callV hX 14 a1.toNatClampNeg (As := []) (rest := []) (st' := []) (res := none) (μ' := μ31) (mX5_clear a1.toNatClampNeg (lt68 (inb_lt hb8)) hq30) ckV_X7_159 ⟨rfl, rfl, by decide, by decide⟩ (kyC14 (lt68 (inb_lt hb8))) rfl rfl rfl rfl (Nat.le_of_ble_eq_true rfl) dX7_all_164 rfl ?_
                  refine r_iload hX dX7_all_167 0 rfl ?_
                  exact r_iret hX hQ (pr1 h) (pr2 h) dX7_all_169
            · have h := ite_f hc12 h
              refine r_bipush hX dX7_all_86 (v := (-3)) (by decide) ?_
              exact r_iret hX hQ (pr1 h) (pr2 h) dX7_all_88
          · have h := ite_f hc11 h
            refine r_bipush hX dX7_all_62 (v := (-2)) (by decide) ?_
            exact r_iret hX hQ (pr1 h) (pr2 h) dX7_all_64
      · have h := ite_t hc7 h
        refine r_iconst hX dX7_all_21 (v := (-1)) (by decide) ?_
        exact r_iret hX hQ (pr1 h) (pr2 h) dX7_all_22
abbrev rmX7_at : Room := { frames := 2, cells := 0, slots := 0, locals := 42 }
noncomputable def jX7_at (μ : Mu) (a1 : Int32) (a2 : Int32) : Option (Int32) := (jX7_hasTray μ a1).bind (fun r2 => if r2 = 0 then some (-1) else if 0 ≤ a2 then if inb a1 6 = true then (jX5_cardAt μ a1.toNatClampNeg a2).bind (fun r7 => some r7) else none else some (-1))
set_option maxHeartbeats 4000000 in
set_option maxRecDepth 100000 in
theorem mX7_at {l : Launch} {D : va_G} {cI cH cT : ClassId} {ad : Nat → Nat → Nat} {Z : va_W} {μ : Mu} {r : Int32} (a1 : Int32) (a2 : Int32) (h : jX7_at μ a1 a2 = some r) : CT (gC l D cI cH cT ad Z) yX7_at (.code yX7_at cX7_at 3 (some .int) :: wsL_law) rmX7_at [.ref (ad 0 0), .int a1, .int a2] μ (some (.int r)) μ := by
  refine ct_of (own := RX7) (by decide) ⟨rfl, rfl⟩ (Nat.le_of_ble_eq_true rfl) rfl (fun X hX hQ => ?_)
  have hX : HX (gC l D cI cH cT ad Z) X cX7_at 3 RX7 rmX7_at (some .int) := hX
  show V (gC l D cI cH cT ad Z) X 3 μ 0 [(0, .ref (ad 0 0)), (1, .int a1), (2, .int a2)] []
  unfold jX7_at at h
  refine r_aload_n hX dX7_at_0 0 rfl ?_
  refine r_iload_n hX dX7_at_1 1 rfl ?_
  obtain ⟨r2, hq1, h⟩ := bind_ex h
  refine r_callV hX 0 0 (As := [.int a1]) (rest := []) (st' := [.int r2]) (res := (some (.int r2))) (μ' := μ) (mX7_hasTray a1 hq1) ckV_X7_109 ⟨rfl, rfl, by decide, by decide⟩ kyC0 rfl rfl rfl rfl (Nat.le_of_ble_eq_true rfl) dX7_at_2 rfl ?_
  refine r_if_eq hX (tgt := 12) dX7_at_5 (by decide) (fun hc3 => ?_) (fun hc3 => ?_)
  · have h := ite_t hc3 h
    refine r_iconst hX dX7_at_12 (v := (-1)) (by decide) ?_
    exact r_iret hX hQ (Option.some.inj h) rfl dX7_at_13
  · have h := ite_f hc3 h
    refine r_iload_n hX dX7_at_8 2 rfl ?_
    refine r_if_ge hX (tgt := 14) dX7_at_9 (by decide) (fun hc4 => ?_) (fun hc4 => ?_)
    · have h := ite_t hc4 h
      refine r_aload_n hX dX7_at_14 0 rfl ?_
      refine r_get hX 0 0 kyC0 rfl rfl inlX7 1 (by decide) tw1_180 (v := .ref (ad 12 0)) rfl dX7_at_15 ?_
      refine r_iload_n hX dX7_at_18 1 rfl ?_
      obtain ⟨hb5, h⟩ := ite_some h
      refine r_aald hX 12 0 kyC12 rfl (t0 := 2) rfl hb5 (a := ad 13 a1.toNatClampNeg) rfl dX7_at_19 ?_
      refine r_getN hX 13 a1.toNatClampNeg (kyC13 (inb_lt hb5)) rfl rfl inlX6 0 (by decide) tn_24 (v := .ref (ad 14 a1.toNatClampNeg)) rfl dX7_at_20 ?_
      refine r_iload_n hX dX7_at_23 2 rfl ?_
      obtain ⟨r7, hq6, h⟩ := bind_ex h
      refine r_callV hX 14 a1.toNatClampNeg (As := [.int a2]) (rest := []) (st' := [.int r7]) (res := (some (.int r7))) (μ' := μ) (mX5_cardAt a1.toNatClampNeg (lt68 (inb_lt hb5)) a2 hq6) ckV_X7_139 ⟨rfl, rfl, by decide, by decide⟩ (kyC14 (lt68 (inb_lt hb5))) rfl rfl rfl rfl (Nat.le_of_ble_eq_true rfl) dX7_at_24 rfl ?_
      exact r_iret hX hQ (Option.some.inj h) rfl dX7_at_27
    · have h := ite_f hc4 h
      refine r_iconst hX dX7_at_12 (v := (-1)) (by decide) ?_
      exact r_iret hX hQ (Option.some.inj h) rfl dX7_at_13
abbrev rmX7_whole : Room := { frames := 3, cells := 0, slots := 0, locals := 69 }
noncomputable def jX7_whole (μ : Mu) (a1 : Int32) (a2 : Int32) : Option (Int32) := (jX7_hasTray μ a1).bind (fun r2 => if r2 = 0 then some (-1) else if inb a1 6 = true then if a2 = 0 then some (μ 13 a1.toNatClampNeg 1) else if a2 = 1 then some (μ 14 a1.toNatClampNeg 1) else if a2 = 2 then some (μ 13 a1.toNatClampNeg 2) else if a2 = 3 then (jX7_isWhole μ a1.toNatClampNeg).bind (fun r10 => if r10 = 0 then some 0 else some 1) else some (-1) else none)
set_option maxHeartbeats 4000000 in
set_option maxRecDepth 100000 in
theorem mX7_whole {l : Launch} {D : va_G} {cI cH cT : ClassId} {ad : Nat → Nat → Nat} {Z : va_W} {μ : Mu} {r : Int32} (a1 : Int32) (a2 : Int32) (h : jX7_whole μ a1 a2 = some r) : CT (gC l D cI cH cT ad Z) yX7_whole (.code yX7_whole cX7_whole 4 (some .int) :: wsL_law) rmX7_whole [.ref (ad 0 0), .int a1, .int a2] μ (some (.int r)) μ := by
  refine ct_of (own := RX7) (by decide) ⟨rfl, rfl⟩ (Nat.le_of_ble_eq_true rfl) rfl (fun X hX hQ => ?_)
  have hX : HX (gC l D cI cH cT ad Z) X cX7_whole 4 RX7 rmX7_whole (some .int) := hX
  show V (gC l D cI cH cT ad Z) X 4 μ 0 [(0, .ref (ad 0 0)), (1, .int a1), (2, .int a2)] []
  unfold jX7_whole at h
  refine r_aload_n hX dX7_whole_0 0 rfl ?_
  refine r_iload_n hX dX7_whole_1 1 rfl ?_
  obtain ⟨r2, hq1, h⟩ := bind_ex h
  refine r_callV hX 0 0 (As := [.int a1]) (rest := []) (st' := [.int r2]) (res := (some (.int r2))) (μ' := μ) (mX7_hasTray a1 hq1) ckV_X7_109 ⟨rfl, rfl, by decide, by decide⟩ kyC0 rfl rfl rfl rfl (Nat.le_of_ble_eq_true rfl) dX7_whole_2 rfl ?_
  refine r_if_ne hX (tgt := 10) dX7_whole_5 (by decide) (fun hc3 => ?_) (fun hc3 => ?_)
  · have h := ite_f hc3 h
    refine r_aload_n hX dX7_whole_10 0 rfl ?_
    refine r_get hX 0 0 kyC0 rfl rfl inlX7 1 (by decide) tw1_180 (v := .ref (ad 12 0)) rfl dX7_whole_11 ?_
    refine r_iload_n hX dX7_whole_14 1 rfl ?_
    obtain ⟨hb4, h⟩ := ite_some h
    refine r_aald hX 12 0 kyC12 rfl (t0 := 2) rfl hb4 (a := ad 13 a1.toNatClampNeg) rfl dX7_whole_15 ?_
    refine r_astore_n hX dX7_whole_16 (lv' := [(3, .ref (ad 13 a1.toNatClampNeg)), (0, .ref (ad 0 0)), (1, .int a1), (2, .int a2)]) (by decide) rfl ?_
    refine r_iload_n hX dX7_whole_17 3 rfl ?_
    by_cases hc5 : a2 = 0
    · have h := ite_t hc5 h
      refine r_tsw hX (tgt := 48) dX7_whole_18 0 hc5 (by decide) (by decide) rfl (by decide) ?_
      refine r_aload_n hX dX7_whole_48 0 rfl ?_
      refine r_getN hX 13 a1.toNatClampNeg (kyC13 (inb_lt hb4)) rfl rfl inlX6 1 (by decide) tn_25 (v := .int (μ 13 a1.toNatClampNeg 1)) rfl dX7_whole_49 ?_
      exact r_iret hX hQ (Option.some.inj h) rfl dX7_whole_52
    · have h := ite_f hc5 h
      by_cases hc6 : a2 = 1
      · have h := ite_t hc6 h
        refine r_tsw hX (tgt := 53) dX7_whole_18 1 hc6 (by decide) (by decide) rfl (by decide) ?_
        refine r_aload_n hX dX7_whole_53 0 rfl ?_
        refine r_getN hX 13 a1.toNatClampNeg (kyC13 (inb_lt hb4)) rfl rfl inlX6 0 (by decide) tn_24 (v := .ref (ad 14 a1.toNatClampNeg)) rfl dX7_whole_54 ?_
        refine r_getN hX 14 a1.toNatClampNeg (kyC14 (lt68 (inb_lt hb4))) rfl rfl inlX5 1 (by decide) tn_23 (v := .int (μ 14 a1.toNatClampNeg 1)) rfl dX7_whole_57 ?_
        exact r_iret hX hQ (Option.some.inj h) rfl dX7_whole_60
      · have h := ite_f hc6 h
        by_cases hc7 : a2 = 2
        · have h := ite_t hc7 h
          refine r_tsw hX (tgt := 61) dX7_whole_18 2 hc7 (by decide) (by decide) rfl (by decide) ?_
          refine r_aload_n hX dX7_whole_61 0 rfl ?_
          refine r_getN hX 13 a1.toNatClampNeg (kyC13 (inb_lt hb4)) rfl rfl inlX6 2 (by decide) tn_26 (v := .int (μ 13 a1.toNatClampNeg 2)) rfl dX7_whole_62 ?_
          exact r_iret hX hQ (Option.some.inj h) rfl dX7_whole_65
        · have h := ite_f hc7 h
          by_cases hc8 : a2 = 3
          · have h := ite_t hc8 h
            refine r_tsw hX (tgt := 66) dX7_whole_18 3 hc8 (by decide) (by decide) rfl (by decide) ?_
            refine r_aload_n hX dX7_whole_66 1 rfl ?_
            refine r_aload_n hX dX7_whole_67 0 rfl ?_
            obtain ⟨r10, hq9, h⟩ := bind_ex h
            refine r_callV hX 0 0 (As := [.ref (ad 13 a1.toNatClampNeg)]) (rest := []) (st' := [.int r10]) (res := (some (.int r10))) (μ' := μ) (mX7_isWhole a1.toNatClampNeg (inb_lt hb4) hq9) ckV_X7_172 ⟨rfl, rfl, by decide, by decide⟩ kyC0 rfl rfl rfl rfl (Nat.le_of_ble_eq_true rfl) dX7_whole_68 rfl ?_
            refine r_if_eq hX (tgt := 78) dX7_whole_71 (by decide) (fun hc11 => ?_) (fun hc11 => ?_)
            · have h := ite_t hc11 h
              refine r_iconst hX dX7_whole_78 (v := 0) (by decide) ?_
              exact r_iret hX hQ (Option.some.inj h) rfl dX7_whole_79
            · have h := ite_f hc11 h
              refine r_iconst hX dX7_whole_74 (v := 1) (by decide) ?_
              refine r_goto hX (tgt := 79) dX7_whole_75 (by decide) ?_
              exact r_iret hX hQ (Option.some.inj h) rfl dX7_whole_79
          · have h := ite_f hc8 h
            refine r_tswo hX (tgt := 80) dX7_whole_18 (sw_out 4 (by decide) (fun j hj => by rcases (show j = 0 ∨ j = 1 ∨ j = 2 ∨ j = 3 by omega) with rfl | rfl | rfl | rfl <;> first | exact hc5 | exact hc6 | exact hc7 | exact hc8)) (by decide) ?_
            refine r_iconst hX dX7_whole_80 (v := (-1)) (by decide) ?_
            exact r_iret hX hQ (Option.some.inj h) rfl dX7_whole_81
  · have h := ite_t hc3 h
    refine r_iconst hX dX7_whole_8 (v := (-1)) (by decide) ?_
    exact r_iret hX hQ (Option.some.inj h) rfl dX7_whole_9
abbrev rmX7_same : Room := { frames := 1, cells := 0, slots := 0, locals := 22 }
noncomputable def jX7_same (μ : Mu) (a1 : Int32) (a2 : Int32) : Option (Int32) := (jX7_hasTray μ a1).bind (fun r2 => if r2 = 0 then some (-1) else (jX7_hasTray μ a2).bind (fun r5 => if r5 = 0 then some (-1) else if inb a1 6 = true then if inb a2 6 = true then (jX5_isLike μ a1.toNatClampNeg a2.toNatClampNeg).bind (fun r10 => if r10 = 0 then some 0 else some 1) else none else none))
set_option maxHeartbeats 4000000 in
set_option maxRecDepth 100000 in
theorem mX7_same {l : Launch} {D : va_G} {cI cH cT : ClassId} {ad : Nat → Nat → Nat} {Z : va_W} {μ : Mu} {r : Int32} (a1 : Int32) (a2 : Int32) (h : jX7_same μ a1 a2 = some r) : CT (gC l D cI cH cT ad Z) yX7_same (.code yX7_same cX7_same 3 (some .int) :: wsL_law) rmX7_same [.ref (ad 0 0), .int a1, .int a2] μ (some (.int r)) μ := by
  refine ct_of (own := RX7) (by decide) ⟨rfl, rfl⟩ (Nat.le_of_ble_eq_true rfl) rfl (fun X hX hQ => ?_)
  have hX : HX (gC l D cI cH cT ad Z) X cX7_same 3 RX7 rmX7_same (some .int) := hX
  show V (gC l D cI cH cT ad Z) X 3 μ 0 [(0, .ref (ad 0 0)), (1, .int a1), (2, .int a2)] []
  unfold jX7_same at h
  refine r_aload_n hX dX7_same_0 0 rfl ?_
  refine r_iload_n hX dX7_same_1 1 rfl ?_
  obtain ⟨r2, hq1, h⟩ := bind_ex h
  refine r_callV hX 0 0 (As := [.int a1]) (rest := []) (st' := [.int r2]) (res := (some (.int r2))) (μ' := μ) (mX7_hasTray a1 hq1) ckV_X7_109 ⟨rfl, rfl, by decide, by decide⟩ kyC0 rfl rfl rfl rfl (Nat.le_of_ble_eq_true rfl) dX7_same_2 rfl ?_
  refine r_if_eq hX (tgt := 16) dX7_same_5 (by decide) (fun hc3 => ?_) (fun hc3 => ?_)
  · have h := ite_t hc3 h
    refine r_iconst hX dX7_same_16 (v := (-1)) (by decide) ?_
    exact r_iret hX hQ (Option.some.inj h) rfl dX7_same_17
  · have h := ite_f hc3 h
    refine r_aload_n hX dX7_same_8 0 rfl ?_
    refine r_iload_n hX dX7_same_9 2 rfl ?_
    obtain ⟨r5, hq4, h⟩ := bind_ex h
    refine r_callV hX 0 0 (As := [.int a2]) (rest := []) (st' := [.int r5]) (res := (some (.int r5))) (μ' := μ) (mX7_hasTray a2 hq4) ckV_X7_109 ⟨rfl, rfl, by decide, by decide⟩ kyC0 rfl rfl rfl rfl (Nat.le_of_ble_eq_true rfl) dX7_same_10 rfl ?_
    refine r_if_ne hX (tgt := 18) dX7_same_13 (by decide) (fun hc6 => ?_) (fun hc6 => ?_)
    · have h := ite_f hc6 h
      refine r_aload_n hX dX7_same_18 0 rfl ?_
      refine r_get hX 0 0 kyC0 rfl rfl inlX7 1 (by decide) tw1_180 (v := .ref (ad 12 0)) rfl dX7_same_19 ?_
      refine r_iload_n hX dX7_same_22 1 rfl ?_
      obtain ⟨hb7, h⟩ := ite_some h
      refine r_aald hX 12 0 kyC12 rfl (t0 := 2) rfl hb7 (a := ad 13 a1.toNatClampNeg) rfl dX7_same_23 ?_
      refine r_getN hX 13 a1.toNatClampNeg (kyC13 (inb_lt hb7)) rfl rfl inlX6 0 (by decide) tn_24 (v := .ref (ad 14 a1.toNatClampNeg)) rfl dX7_same_24 ?_
      refine r_aload_n hX dX7_same_27 0 rfl ?_
      refine r_get hX 0 0 kyC0 rfl rfl inlX7 1 (by decide) tw1_180 (v := .ref (ad 12 0)) rfl dX7_same_28 ?_
      refine r_iload_n hX dX7_same_31 2 rfl ?_
      obtain ⟨hb8, h⟩ := ite_some h
      refine r_aald hX 12 0 kyC12 rfl (t0 := 2) rfl hb8 (a := ad 13 a2.toNatClampNeg) rfl dX7_same_32 ?_
      refine r_getN hX 13 a2.toNatClampNeg (kyC13 (inb_lt hb8)) rfl rfl inlX6 0 (by decide) tn_24 (v := .ref (ad 14 a2.toNatClampNeg)) rfl dX7_same_33 ?_
      obtain ⟨r10, hq9, h⟩ := bind_ex h
      refine r_callV hX 14 a1.toNatClampNeg (As := [.ref (ad 14 a2.toNatClampNeg)]) (rest := []) (st' := [.int r10]) (res := (some (.int r10))) (μ' := μ) (mX5_isLike a1.toNatClampNeg (lt68 (inb_lt hb7)) a2.toNatClampNeg (lt68 (inb_lt hb8)) hq9) ckV_X7_176 ⟨rfl, rfl, by decide, by decide⟩ (kyC14 (lt68 (inb_lt hb7))) rfl rfl rfl rfl (Nat.le_of_ble_eq_true rfl) dX7_same_36 rfl ?_
      refine r_if_eq hX (tgt := 46) dX7_same_39 (by decide) (fun hc11 => ?_) (fun hc11 => ?_)
      · have h := ite_t hc11 h
        refine r_iconst hX dX7_same_46 (v := 0) (by decide) ?_
        exact r_iret hX hQ (Option.some.inj h) rfl dX7_same_47
      · have h := ite_f hc11 h
        refine r_iconst hX dX7_same_42 (v := 1) (by decide) ?_
        refine r_goto hX (tgt := 47) dX7_same_43 (by decide) ?_
        exact r_iret hX hQ (Option.some.inj h) rfl dX7_same_47
    · have h := ite_t hc6 h
      refine r_iconst hX dX7_same_16 (v := (-1)) (by decide) ?_
      exact r_iret hX hQ (Option.some.inj h) rfl dX7_same_17
abbrev rmX7_thrown : Room := { frames := 0, cells := 0, slots := 0, locals := 0 }
noncomputable def jX7_thrown (μ : Mu) (a1 : Int32) : Option (Int32) := if a1 = 0 then some (μ 9 0 0) else if a1 = 1 then some (μ 9 0 1) else if a1 = 2 then some (μ 9 0 2) else if a1 = 3 then some (μ 9 0 3) else some (-1)
set_option maxHeartbeats 4000000 in
set_option maxRecDepth 100000 in
theorem mX7_thrown {l : Launch} {D : va_G} {cI cH cT : ClassId} {ad : Nat → Nat → Nat} {Z : va_W} {μ : Mu} {r : Int32} (a1 : Int32) (h : jX7_thrown μ a1 = some r) : CT (gC l D cI cH cT ad Z) yX7_thrown (.code yX7_thrown cX7_thrown 2 (some .int) :: wsL_law) rmX7_thrown [.ref (ad 0 0), .int a1] μ (some (.int r)) μ := by
  refine ct_of (own := RX7) (by decide) ⟨rfl, rfl⟩ (Nat.le_of_ble_eq_true rfl) rfl (fun X hX hQ => ?_)
  have hX : HX (gC l D cI cH cT ad Z) X cX7_thrown 2 RX7 rmX7_thrown (some .int) := hX
  show V (gC l D cI cH cT ad Z) X 2 μ 0 [(0, .ref (ad 0 0)), (1, .int a1)] []
  unfold jX7_thrown at h
  refine r_iload_n hX dX7_thrown_0 1 rfl ?_
  by_cases hc1 : a1 = 0
  · have h := ite_t hc1 h
    refine r_tsw hX (tgt := 32) dX7_thrown_1 0 hc1 (by decide) (by decide) rfl (by decide) ?_
    refine r_aload_n hX dX7_thrown_32 0 rfl ?_
    refine r_get hX 0 0 kyC0 rfl rfl inlX7 0 (by decide) tw1_179 (v := .ref (ad 1 0)) rfl dX7_thrown_33 ?_
    refine r_getN hX 1 0 kyC1 rfl rfl inlX1 2 (by decide) tn_19 (v := .ref (ad 9 0)) rfl dX7_thrown_36 ?_
    refine r_getN hX 9 0 kyC9 rfl rfl inlX3 0 (by decide) tn_5 (v := .int (μ 9 0 0)) rfl dX7_thrown_39 ?_
    exact r_iret hX hQ (Option.some.inj h) rfl dX7_thrown_42
  · have h := ite_f hc1 h
    by_cases hc2 : a1 = 1
    · have h := ite_t hc2 h
      refine r_tsw hX (tgt := 43) dX7_thrown_1 1 hc2 (by decide) (by decide) rfl (by decide) ?_
      refine r_aload_n hX dX7_thrown_43 0 rfl ?_
      refine r_get hX 0 0 kyC0 rfl rfl inlX7 0 (by decide) tw1_179 (v := .ref (ad 1 0)) rfl dX7_thrown_44 ?_
      refine r_getN hX 1 0 kyC1 rfl rfl inlX1 2 (by decide) tn_19 (v := .ref (ad 9 0)) rfl dX7_thrown_47 ?_
      refine r_getN hX 9 0 kyC9 rfl rfl inlX3 1 (by decide) tn_6 (v := .int (μ 9 0 1)) rfl dX7_thrown_50 ?_
      exact r_iret hX hQ (Option.some.inj h) rfl dX7_thrown_53
    · have h := ite_f hc2 h
      by_cases hc3 : a1 = 2
      · have h := ite_t hc3 h
        refine r_tsw hX (tgt := 54) dX7_thrown_1 2 hc3 (by decide) (by decide) rfl (by decide) ?_
        refine r_aload_n hX dX7_thrown_54 0 rfl ?_
        refine r_get hX 0 0 kyC0 rfl rfl inlX7 0 (by decide) tw1_179 (v := .ref (ad 1 0)) rfl dX7_thrown_55 ?_
        refine r_getN hX 1 0 kyC1 rfl rfl inlX1 2 (by decide) tn_19 (v := .ref (ad 9 0)) rfl dX7_thrown_58 ?_
        refine r_getN hX 9 0 kyC9 rfl rfl inlX3 2 (by decide) tn_7 (v := .int (μ 9 0 2)) rfl dX7_thrown_61 ?_
        exact r_iret hX hQ (Option.some.inj h) rfl dX7_thrown_64
      · have h := ite_f hc3 h
        by_cases hc4 : a1 = 3
        · have h := ite_t hc4 h
          refine r_tsw hX (tgt := 65) dX7_thrown_1 3 hc4 (by decide) (by decide) rfl (by decide) ?_
          refine r_aload_n hX dX7_thrown_65 0 rfl ?_
          refine r_get hX 0 0 kyC0 rfl rfl inlX7 0 (by decide) tw1_179 (v := .ref (ad 1 0)) rfl dX7_thrown_66 ?_
          refine r_getN hX 1 0 kyC1 rfl rfl inlX1 2 (by decide) tn_19 (v := .ref (ad 9 0)) rfl dX7_thrown_69 ?_
          refine r_getN hX 9 0 kyC9 rfl rfl inlX3 3 (by decide) tn_8 (v := .int (μ 9 0 3)) rfl dX7_thrown_72 ?_
          exact r_iret hX hQ (Option.some.inj h) rfl dX7_thrown_75
        · have h := ite_f hc4 h
          refine r_tswo hX (tgt := 76) dX7_thrown_1 (sw_out 4 (by decide) (fun j hj => by rcases (show j = 0 ∨ j = 1 ∨ j = 2 ∨ j = 3 by omega) with rfl | rfl | rfl | rfl <;> first | exact hc1 | exact hc2 | exact hc3 | exact hc4)) (by decide) ?_
          refine r_iconst hX dX7_thrown_76 (v := (-1)) (by decide) ?_
          exact r_iret hX hQ (Option.some.inj h) rfl dX7_thrown_77
abbrev rmX7_count : Room := { frames := 0, cells := 0, slots := 0, locals := 0 }
noncomputable def jX7_count (μ : Mu) (a1 : Int32) : Option (Int32) := if a1 = 0 then some (μ 2 0 2) else if a1 = 1 then some (μ 1 0 4) else if a1 = 2 then some (μ 0 0 2) else if a1 = 3 then some (μ 5 0 3) else if a1 = 4 then some (μ 9 0 4) else if a1 = 5 then some (μ 9 0 5) else some (-1)
set_option maxHeartbeats 4000000 in
set_option maxRecDepth 100000 in
theorem mX7_count {l : Launch} {D : va_G} {cI cH cT : ClassId} {ad : Nat → Nat → Nat} {Z : va_W} {μ : Mu} {r : Int32} (a1 : Int32) (h : jX7_count μ a1 = some r) : CT (gC l D cI cH cT ad Z) yX7_count (.code yX7_count cX7_count 2 (some .int) :: wsL_law) rmX7_count [.ref (ad 0 0), .int a1] μ (some (.int r)) μ := by
  refine ct_of (own := RX7) (by decide) ⟨rfl, rfl⟩ (Nat.le_of_ble_eq_true rfl) rfl (fun X hX hQ => ?_)
  have hX : HX (gC l D cI cH cT ad Z) X cX7_count 2 RX7 rmX7_count (some .int) := hX
  show V (gC l D cI cH cT ad Z) X 2 μ 0 [(0, .ref (ad 0 0)), (1, .int a1)] []
  unfold jX7_count at h
  refine r_iload_n hX dX7_count_0 1 rfl ?_
  by_cases hc1 : a1 = 0
  · have h := ite_t hc1 h
    refine r_tsw hX (tgt := 40) dX7_count_1 0 hc1 (by decide) (by decide) rfl (by decide) ?_
    refine r_aload_n hX dX7_count_40 0 rfl ?_
    refine r_get hX 0 0 kyC0 rfl rfl inlX7 0 (by decide) tw1_179 (v := .ref (ad 1 0)) rfl dX7_count_41 ?_
    refine r_getN hX 1 0 kyC1 rfl rfl inlX1 0 (by decide) tn_17 (v := .ref (ad 2 0)) rfl dX7_count_44 ?_
    refine r_getN hX 2 0 kyC2 rfl rfl inlX0 2 (by decide) tn_1 (v := .int (μ 2 0 2)) rfl dX7_count_47 ?_
    exact r_iret hX hQ (Option.some.inj h) rfl dX7_count_50
  · have h := ite_f hc1 h
    by_cases hc2 : a1 = 1
    · have h := ite_t hc2 h
      refine r_tsw hX (tgt := 51) dX7_count_1 1 hc2 (by decide) (by decide) rfl (by decide) ?_
      refine r_aload_n hX dX7_count_51 0 rfl ?_
      refine r_get hX 0 0 kyC0 rfl rfl inlX7 0 (by decide) tw1_179 (v := .ref (ad 1 0)) rfl dX7_count_52 ?_
      refine r_getN hX 1 0 kyC1 rfl rfl inlX1 4 (by decide) tn_20 (v := .int (μ 1 0 4)) rfl dX7_count_55 ?_
      exact r_iret hX hQ (Option.some.inj h) rfl dX7_count_58
    · have h := ite_f hc2 h
      by_cases hc3 : a1 = 2
      · have h := ite_t hc3 h
        refine r_tsw hX (tgt := 59) dX7_count_1 2 hc3 (by decide) (by decide) rfl (by decide) ?_
        refine r_aload_n hX dX7_count_59 0 rfl ?_
        refine r_get hX 0 0 kyC0 rfl rfl inlX7 2 (by decide) tw1_181 (v := .int (μ 0 0 2)) rfl dX7_count_60 ?_
        exact r_iret hX hQ (Option.some.inj h) rfl dX7_count_63
      · have h := ite_f hc3 h
        by_cases hc4 : a1 = 3
        · have h := ite_t hc4 h
          refine r_tsw hX (tgt := 64) dX7_count_1 3 hc4 (by decide) (by decide) rfl (by decide) ?_
          refine r_aload_n hX dX7_count_64 0 rfl ?_
          refine r_get hX 0 0 kyC0 rfl rfl inlX7 0 (by decide) tw1_179 (v := .ref (ad 1 0)) rfl dX7_count_65 ?_
          refine r_getN hX 1 0 kyC1 rfl rfl inlX1 1 (by decide) tn_18 (v := .ref (ad 5 0)) rfl dX7_count_68 ?_
          refine r_getN hX 5 0 kyC5 rfl rfl inlX4 3 (by decide) tn_3 (v := .int (μ 5 0 3)) rfl dX7_count_71 ?_
          exact r_iret hX hQ (Option.some.inj h) rfl dX7_count_74
        · have h := ite_f hc4 h
          by_cases hc5 : a1 = 4
          · have h := ite_t hc5 h
            refine r_tsw hX (tgt := 75) dX7_count_1 4 hc5 (by decide) (by decide) rfl (by decide) ?_
            refine r_aload_n hX dX7_count_75 0 rfl ?_
            refine r_get hX 0 0 kyC0 rfl rfl inlX7 0 (by decide) tw1_179 (v := .ref (ad 1 0)) rfl dX7_count_76 ?_
            refine r_getN hX 1 0 kyC1 rfl rfl inlX1 2 (by decide) tn_19 (v := .ref (ad 9 0)) rfl dX7_count_79 ?_
            refine r_getN hX 9 0 kyC9 rfl rfl inlX3 4 (by decide) tn_9 (v := .int (μ 9 0 4)) rfl dX7_count_82 ?_
            exact r_iret hX hQ (Option.some.inj h) rfl dX7_count_85
          · have h := ite_f hc5 h
            by_cases hc6 : a1 = 5
            · have h := ite_t hc6 h
              refine r_tsw hX (tgt := 86) dX7_count_1 5 hc6 (by decide) (by decide) rfl (by decide) ?_
              refine r_aload_n hX dX7_count_86 0 rfl ?_
              refine r_get hX 0 0 kyC0 rfl rfl inlX7 0 (by decide) tw1_179 (v := .ref (ad 1 0)) rfl dX7_count_87 ?_
              refine r_getN hX 1 0 kyC1 rfl rfl inlX1 2 (by decide) tn_19 (v := .ref (ad 9 0)) rfl dX7_count_90 ?_
              refine r_getN hX 9 0 kyC9 rfl rfl inlX3 5 (by decide) tn_10 (v := .int (μ 9 0 5)) rfl dX7_count_93 ?_
              exact r_iret hX hQ (Option.some.inj h) rfl dX7_count_96
            · have h := ite_f hc6 h
              refine r_tswo hX (tgt := 97) dX7_count_1 (sw_out 6 (by decide) (fun j hj => by rcases (show j = 0 ∨ j = 1 ∨ j = 2 ∨ j = 3 ∨ j = 4 ∨ j = 5 by omega) with rfl | rfl | rfl | rfl | rfl | rfl <;> first | exact hc1 | exact hc2 | exact hc3 | exact hc4 | exact hc5 | exact hc6)) (by decide) ?_
              refine r_iconst hX dX7_count_97 (v := (-1)) (by decide) ?_
              exact r_iret hX hQ (Option.some.inj h) rfl dX7_count_98
