abbrev rmX0_has : Room := { frames := 0, cells := 0, slots := 0, locals := 0 }
noncomputable def jX0_has (μ : Mu) (a1 : Int32) : Option (Int32) := if a1 < 0 then some 0 else if (μ 2 0 2) ≤ a1 then some 0 else some 1
set_option maxHeartbeats 4000000 in
set_option maxRecDepth 100000 in
theorem mX0_has {l : Launch} {D : va_G} {cI cH cT : ClassId} {ad : Nat → Nat → Nat} {Z : va_W} {μ : Mu} {r : Int32} (a1 : Int32) (h : jX0_has μ a1 = some r) : CT (gC l D cI cH cT ad Z) yX0_has (.code yX0_has cX0_has 2 (some .boolean) :: wsL_law) rmX0_has [.ref (ad 2 0), .int a1] μ (some (.int r)) μ := by
  refine ct_of (own := RX0) (by decide) ⟨rfl, rfl⟩ (Nat.le_of_ble_eq_true rfl) rfl (fun X hX hQ => ?_)
  have hX : HX (gC l D cI cH cT ad Z) X cX0_has 2 RX0 rmX0_has (some .boolean) := hX
  show V (gC l D cI cH cT ad Z) X 2 μ 0 [(0, .ref (ad 2 0)), (1, .int a1)] []
  unfold jX0_has at h
  refine r_iload_n hX dX0_has_0 1 rfl ?_
  refine r_if_lt hX (tgt := 16) dX0_has_1 (by decide) (fun hc1 => ?_) (fun hc1 => ?_)
  · have h := ite_t hc1 h
    refine r_iconst hX dX0_has_16 (v := 0) (by decide) ?_
    exact r_zret hX (Or.inl rfl) hQ (Option.some.inj h) rfl dX0_has_17
  · have h := ite_f hc1 h
    refine r_iload_n hX dX0_has_4 1 rfl ?_
    refine r_aload_n hX dX0_has_5 0 rfl ?_
    refine r_get hX 2 0 kyC2 rfl rfl inlX0 2 (by decide) tw1_34 (v := .int (μ 2 0 2)) rfl dX0_has_6 ?_
    refine r_icmp_ge hX (tgt := 16) dX0_has_9 (by decide) (fun hc2 => ?_) (fun hc2 => ?_)
    · have h := ite_t hc2 h
      refine r_iconst hX dX0_has_16 (v := 0) (by decide) ?_
      exact r_zret hX (Or.inl rfl) hQ (Option.some.inj h) rfl dX0_has_17
    · have h := ite_f hc2 h
      refine r_iconst hX dX0_has_12 (v := 1) (by decide) ?_
      refine r_goto hX (tgt := 17) dX0_has_13 (by decide) ?_
      exact r_zret hX (Or.inr rfl) hQ (Option.some.inj h) rfl dX0_has_17
abbrev rmX0_add : Room := { frames := 0, cells := 0, slots := 0, locals := 0 }
noncomputable def jX0_add (μ : Mu) (a1 : Int32) (a2 : Int32) : Option (Int32 × Mu) := if (μ 2 0 2) < 120 then if inb (μ 2 0 2) 120 = true then mst (mu_st μ 3 0 (μ 2 0 2).toNatClampNeg a1) (fun μ3 => if inb (μ3 2 0 2) 120 = true then mst (mu_st μ3 4 0 (μ3 2 0 2).toNatClampNeg a2) (fun μ5 => mst (mu_st μ5 2 0 2 ((μ5 2 0 2) + 1)) (fun μ6 => some ((μ6 2 0 2) - 1, μ6))) else none) else none else some ((-3), μ)
set_option maxHeartbeats 4000000 in
set_option maxRecDepth 100000 in
theorem mX0_add {l : Launch} {D : va_G} {cI cH cT : ClassId} {ad : Nat → Nat → Nat} {Z : va_W} {μ : Mu} {r : Int32} {μ' : Mu} (a1 : Int32) (a2 : Int32) (h : jX0_add μ a1 a2 = some (r, μ')) : CT (gC l D cI cH cT ad Z) yX0_add (.code yX0_add cX0_add 3 (some .int) :: wsL_law) rmX0_add [.ref (ad 2 0), .int a1, .int a2] μ (some (.int r)) μ' := by
  refine ct_of (own := RX0) (by decide) ⟨rfl, rfl⟩ (Nat.le_of_ble_eq_true rfl) rfl (fun X hX hQ => ?_)
  have hX : HX (gC l D cI cH cT ad Z) X cX0_add 3 RX0 rmX0_add (some .int) := hX
  show V (gC l D cI cH cT ad Z) X 3 μ 0 [(0, .ref (ad 2 0)), (1, .int a1), (2, .int a2)] []
  unfold jX0_add at h
  refine r_aload_n hX dX0_add_0 0 rfl ?_
  refine r_get hX 2 0 kyC2 rfl rfl inlX0 2 (by decide) tw1_34 (v := .int (μ 2 0 2)) rfl dX0_add_1 ?_
  refine r_bipush hX dX0_add_4 (v := 120) (by decide) ?_
  refine r_icmp_lt hX (tgt := 12) dX0_add_6 (by decide) (fun hc1 => ?_) (fun hc1 => ?_)
  · have h := ite_t hc1 h
    refine r_aload_n hX dX0_add_12 0 rfl ?_
    refine r_get hX 2 0 kyC2 rfl rfl inlX0 0 (by decide) tw1_32 (v := .ref (ad 3 0)) rfl dX0_add_13 ?_
    refine r_aload_n hX dX0_add_16 0 rfl ?_
    refine r_get hX 2 0 kyC2 rfl rfl inlX0 2 (by decide) tw1_34 (v := .int (μ 2 0 2)) rfl dX0_add_17 ?_
    refine r_iload_n hX dX0_add_20 1 rfl ?_
    obtain ⟨hb2, h⟩ := ite_some h
    refine r_iast hX 3 0 kyC3 (fun _ => rfl) (t0 := 0) rfl hb2 dX0_add_21 (fun μ3 eμ3 => ?_)
    have h := mst_at eμ3 h
    refine r_aload_n hX dX0_add_22 0 rfl ?_
    refine r_get hX 2 0 kyC2 rfl rfl inlX0 1 (by decide) tw1_33 (v := .ref (ad 4 0)) rfl dX0_add_23 ?_
    refine r_aload_n hX dX0_add_26 0 rfl ?_
    refine r_get hX 2 0 kyC2 rfl rfl inlX0 2 (by decide) tw1_34 (v := .int (μ3 2 0 2)) rfl dX0_add_27 ?_
    refine r_iload_n hX dX0_add_30 2 rfl ?_
    obtain ⟨hb4, h⟩ := ite_some h
    refine r_iast hX 4 0 kyC4 (fun _ => rfl) (t0 := 0) rfl hb4 dX0_add_31 (fun μ5 eμ5 => ?_)
    have h := mst_at eμ5 h
    refine r_aload_n hX dX0_add_32 0 rfl ?_
    refine r_dup hX dX0_add_33 rfl ?_
    refine r_get hX 2 0 kyC2 rfl rfl inlX0 2 (by decide) tw1_34 (v := .int (μ5 2 0 2)) rfl dX0_add_34 ?_
    refine r_iconst hX dX0_add_37 (v := 1) (by decide) ?_
    refine r_iadd hX dX0_add_38 ?_
    refine r_put hX 2 0 kyC2 rfl rfl inlX0 tyX0 tyX0_ok nmX0 2 (by decide) tw1_34 rfl (tyX0_ok 2 (by decide)) rfl rfl (Nat.le_of_ble_eq_true rfl) rfl dX0_add_39 (fun μ6 eμ6 => ?_)
    have h := mst_at eμ6 h
    refine r_aload_n hX dX0_add_42 0 rfl ?_
    refine r_get hX 2 0 kyC2 rfl rfl inlX0 2 (by decide) tw1_34 (v := .int (μ6 2 0 2)) rfl dX0_add_43 ?_
    refine r_iconst hX dX0_add_46 (v := 1) (by decide) ?_
    refine r_isub hX dX0_add_47 ?_
    exact r_iret hX hQ (pr1 h) (pr2 h) dX0_add_48
  · have h := ite_f hc1 h
    refine r_bipush hX dX0_add_9 (v := (-3)) (by decide) ?_
    exact r_iret hX hQ (pr1 h) (pr2 h) dX0_add_11
abbrev rmX0_weightOf : Room := { frames := 0, cells := 0, slots := 0, locals := 0 }
noncomputable def jX0_weightOf (μ : Mu) (a1 : Int32) : Option (Int32) := if a1 < 0 then some 0 else if (μ 2 0 2) ≤ a1 then some 0 else if inb a1 120 = true then some (μ 3 0 a1.toNatClampNeg) else none
set_option maxHeartbeats 4000000 in
set_option maxRecDepth 100000 in
theorem mX0_weightOf {l : Launch} {D : va_G} {cI cH cT : ClassId} {ad : Nat → Nat → Nat} {Z : va_W} {μ : Mu} {r : Int32} (a1 : Int32) (h : jX0_weightOf μ a1 = some r) : CT (gC l D cI cH cT ad Z) yX0_weightOf (.code yX0_weightOf cX0_weightOf 2 (some .int) :: wsL_law) rmX0_weightOf [.ref (ad 2 0), .int a1] μ (some (.int r)) μ := by
  refine ct_of (own := RX0) (by decide) ⟨rfl, rfl⟩ (Nat.le_of_ble_eq_true rfl) rfl (fun X hX hQ => ?_)
  have hX : HX (gC l D cI cH cT ad Z) X cX0_weightOf 2 RX0 rmX0_weightOf (some .int) := hX
  show V (gC l D cI cH cT ad Z) X 2 μ 0 [(0, .ref (ad 2 0)), (1, .int a1)] []
  unfold jX0_weightOf at h
  refine r_iload_n hX dX0_weightOf_0 1 rfl ?_
  refine r_if_lt hX (tgt := 21) dX0_weightOf_1 (by decide) (fun hc1 => ?_) (fun hc1 => ?_)
  · have h := ite_t hc1 h
    refine r_iconst hX dX0_weightOf_21 (v := 0) (by decide) ?_
    exact r_iret hX hQ (Option.some.inj h) rfl dX0_weightOf_22
  · have h := ite_f hc1 h
    refine r_iload_n hX dX0_weightOf_4 1 rfl ?_
    refine r_aload_n hX dX0_weightOf_5 0 rfl ?_
    refine r_get hX 2 0 kyC2 rfl rfl inlX0 2 (by decide) tw1_34 (v := .int (μ 2 0 2)) rfl dX0_weightOf_6 ?_
    refine r_icmp_ge hX (tgt := 21) dX0_weightOf_9 (by decide) (fun hc2 => ?_) (fun hc2 => ?_)
    · have h := ite_t hc2 h
      refine r_iconst hX dX0_weightOf_21 (v := 0) (by decide) ?_
      exact r_iret hX hQ (Option.some.inj h) rfl dX0_weightOf_22
    · have h := ite_f hc2 h
      refine r_aload_n hX dX0_weightOf_12 0 rfl ?_
      refine r_get hX 2 0 kyC2 rfl rfl inlX0 0 (by decide) tw1_32 (v := .ref (ad 3 0)) rfl dX0_weightOf_13 ?_
      refine r_iload_n hX dX0_weightOf_16 1 rfl ?_
      obtain ⟨hb3, h⟩ := ite_some h
      refine r_iald hX 3 0 kyC3 rfl (t0 := 0) rfl hb3 dX0_weightOf_17 ?_
      refine r_goto hX (tgt := 22) dX0_weightOf_18 (by decide) ?_
      exact r_iret hX hQ (Option.some.inj h) rfl dX0_weightOf_22
abbrev rmX0_markOf : Room := { frames := 0, cells := 0, slots := 0, locals := 0 }
noncomputable def jX0_markOf (μ : Mu) (a1 : Int32) : Option (Int32) := if a1 < 0 then some 0 else if (μ 2 0 2) ≤ a1 then some 0 else if inb a1 120 = true then some (μ 4 0 a1.toNatClampNeg) else none
set_option maxHeartbeats 4000000 in
set_option maxRecDepth 100000 in
theorem mX0_markOf {l : Launch} {D : va_G} {cI cH cT : ClassId} {ad : Nat → Nat → Nat} {Z : va_W} {μ : Mu} {r : Int32} (a1 : Int32) (h : jX0_markOf μ a1 = some r) : CT (gC l D cI cH cT ad Z) yX0_markOf (.code yX0_markOf cX0_markOf 2 (some .int) :: wsL_law) rmX0_markOf [.ref (ad 2 0), .int a1] μ (some (.int r)) μ := by
  refine ct_of (own := RX0) (by decide) ⟨rfl, rfl⟩ (Nat.le_of_ble_eq_true rfl) rfl (fun X hX hQ => ?_)
  have hX : HX (gC l D cI cH cT ad Z) X cX0_markOf 2 RX0 rmX0_markOf (some .int) := hX
  show V (gC l D cI cH cT ad Z) X 2 μ 0 [(0, .ref (ad 2 0)), (1, .int a1)] []
  unfold jX0_markOf at h
  refine r_iload_n hX dX0_markOf_0 1 rfl ?_
  refine r_if_lt hX (tgt := 21) dX0_markOf_1 (by decide) (fun hc1 => ?_) (fun hc1 => ?_)
  · have h := ite_t hc1 h
    refine r_iconst hX dX0_markOf_21 (v := 0) (by decide) ?_
    exact r_iret hX hQ (Option.some.inj h) rfl dX0_markOf_22
  · have h := ite_f hc1 h
    refine r_iload_n hX dX0_markOf_4 1 rfl ?_
    refine r_aload_n hX dX0_markOf_5 0 rfl ?_
    refine r_get hX 2 0 kyC2 rfl rfl inlX0 2 (by decide) tw1_34 (v := .int (μ 2 0 2)) rfl dX0_markOf_6 ?_
    refine r_icmp_ge hX (tgt := 21) dX0_markOf_9 (by decide) (fun hc2 => ?_) (fun hc2 => ?_)
    · have h := ite_t hc2 h
      refine r_iconst hX dX0_markOf_21 (v := 0) (by decide) ?_
      exact r_iret hX hQ (Option.some.inj h) rfl dX0_markOf_22
    · have h := ite_f hc2 h
      refine r_aload_n hX dX0_markOf_12 0 rfl ?_
      refine r_get hX 2 0 kyC2 rfl rfl inlX0 1 (by decide) tw1_33 (v := .ref (ad 4 0)) rfl dX0_markOf_13 ?_
      refine r_iload_n hX dX0_markOf_16 1 rfl ?_
      obtain ⟨hb3, h⟩ := ite_some h
      refine r_iald hX 4 0 kyC4 rfl (t0 := 0) rfl hb3 dX0_markOf_17 ?_
      refine r_goto hX (tgt := 22) dX0_markOf_18 (by decide) ?_
      exact r_iret hX hQ (Option.some.inj h) rfl dX0_markOf_22
abbrev rmX1_hasHook : Room := { frames := 0, cells := 0, slots := 0, locals := 0 }
noncomputable def jX1_hasHook (μ : Mu) (a1 : Int32) : Option (Int32) := if a1 < 0 then some 0 else if (μ 1 0 4) ≤ a1 then some 0 else some 1
set_option maxHeartbeats 4000000 in
set_option maxRecDepth 100000 in
theorem mX1_hasHook {l : Launch} {D : va_G} {cI cH cT : ClassId} {ad : Nat → Nat → Nat} {Z : va_W} {μ : Mu} {r : Int32} (a1 : Int32) (h : jX1_hasHook μ a1 = some r) : CT (gC l D cI cH cT ad Z) yX1_hasHook (.code yX1_hasHook cX1_hasHook 2 (some .boolean) :: wsL_law) rmX1_hasHook [.ref (ad 1 0), .int a1] μ (some (.int r)) μ := by
  refine ct_of (own := RX1) (by decide) ⟨rfl, rfl⟩ (Nat.le_of_ble_eq_true rfl) rfl (fun X hX hQ => ?_)
  have hX : HX (gC l D cI cH cT ad Z) X cX1_hasHook 2 RX1 rmX1_hasHook (some .boolean) := hX
  show V (gC l D cI cH cT ad Z) X 2 μ 0 [(0, .ref (ad 1 0)), (1, .int a1)] []
  unfold jX1_hasHook at h
  refine r_iload_n hX dX1_hasHook_0 1 rfl ?_
  refine r_if_lt hX (tgt := 16) dX1_hasHook_1 (by decide) (fun hc1 => ?_) (fun hc1 => ?_)
  · have h := ite_t hc1 h
    refine r_iconst hX dX1_hasHook_16 (v := 0) (by decide) ?_
    exact r_zret hX (Or.inl rfl) hQ (Option.some.inj h) rfl dX1_hasHook_17
  · have h := ite_f hc1 h
    refine r_iload_n hX dX1_hasHook_4 1 rfl ?_
    refine r_aload_n hX dX1_hasHook_5 0 rfl ?_
    refine r_get hX 1 0 kyC1 rfl rfl inlX1 4 (by decide) tw1_130 (v := .int (μ 1 0 4)) rfl dX1_hasHook_6 ?_
    refine r_icmp_ge hX (tgt := 16) dX1_hasHook_9 (by decide) (fun hc2 => ?_) (fun hc2 => ?_)
    · have h := ite_t hc2 h
      refine r_iconst hX dX1_hasHook_16 (v := 0) (by decide) ?_
      exact r_zret hX (Or.inl rfl) hQ (Option.some.inj h) rfl dX1_hasHook_17
    · have h := ite_f hc2 h
      refine r_iconst hX dX1_hasHook_12 (v := 1) (by decide) ?_
      refine r_goto hX (tgt := 17) dX1_hasHook_13 (by decide) ?_
      exact r_zret hX (Or.inr rfl) hQ (Option.some.inj h) rfl dX1_hasHook_17
abbrev rmX2_become : Room := { frames := 0, cells := 0, slots := 0, locals := 0 }
noncomputable def jX2_become (μ : Mu) (k : Nat) (a1 : Int32) (a2 : Int32) : Option (Mu) := mst (mu_st μ 11 k 0 a1) (fun μ1 => mst (mu_st μ1 11 k 1 a2) (fun μ2 => some μ2))
set_option maxHeartbeats 4000000 in
set_option maxRecDepth 100000 in
theorem mX2_become {l : Launch} {D : va_G} {cI cH cT : ClassId} {ad : Nat → Nat → Nat} {Z : va_W} {μ : Mu} {μ' : Mu} (k : Nat) (hk : k < 8) (a1 : Int32) (a2 : Int32) (h : jX2_become μ k a1 a2 = some μ') : CT (gC l D cI cH cT ad Z) yX2_become (.code yX2_become cX2_become 3 none :: wsL_law) rmX2_become [.ref (ad 11 k), .int a1, .int a2] μ none μ' := by
  refine ct_of (own := RX2) (by decide) ⟨rfl, rfl⟩ (Nat.le_of_ble_eq_true rfl) rfl (fun X hX hQ => ?_)
  have hX : HX (gC l D cI cH cT ad Z) X cX2_become 3 RX2 rmX2_become none := hX
  show V (gC l D cI cH cT ad Z) X 3 μ 0 [(0, .ref (ad 11 k)), (1, .int a1), (2, .int a2)] []
  unfold jX2_become at h
  refine r_aload_n hX dX2_become_0 0 rfl ?_
  refine r_iload_n hX dX2_become_1 1 rfl ?_
  refine r_put hX 11 k (kyC11 hk) rfl rfl inlX2 tyX2 tyX2_ok nmX2 0 (by decide) tw1_102 rfl (tyX2_ok 0 (by decide)) rfl rfl (Nat.le_of_ble_eq_true rfl) rfl dX2_become_2 (fun μ1 eμ1 => ?_)
  have h := mst_at eμ1 h
  refine r_aload_n hX dX2_become_5 0 rfl ?_
  refine r_iload_n hX dX2_become_6 2 rfl ?_
  refine r_put hX 11 k (kyC11 hk) rfl rfl inlX2 tyX2 tyX2_ok nmX2 1 (by decide) tw1_104 rfl (tyX2_ok 1 (by decide)) rfl rfl (Nat.le_of_ble_eq_true rfl) rfl dX2_become_7 (fun μ2 eμ2 => ?_)
  have h := mst_at eμ2 h
  exact r_vret hX hQ (Option.some.inj h) dX2_become_10
abbrev rmX1_addHook : Room := { frames := 1, cells := 0, slots := 0, locals := 22 }
noncomputable def jX1_addHook (μ : Mu) (a1 : Int32) (a2 : Int32) : Option (Int32 × Mu) := if (μ 1 0 4) < 8 then if inb (μ 1 0 4) 8 = true then (jX2_become μ ((μ 1 0 4).toNatClampNeg) a1 a2).bind (fun μ4 => mst (mu_st μ4 1 0 4 ((μ4 1 0 4) + 1)) (fun μ5 => some ((μ5 1 0 4) - 1, μ5))) else none else some ((-3), μ)
set_option maxHeartbeats 4000000 in
set_option maxRecDepth 100000 in
theorem mX1_addHook {l : Launch} {D : va_G} {cI cH cT : ClassId} {ad : Nat → Nat → Nat} {Z : va_W} {μ : Mu} {r : Int32} {μ' : Mu} (a1 : Int32) (a2 : Int32) (h : jX1_addHook μ a1 a2 = some (r, μ')) : CT (gC l D cI cH cT ad Z) yX1_addHook (.code yX1_addHook cX1_addHook 3 (some .int) :: wsL_law) rmX1_addHook [.ref (ad 1 0), .int a1, .int a2] μ (some (.int r)) μ' := by
  refine ct_of (own := RX1) (by decide) ⟨rfl, rfl⟩ (Nat.le_of_ble_eq_true rfl) rfl (fun X hX hQ => ?_)
  have hX : HX (gC l D cI cH cT ad Z) X cX1_addHook 3 RX1 rmX1_addHook (some .int) := hX
  show V (gC l D cI cH cT ad Z) X 3 μ 0 [(0, .ref (ad 1 0)), (1, .int a1), (2, .int a2)] []
  unfold jX1_addHook at h
  refine r_aload_n hX dX1_addHook_0 0 rfl ?_
  refine r_get hX 1 0 kyC1 rfl rfl inlX1 4 (by decide) tw1_130 (v := .int (μ 1 0 4)) rfl dX1_addHook_1 ?_
  refine r_bipush hX dX1_addHook_4 (v := 8) (by decide) ?_
  refine r_icmp_lt hX (tgt := 12) dX1_addHook_6 (by decide) (fun hc1 => ?_) (fun hc1 => ?_)
  · have h := ite_t hc1 h
    refine r_aload_n hX dX1_addHook_12 0 rfl ?_
    refine r_get hX 1 0 kyC1 rfl rfl inlX1 3 (by decide) tw1_129 (v := .ref (ad 10 0)) rfl dX1_addHook_13 ?_
    refine r_aload_n hX dX1_addHook_16 0 rfl ?_
    refine r_get hX 1 0 kyC1 rfl rfl inlX1 4 (by decide) tw1_130 (v := .int (μ 1 0 4)) rfl dX1_addHook_17 ?_
    obtain ⟨hb2, h⟩ := ite_some h
    refine r_aald hX 10 0 kyC10 rfl (t0 := 1) rfl hb2 (a := ad 11 ((μ 1 0 4).toNatClampNeg)) rfl dX1_addHook_20 ?_
    refine r_iload_n hX dX1_addHook_21 1 rfl ?_
    refine r_iload_n hX dX1_addHook_22 2 rfl ?_
    obtain ⟨μ4, hq3, h⟩ := bind_ex h
    refine r_callV hX 11 ((μ 1 0 4).toNatClampNeg) (As := [.int a1, .int a2]) (rest := []) (st' := []) (res := none) (μ' := μ4) (mX2_become ((μ 1 0 4).toNatClampNeg) (inb_lt hb2) a1 a2 hq3) ckV_X1_43 ⟨rfl, rfl, by decide, by decide⟩ (kyC11 (inb_lt hb2)) rfl rfl rfl rfl (Nat.le_of_ble_eq_true rfl) dX1_addHook_23 rfl ?_
    refine r_aload_n hX dX1_addHook_26 0 rfl ?_
    refine r_dup hX dX1_addHook_27 rfl ?_
    refine r_get hX 1 0 kyC1 rfl rfl inlX1 4 (by decide) tw1_130 (v := .int (μ4 1 0 4)) rfl dX1_addHook_28 ?_
    refine r_iconst hX dX1_addHook_31 (v := 1) (by decide) ?_
    refine r_iadd hX dX1_addHook_32 ?_
    refine r_put hX 1 0 kyC1 rfl rfl inlX1 tyX1 tyX1_ok nmX1 4 (by decide) tw1_130 rfl (tyX1_ok 4 (by decide)) rfl rfl (Nat.le_of_ble_eq_true rfl) rfl dX1_addHook_33 (fun μ5 eμ5 => ?_)
    have h := mst_at eμ5 h
    refine r_aload_n hX dX1_addHook_36 0 rfl ?_
    refine r_get hX 1 0 kyC1 rfl rfl inlX1 4 (by decide) tw1_130 (v := .int (μ5 1 0 4)) rfl dX1_addHook_37 ?_
    refine r_iconst hX dX1_addHook_40 (v := 1) (by decide) ?_
    refine r_isub hX dX1_addHook_41 ?_
    exact r_iret hX hQ (pr1 h) (pr2 h) dX1_addHook_42
  · have h := ite_f hc1 h
    refine r_bipush hX dX1_addHook_9 (v := (-3)) (by decide) ?_
    exact r_iret hX hQ (pr1 h) (pr2 h) dX1_addHook_11
abbrev rmX1_kindOf : Room := { frames := 1, cells := 0, slots := 0, locals := 21 }
noncomputable def jX1_kindOf (μ : Mu) (a1 : Int32) : Option (Int32) := (jX1_hasHook μ a1).bind (fun r2 => if r2 = 0 then some (-1) else if inb a1 8 = true then some (μ 11 a1.toNatClampNeg 0) else none)
set_option maxHeartbeats 4000000 in
set_option maxRecDepth 100000 in
theorem mX1_kindOf {l : Launch} {D : va_G} {cI cH cT : ClassId} {ad : Nat → Nat → Nat} {Z : va_W} {μ : Mu} {r : Int32} (a1 : Int32) (h : jX1_kindOf μ a1 = some r) : CT (gC l D cI cH cT ad Z) yX1_kindOf (.code yX1_kindOf cX1_kindOf 2 (some .int) :: wsL_law) rmX1_kindOf [.ref (ad 1 0), .int a1] μ (some (.int r)) μ := by
  refine ct_of (own := RX1) (by decide) ⟨rfl, rfl⟩ (Nat.le_of_ble_eq_true rfl) rfl (fun X hX hQ => ?_)
  have hX : HX (gC l D cI cH cT ad Z) X cX1_kindOf 2 RX1 rmX1_kindOf (some .int) := hX
  show V (gC l D cI cH cT ad Z) X 2 μ 0 [(0, .ref (ad 1 0)), (1, .int a1)] []
  unfold jX1_kindOf at h
  refine r_aload_n hX dX1_kindOf_0 0 rfl ?_
  refine r_iload_n hX dX1_kindOf_1 1 rfl ?_
  obtain ⟨r2, hq1, h⟩ := bind_ex h
  refine r_callV hX 1 0 (As := [.int a1]) (rest := []) (st' := [.int r2]) (res := (some (.int r2))) (μ' := μ) (mX1_hasHook a1 hq1) ckV_X1_47 ⟨rfl, rfl, by decide, by decide⟩ kyC1 rfl rfl rfl rfl (Nat.le_of_ble_eq_true rfl) dX1_kindOf_2 rfl ?_
  refine r_if_eq hX (tgt := 20) dX1_kindOf_5 (by decide) (fun hc3 => ?_) (fun hc3 => ?_)
  · have h := ite_t hc3 h
    refine r_iconst hX dX1_kindOf_20 (v := (-1)) (by decide) ?_
    exact r_iret hX hQ (Option.some.inj h) rfl dX1_kindOf_21
  · have h := ite_f hc3 h
    refine r_aload_n hX dX1_kindOf_8 0 rfl ?_
    refine r_get hX 1 0 kyC1 rfl rfl inlX1 3 (by decide) tw1_129 (v := .ref (ad 10 0)) rfl dX1_kindOf_9 ?_
    refine r_iload_n hX dX1_kindOf_12 1 rfl ?_
    obtain ⟨hb4, h⟩ := ite_some h
    refine r_aald hX 10 0 kyC10 rfl (t0 := 1) rfl hb4 (a := ad 11 a1.toNatClampNeg) rfl dX1_kindOf_13 ?_
    refine r_getN hX 11 a1.toNatClampNeg (kyC11 (inb_lt hb4)) rfl rfl inlX2 0 (by decide) tn_12 (v := .int (μ 11 a1.toNatClampNeg 0)) rfl dX1_kindOf_14 ?_
    refine r_goto hX (tgt := 21) dX1_kindOf_17 (by decide) ?_
    exact r_iret hX hQ (Option.some.inj h) rfl dX1_kindOf_21
abbrev rmX1_compares : Room := { frames := 2, cells := 0, slots := 0, locals := 42 }
noncomputable def jX1_compares (μ : Mu) (a1 : Int32) : Option (Int32) := (jX1_kindOf μ a1).bind (fun r2 => if r2 = 0 then some 1 else if r2 = 1 then some 1 else if r2 = 2 then some 1 else some 0)
set_option maxHeartbeats 4000000 in
set_option maxRecDepth 100000 in
theorem mX1_compares {l : Launch} {D : va_G} {cI cH cT : ClassId} {ad : Nat → Nat → Nat} {Z : va_W} {μ : Mu} {r : Int32} (a1 : Int32) (h : jX1_compares μ a1 = some r) : CT (gC l D cI cH cT ad Z) yX1_compares (.code yX1_compares cX1_compares 3 (some .boolean) :: wsL_law) rmX1_compares [.ref (ad 1 0), .int a1] μ (some (.int r)) μ := by
  refine ct_of (own := RX1) (by decide) ⟨rfl, rfl⟩ (Nat.le_of_ble_eq_true rfl) rfl (fun X hX hQ => ?_)
  have hX : HX (gC l D cI cH cT ad Z) X cX1_compares 3 RX1 rmX1_compares (some .boolean) := hX
  show V (gC l D cI cH cT ad Z) X 3 μ 0 [(0, .ref (ad 1 0)), (1, .int a1)] []
  unfold jX1_compares at h
  refine r_aload_n hX dX1_compares_0 0 rfl ?_
  refine r_iload_n hX dX1_compares_1 1 rfl ?_
  obtain ⟨r2, hq1, h⟩ := bind_ex h
  refine r_callV hX 1 0 (As := [.int a1]) (rest := []) (st' := [.int r2]) (res := (some (.int r2))) (μ' := μ) (mX1_kindOf a1 hq1) ckV_X1_54 ⟨rfl, rfl, by decide, by decide⟩ kyC1 rfl rfl rfl rfl (Nat.le_of_ble_eq_true rfl) dX1_compares_2 rfl ?_
  refine r_istore_n hX dX1_compares_5 (lv' := [(2, .int r2), (0, .ref (ad 1 0)), (1, .int a1)]) (by decide) rfl ?_
  refine r_iload_n hX dX1_compares_6 0 rfl ?_
  refine r_if_eq hX (tgt := 20) dX1_compares_7 (by decide) (fun hc3 => ?_) (fun hc3 => ?_)
  · have h := ite_t hc3 h
    refine r_iconst hX dX1_compares_20 (v := 1) (by decide) ?_
    refine r_goto hX (tgt := 25) dX1_compares_21 (by decide) ?_
    exact r_zret hX (Or.inr rfl) hQ (Option.some.inj h) rfl dX1_compares_25
  · have h := ite_f hc3 h
    refine r_iload_n hX dX1_compares_10 0 rfl ?_
    refine r_iconst hX dX1_compares_11 (v := 1) (by decide) ?_
    refine r_icmp_eq hX (tgt := 20) dX1_compares_12 (by decide) (fun hc4 => ?_) (fun hc4 => ?_)
    · have h := ite_t hc4 h
      refine r_iconst hX dX1_compares_20 (v := 1) (by decide) ?_
      refine r_goto hX (tgt := 25) dX1_compares_21 (by decide) ?_
      exact r_zret hX (Or.inr rfl) hQ (Option.some.inj h) rfl dX1_compares_25
    · have h := ite_f hc4 h
      refine r_iload_n hX dX1_compares_15 0 rfl ?_
      refine r_iconst hX dX1_compares_16 (v := 2) (by decide) ?_
      refine r_icmp_ne hX (tgt := 24) dX1_compares_17 (by decide) (fun hc5 => ?_) (fun hc5 => ?_)
      · have h := ite_f hc5 h
        refine r_iconst hX dX1_compares_24 (v := 0) (by decide) ?_
        exact r_zret hX (Or.inl rfl) hQ (Option.some.inj h) rfl dX1_compares_25
      · have h := ite_t hc5 h
        refine r_iconst hX dX1_compares_20 (v := 1) (by decide) ?_
        refine r_goto hX (tgt := 25) dX1_compares_21 (by decide) ?_
        exact r_zret hX (Or.inr rfl) hQ (Option.some.inj h) rfl dX1_compares_25
abbrev rmX1_callsOf : Room := { frames := 1, cells := 0, slots := 0, locals := 21 }
noncomputable def jX1_callsOf (μ : Mu) (a1 : Int32) : Option (Int32) := (jX1_hasHook μ a1).bind (fun r2 => if r2 = 0 then some (-1) else if inb a1 8 = true then some (μ 11 a1.toNatClampNeg 2) else none)
set_option maxHeartbeats 4000000 in
set_option maxRecDepth 100000 in
theorem mX1_callsOf {l : Launch} {D : va_G} {cI cH cT : ClassId} {ad : Nat → Nat → Nat} {Z : va_W} {μ : Mu} {r : Int32} (a1 : Int32) (h : jX1_callsOf μ a1 = some r) : CT (gC l D cI cH cT ad Z) yX1_callsOf (.code yX1_callsOf cX1_callsOf 2 (some .int) :: wsL_law) rmX1_callsOf [.ref (ad 1 0), .int a1] μ (some (.int r)) μ := by
  refine ct_of (own := RX1) (by decide) ⟨rfl, rfl⟩ (Nat.le_of_ble_eq_true rfl) rfl (fun X hX hQ => ?_)
  have hX : HX (gC l D cI cH cT ad Z) X cX1_callsOf 2 RX1 rmX1_callsOf (some .int) := hX
  show V (gC l D cI cH cT ad Z) X 2 μ 0 [(0, .ref (ad 1 0)), (1, .int a1)] []
  unfold jX1_callsOf at h
  refine r_aload_n hX dX1_callsOf_0 0 rfl ?_
  refine r_iload_n hX dX1_callsOf_1 1 rfl ?_
  obtain ⟨r2, hq1, h⟩ := bind_ex h
  refine r_callV hX 1 0 (As := [.int a1]) (rest := []) (st' := [.int r2]) (res := (some (.int r2))) (μ' := μ) (mX1_hasHook a1 hq1) ckV_X1_47 ⟨rfl, rfl, by decide, by decide⟩ kyC1 rfl rfl rfl rfl (Nat.le_of_ble_eq_true rfl) dX1_callsOf_2 rfl ?_
  refine r_if_eq hX (tgt := 20) dX1_callsOf_5 (by decide) (fun hc3 => ?_) (fun hc3 => ?_)
  · have h := ite_t hc3 h
    refine r_iconst hX dX1_callsOf_20 (v := (-1)) (by decide) ?_
    exact r_iret hX hQ (Option.some.inj h) rfl dX1_callsOf_21
  · have h := ite_f hc3 h
    refine r_aload_n hX dX1_callsOf_8 0 rfl ?_
    refine r_get hX 1 0 kyC1 rfl rfl inlX1 3 (by decide) tw1_129 (v := .ref (ad 10 0)) rfl dX1_callsOf_9 ?_
    refine r_iload_n hX dX1_callsOf_12 1 rfl ?_
    obtain ⟨hb4, h⟩ := ite_some h
    refine r_aald hX 10 0 kyC10 rfl (t0 := 1) rfl hb4 (a := ad 11 a1.toNatClampNeg) rfl dX1_callsOf_13 ?_
    refine r_getN hX 11 a1.toNatClampNeg (kyC11 (inb_lt hb4)) rfl rfl inlX2 2 (by decide) tn_14 (v := .int (μ 11 a1.toNatClampNeg 2)) rfl dX1_callsOf_14 ?_
    refine r_goto hX (tgt := 21) dX1_callsOf_17 (by decide) ?_
    exact r_iret hX hQ (Option.some.inj h) rfl dX1_callsOf_21
abbrev rmX1_latestCallsOf : Room := { frames := 1, cells := 0, slots := 0, locals := 21 }
noncomputable def jX1_latestCallsOf (μ : Mu) (a1 : Int32) : Option (Int32) := (jX1_hasHook μ a1).bind (fun r2 => if r2 = 0 then some (-1) else if inb a1 8 = true then some (μ 11 a1.toNatClampNeg 3) else none)
set_option maxHeartbeats 4000000 in
set_option maxRecDepth 100000 in
theorem mX1_latestCallsOf {l : Launch} {D : va_G} {cI cH cT : ClassId} {ad : Nat → Nat → Nat} {Z : va_W} {μ : Mu} {r : Int32} (a1 : Int32) (h : jX1_latestCallsOf μ a1 = some r) : CT (gC l D cI cH cT ad Z) yX1_latestCallsOf (.code yX1_latestCallsOf cX1_latestCallsOf 2 (some .int) :: wsL_law) rmX1_latestCallsOf [.ref (ad 1 0), .int a1] μ (some (.int r)) μ := by
  refine ct_of (own := RX1) (by decide) ⟨rfl, rfl⟩ (Nat.le_of_ble_eq_true rfl) rfl (fun X hX hQ => ?_)
  have hX : HX (gC l D cI cH cT ad Z) X cX1_latestCallsOf 2 RX1 rmX1_latestCallsOf (some .int) := hX
  show V (gC l D cI cH cT ad Z) X 2 μ 0 [(0, .ref (ad 1 0)), (1, .int a1)] []
  unfold jX1_latestCallsOf at h
  refine r_aload_n hX dX1_latestCallsOf_0 0 rfl ?_
  refine r_iload_n hX dX1_latestCallsOf_1 1 rfl ?_
  obtain ⟨r2, hq1, h⟩ := bind_ex h
  refine r_callV hX 1 0 (As := [.int a1]) (rest := []) (st' := [.int r2]) (res := (some (.int r2))) (μ' := μ) (mX1_hasHook a1 hq1) ckV_X1_47 ⟨rfl, rfl, by decide, by decide⟩ kyC1 rfl rfl rfl rfl (Nat.le_of_ble_eq_true rfl) dX1_latestCallsOf_2 rfl ?_
  refine r_if_eq hX (tgt := 20) dX1_latestCallsOf_5 (by decide) (fun hc3 => ?_) (fun hc3 => ?_)
  · have h := ite_t hc3 h
    refine r_iconst hX dX1_latestCallsOf_20 (v := (-1)) (by decide) ?_
    exact r_iret hX hQ (Option.some.inj h) rfl dX1_latestCallsOf_21
  · have h := ite_f hc3 h
    refine r_aload_n hX dX1_latestCallsOf_8 0 rfl ?_
    refine r_get hX 1 0 kyC1 rfl rfl inlX1 3 (by decide) tw1_129 (v := .ref (ad 10 0)) rfl dX1_latestCallsOf_9 ?_
    refine r_iload_n hX dX1_latestCallsOf_12 1 rfl ?_
    obtain ⟨hb4, h⟩ := ite_some h
    refine r_aald hX 10 0 kyC10 rfl (t0 := 1) rfl hb4 (a := ad 11 a1.toNatClampNeg) rfl dX1_latestCallsOf_13 ?_
    refine r_getN hX 11 a1.toNatClampNeg (kyC11 (inb_lt hb4)) rfl rfl inlX2 3 (by decide) tn_15 (v := .int (μ 11 a1.toNatClampNeg 3)) rfl dX1_latestCallsOf_14 ?_
    refine r_goto hX (tgt := 21) dX1_latestCallsOf_17 (by decide) ?_
    exact r_iret hX hQ (Option.some.inj h) rfl dX1_latestCallsOf_21
abbrev rmX1_misusesOf : Room := { frames := 1, cells := 0, slots := 0, locals := 21 }
noncomputable def jX1_misusesOf (μ : Mu) (a1 : Int32) : Option (Int32) := (jX1_hasHook μ a1).bind (fun r2 => if r2 = 0 then some (-1) else if inb a1 8 = true then some (μ 11 a1.toNatClampNeg 4) else none)
set_option maxHeartbeats 4000000 in
set_option maxRecDepth 100000 in
theorem mX1_misusesOf {l : Launch} {D : va_G} {cI cH cT : ClassId} {ad : Nat → Nat → Nat} {Z : va_W} {μ : Mu} {r : Int32} (a1 : Int32) (h : jX1_misusesOf μ a1 = some r) : CT (gC l D cI cH cT ad Z) yX1_misusesOf (.code yX1_misusesOf cX1_misusesOf 2 (some .int) :: wsL_law) rmX1_misusesOf [.ref (ad 1 0), .int a1] μ (some (.int r)) μ := by
  refine ct_of (own := RX1) (by decide) ⟨rfl, rfl⟩ (Nat.le_of_ble_eq_true rfl) rfl (fun X hX hQ => ?_)
  have hX : HX (gC l D cI cH cT ad Z) X cX1_misusesOf 2 RX1 rmX1_misusesOf (some .int) := hX
  show V (gC l D cI cH cT ad Z) X 2 μ 0 [(0, .ref (ad 1 0)), (1, .int a1)] []
  unfold jX1_misusesOf at h
  refine r_aload_n hX dX1_misusesOf_0 0 rfl ?_
  refine r_iload_n hX dX1_misusesOf_1 1 rfl ?_
  obtain ⟨r2, hq1, h⟩ := bind_ex h
  refine r_callV hX 1 0 (As := [.int a1]) (rest := []) (st' := [.int r2]) (res := (some (.int r2))) (μ' := μ) (mX1_hasHook a1 hq1) ckV_X1_47 ⟨rfl, rfl, by decide, by decide⟩ kyC1 rfl rfl rfl rfl (Nat.le_of_ble_eq_true rfl) dX1_misusesOf_2 rfl ?_
  refine r_if_eq hX (tgt := 20) dX1_misusesOf_5 (by decide) (fun hc3 => ?_) (fun hc3 => ?_)
  · have h := ite_t hc3 h
    refine r_iconst hX dX1_misusesOf_20 (v := (-1)) (by decide) ?_
    exact r_iret hX hQ (Option.some.inj h) rfl dX1_misusesOf_21
  · have h := ite_f hc3 h
    refine r_aload_n hX dX1_misusesOf_8 0 rfl ?_
    refine r_get hX 1 0 kyC1 rfl rfl inlX1 3 (by decide) tw1_129 (v := .ref (ad 10 0)) rfl dX1_misusesOf_9 ?_
    refine r_iload_n hX dX1_misusesOf_12 1 rfl ?_
    obtain ⟨hb4, h⟩ := ite_some h
    refine r_aald hX 10 0 kyC10 rfl (t0 := 1) rfl hb4 (a := ad 11 a1.toNatClampNeg) rfl dX1_misusesOf_13 ?_
    refine r_getN hX 11 a1.toNatClampNeg (kyC11 (inb_lt hb4)) rfl rfl inlX2 4 (by decide) tn_16 (v := .int (μ 11 a1.toNatClampNeg 4)) rfl dX1_misusesOf_14 ?_
    refine r_goto hX (tgt := 21) dX1_misusesOf_17 (by decide) ?_
    exact r_iret hX hQ (Option.some.inj h) rfl dX1_misusesOf_21
abbrev rmX3_begin : Room := { frames := 0, cells := 0, slots := 0, locals := 0 }
noncomputable def jX3_begin (μ : Mu)  : Option (Mu) := mst (mu_st μ 9 0 0 0) (fun μ1 => mst (mu_st μ1 9 0 1 (-4)) (fun μ2 => mst (mu_st μ2 9 0 2 0) (fun μ3 => mst (mu_st μ3 9 0 3 0) (fun μ4 => mst (mu_st μ4 9 0 4 ((μ4 9 0 4) + 1)) (fun μ5 => some μ5)))))
set_option maxHeartbeats 4000000 in
set_option maxRecDepth 100000 in
theorem mX3_begin {l : Launch} {D : va_G} {cI cH cT : ClassId} {ad : Nat → Nat → Nat} {Z : va_W} {μ : Mu} {μ' : Mu}  (h : jX3_begin μ  = some μ') : CT (gC l D cI cH cT ad Z) yX3_begin (.code yX3_begin cX3_begin 1 none :: wsL_law) rmX3_begin [.ref (ad 9 0)] μ none μ' := by
  refine ct_of (own := RX3) (by decide) ⟨rfl, rfl⟩ (Nat.le_of_ble_eq_true rfl) rfl (fun X hX hQ => ?_)
  have hX : HX (gC l D cI cH cT ad Z) X cX3_begin 1 RX3 rmX3_begin none := hX
  show V (gC l D cI cH cT ad Z) X 1 μ 0 [(0, .ref (ad 9 0))] []
  unfold jX3_begin at h
  refine r_aload_n hX dX3_begin_0 0 rfl ?_
  refine r_iconst hX dX3_begin_1 (v := 0) (by decide) ?_
  refine r_put hX 9 0 kyC9 rfl rfl inlX3 tyX3 tyX3_ok nmX3 0 (by decide) tw1_70 rfl (tyX3_ok 0 (by decide)) rfl rfl (Nat.le_of_ble_eq_true rfl) rfl dX3_begin_2 (fun μ1 eμ1 => ?_)
  have h := mst_at eμ1 h
  refine r_aload_n hX dX3_begin_5 0 rfl ?_
  refine r_bipush hX dX3_begin_6 (v := (-4)) (by decide) ?_
  refine r_put hX 9 0 kyC9 rfl rfl inlX3 tyX3 tyX3_ok nmX3 1 (by decide) tw1_72 rfl (tyX3_ok 1 (by decide)) rfl rfl (Nat.le_of_ble_eq_true rfl) rfl dX3_begin_8 (fun μ2 eμ2 => ?_)
  have h := mst_at eμ2 h
  refine r_aload_n hX dX3_begin_11 0 rfl ?_
  refine r_iconst hX dX3_begin_12 (v := 0) (by decide) ?_
  refine r_put hX 9 0 kyC9 rfl rfl inlX3 tyX3 tyX3_ok nmX3 2 (by decide) tw1_74 rfl (tyX3_ok 2 (by decide)) rfl rfl (Nat.le_of_ble_eq_true rfl) rfl dX3_begin_13 (fun μ3 eμ3 => ?_)
  have h := mst_at eμ3 h
  refine r_aload_n hX dX3_begin_16 0 rfl ?_
  refine r_iconst hX dX3_begin_17 (v := 0) (by decide) ?_
  refine r_put hX 9 0 kyC9 rfl rfl inlX3 tyX3 tyX3_ok nmX3 3 (by decide) tw1_76 rfl (tyX3_ok 3 (by decide)) rfl rfl (Nat.le_of_ble_eq_true rfl) rfl dX3_begin_18 (fun μ4 eμ4 => ?_)
  have h := mst_at eμ4 h
  refine r_aload_n hX dX3_begin_21 0 rfl ?_
  refine r_dup hX dX3_begin_22 rfl ?_
  refine r_get hX 9 0 kyC9 rfl rfl inlX3 4 (by decide) tw1_78 (v := .int (μ4 9 0 4)) rfl dX3_begin_23 ?_
  refine r_iconst hX dX3_begin_26 (v := 1) (by decide) ?_
  refine r_iadd hX dX3_begin_27 ?_
  refine r_put hX 9 0 kyC9 rfl rfl inlX3 tyX3 tyX3_ok nmX3 4 (by decide) tw1_78 rfl (tyX3_ok 4 (by decide)) rfl rfl (Nat.le_of_ble_eq_true rfl) rfl dX3_begin_28 (fun μ5 eμ5 => ?_)
  have h := mst_at eμ5 h
  exact r_vret hX hQ (Option.some.inj h) dX3_begin_31
abbrev rmX1_beginAct : Room := { frames := 1, cells := 0, slots := 0, locals := 20 }
noncomputable def jX1_beginAct_L9  : Nat → Mu → Int32 → Option (Mu)
  | 0, _, _ => none
  | n3 + 1, μ, x1 => if (μ 1 0 4) ≤ x1 then some μ else if inb x1 8 = true then mst (mu_st μ 11 x1.toNatClampNeg 3 0) (fun μ6 => jX1_beginAct_L9 n3 μ6 (x1 + 1)) else none
set_option maxHeartbeats 4000000 in
set_option maxRecDepth 100000 in
theorem mX1_beginAct_L9 {l : Launch} {D : va_G} {cI cH cT : ClassId} {ad : Nat → Nat → Nat} {Z : va_W} {X : Cx} (hX : HX (gC l D cI cH cT ad Z) X cX1_beginAct 2 RX1 rmX1_beginAct none) {μ' : Mu} (hQ : HQ (gC l D cI cH cT ad Z) X none μ')  : ∀ (n3 : Nat) (μ : Mu) (x1 : Int32), jX1_beginAct_L9  n3 μ x1 = some μ' → V (gC l D cI cH cT ad Z) X 2 μ 9 [(0, .ref (ad 1 0)), (1, .int x1)] [] := by
  intro n3
  induction n3 with
  | zero => intro μ x1 h; exact none_no h
  | succ n3 ih =>
    intro μ x1 h
    rw [jX1_beginAct_L9] at h
    refine r_iload_n hX dX1_beginAct_9 1 rfl ?_
    refine r_aload_n hX dX1_beginAct_10 0 rfl ?_
    refine r_get hX 1 0 kyC1 rfl rfl inlX1 4 (by decide) tw1_130 (v := .int (μ 1 0 4)) rfl dX1_beginAct_11 ?_
    refine r_icmp_ge hX (tgt := 33) dX1_beginAct_14 (by decide) (fun hc4 => ?_) (fun hc4 => ?_)
    · have h := ite_t hc4 h
      exact r_vret hX hQ (Option.some.inj h) dX1_beginAct_33
    · have h := ite_f hc4 h
      refine r_aload_n hX dX1_beginAct_17 0 rfl ?_
      refine r_get hX 1 0 kyC1 rfl rfl inlX1 3 (by decide) tw1_129 (v := .ref (ad 10 0)) rfl dX1_beginAct_18 ?_
      refine r_iload_n hX dX1_beginAct_21 1 rfl ?_
      obtain ⟨hb5, h⟩ := ite_some h
      refine r_aald hX 10 0 kyC10 rfl (t0 := 1) rfl hb5 (a := ad 11 x1.toNatClampNeg) rfl dX1_beginAct_22 ?_
      refine r_iconst hX dX1_beginAct_23 (v := 0) (by decide) ?_
      refine r_putN hX 11 x1.toNatClampNeg (kyC11 (inb_lt hb5)) rfl rfl inlX2 tyX2 tyX2_ok nmX2 3 (by decide) tn_15 rfl (tyX2_ok 3 (by decide)) rfl rfl (Nat.le_of_ble_eq_true rfl) rfl dX1_beginAct_24 (fun μ6 eμ6 => ?_)
      have h := mst_at eμ6 h
      refine r_iinc hX dX1_beginAct_27 (j := 1) (v := x1 + 1) (lv' := [(1, .int (x1 + 1)), (0, .ref (ad 1 0))]) rfl (congrArg (x1 + ·) (by decide)) (by decide) rfl ?_
      refine r_goto hX (tgt := 9) dX1_beginAct_30 (by decide) ?_
      refine r_sub [1, 0] rfl ?_
      exact ih μ6 (x1 + 1) h
noncomputable def jX1_beginAct (μ : Mu)  : Option (Mu) := (jX3_begin μ).bind (fun μ2 => jX1_beginAct_L9  fuel μ2 0)
set_option maxHeartbeats 4000000 in
set_option maxRecDepth 100000 in
theorem mX1_beginAct {l : Launch} {D : va_G} {cI cH cT : ClassId} {ad : Nat → Nat → Nat} {Z : va_W} {μ : Mu} {μ' : Mu}  (h : jX1_beginAct μ  = some μ') : CT (gC l D cI cH cT ad Z) yX1_beginAct (.code yX1_beginAct cX1_beginAct 2 none :: wsL_law) rmX1_beginAct [.ref (ad 1 0)] μ none μ' := by
  refine ct_of (own := RX1) (by decide) ⟨rfl, rfl⟩ (Nat.le_of_ble_eq_true rfl) rfl (fun X hX hQ => ?_)
  have hX : HX (gC l D cI cH cT ad Z) X cX1_beginAct 2 RX1 rmX1_beginAct none := hX
  show V (gC l D cI cH cT ad Z) X 2 μ 0 [(0, .ref (ad 1 0))] []
  unfold jX1_beginAct at h
  refine r_aload_n hX dX1_beginAct_0 0 rfl ?_
  refine r_get hX 1 0 kyC1 rfl rfl inlX1 2 (by decide) tw1_127 (v := .ref (ad 9 0)) rfl dX1_beginAct_1 ?_
  obtain ⟨μ2, hq1, h⟩ := bind_ex h
  refine r_callV hX 9 0 (As := []) (rest := []) (st' := []) (res := none) (μ' := μ2) (mX3_begin  hq1) ckV_X1_67 ⟨rfl, rfl, by decide, by decide⟩ kyC9 rfl rfl rfl rfl (Nat.le_of_ble_eq_true rfl) dX1_beginAct_4 rfl ?_
  refine r_iconst hX dX1_beginAct_7 (v := 0) (by decide) ?_
  refine r_istore_n hX dX1_beginAct_8 (lv' := [(1, .int 0), (0, .ref (ad 1 0))]) (by decide) rfl ?_
  refine r_sub [1, 0] rfl ?_
  exact mX1_beginAct_L9 hX hQ  fuel μ2 0 h
abbrev rmX4_indexOf : Room := { frames := 0, cells := 0, slots := 0, locals := 0 }
noncomputable def jX4_indexOf_L2 (μ : Mu) (x1 : Int32) (x2 : Int32) : Nat → Int32 → Option (Int32)
  | 0, _ => none
  | n1 + 1, x3 => if (μ 5 0 3) ≤ x3 then some (-4) else if inb x3 12 = true then if (μ 6 0 x3.toNatClampNeg) = x1 then if inb x3 12 = true then if (μ 7 0 x3.toNatClampNeg) = x2 then some x3 else jX4_indexOf_L2 μ x1 x2 n1 (x3 + 1) else none else jX4_indexOf_L2 μ x1 x2 n1 (x3 + 1) else none
set_option maxHeartbeats 4000000 in
set_option maxRecDepth 100000 in
theorem mX4_indexOf_L2 {l : Launch} {D : va_G} {cI cH cT : ClassId} {ad : Nat → Nat → Nat} {Z : va_W} {X : Cx} (hX : HX (gC l D cI cH cT ad Z) X cX4_indexOf 4 RX4 rmX4_indexOf (some .int)) {μ : Mu} {r : Int32} (hQ : HQ (gC l D cI cH cT ad Z) X (some (.int r)) μ) (x1 : Int32) (x2 : Int32) : ∀ (n1 : Nat) (x3 : Int32), jX4_indexOf_L2 μ x1 x2 n1 x3 = some r → V (gC l D cI cH cT ad Z) X 4 μ 2 [(0, .ref (ad 5 0)), (1, .int x1), (2, .int x2), (3, .int x3)] [] := by
  intro n1
  induction n1 with
  | zero => intro x3 h; exact none_no h
  | succ n1 ih =>
    intro x3 h
    rw [jX4_indexOf_L2] at h
    refine r_iload_n hX dX4_indexOf_2 3 rfl ?_
    refine r_aload_n hX dX4_indexOf_3 0 rfl ?_
    refine r_get hX 5 0 kyC5 rfl rfl inlX4 3 (by decide) tw1_53 (v := .int (μ 5 0 3)) rfl dX4_indexOf_4 ?_
    refine r_icmp_ge hX (tgt := 38) dX4_indexOf_7 (by decide) (fun hc2 => ?_) (fun hc2 => ?_)
    · have h := ite_t hc2 h
      refine r_bipush hX dX4_indexOf_38 (v := (-4)) (by decide) ?_
      exact r_iret hX hQ (Option.some.inj h) rfl dX4_indexOf_40
    · have h := ite_f hc2 h
      refine r_aload_n hX dX4_indexOf_10 0 rfl ?_
      refine r_get hX 5 0 kyC5 rfl rfl inlX4 0 (by decide) tw1_50 (v := .ref (ad 6 0)) rfl dX4_indexOf_11 ?_
      refine r_iload_n hX dX4_indexOf_14 3 rfl ?_
      obtain ⟨hb3, h⟩ := ite_some h
      refine r_iald hX 6 0 kyC6 rfl (t0 := 0) rfl hb3 dX4_indexOf_15 ?_
      refine r_iload_n hX dX4_indexOf_16 1 rfl ?_
      refine r_icmp_ne hX (tgt := 32) dX4_indexOf_17 (by decide) (fun hc4 => ?_) (fun hc4 => ?_)
      · have h := ite_f hc4 h
        refine r_iinc hX dX4_indexOf_32 (j := 3) (v := x3 + 1) (lv' := [(3, .int (x3 + 1)), (0, .ref (ad 5 0)), (1, .int x1), (2, .int x2)]) rfl (congrArg (x3 + ·) (by decide)) (by decide) rfl ?_
        refine r_goto hX (tgt := 2) dX4_indexOf_35 (by decide) ?_
        refine r_sub [1, 2, 3, 0] rfl ?_
        exact ih (x3 + 1) h
      · have h := ite_t hc4 h
        refine r_aload_n hX dX4_indexOf_20 0 rfl ?_
        refine r_get hX 5 0 kyC5 rfl rfl inlX4 1 (by decide) tw1_51 (v := .ref (ad 7 0)) rfl dX4_indexOf_21 ?_
        refine r_iload_n hX dX4_indexOf_24 3 rfl ?_
        obtain ⟨hb5, h⟩ := ite_some h
        refine r_iald hX 7 0 kyC7 rfl (t0 := 0) rfl hb5 dX4_indexOf_25 ?_
        refine r_iload_n hX dX4_indexOf_26 2 rfl ?_
        refine r_icmp_ne hX (tgt := 32) dX4_indexOf_27 (by decide) (fun hc6 => ?_) (fun hc6 => ?_)
        · have h := ite_f hc6 h
          refine r_iinc hX dX4_indexOf_32 (j := 3) (v := x3 + 1) (lv' := [(3, .int (x3 + 1)), (0, .ref (ad 5 0)), (1, .int x1), (2, .int x2)]) rfl (congrArg (x3 + ·) (by decide)) (by decide) rfl ?_
          refine r_goto hX (tgt := 2) dX4_indexOf_35 (by decide) ?_
          refine r_sub [1, 2, 3, 0] rfl ?_
          exact ih (x3 + 1) h
        · have h := ite_t hc6 h
          refine r_iload_n hX dX4_indexOf_30 3 rfl ?_
          exact r_iret hX hQ (Option.some.inj h) rfl dX4_indexOf_31
noncomputable def jX4_indexOf (μ : Mu) (a1 : Int32) (a2 : Int32) : Option (Int32) := jX4_indexOf_L2 μ a1 a2 fuel 0
set_option maxHeartbeats 4000000 in
set_option maxRecDepth 100000 in
theorem mX4_indexOf {l : Launch} {D : va_G} {cI cH cT : ClassId} {ad : Nat → Nat → Nat} {Z : va_W} {μ : Mu} {r : Int32} (a1 : Int32) (a2 : Int32) (h : jX4_indexOf μ a1 a2 = some r) : CT (gC l D cI cH cT ad Z) yX4_indexOf (.code yX4_indexOf cX4_indexOf 4 (some .int) :: wsL_law) rmX4_indexOf [.ref (ad 5 0), .int a1, .int a2] μ (some (.int r)) μ := by
  refine ct_of (own := RX4) (by decide) ⟨rfl, rfl⟩ (Nat.le_of_ble_eq_true rfl) rfl (fun X hX hQ => ?_)
  have hX : HX (gC l D cI cH cT ad Z) X cX4_indexOf 4 RX4 rmX4_indexOf (some .int) := hX
  show V (gC l D cI cH cT ad Z) X 4 μ 0 [(0, .ref (ad 5 0)), (1, .int a1), (2, .int a2)] []
  unfold jX4_indexOf at h
  refine r_iconst hX dX4_indexOf_0 (v := 0) (by decide) ?_
  refine r_istore_n hX dX4_indexOf_1 (lv' := [(3, .int 0), (0, .ref (ad 5 0)), (1, .int a1), (2, .int a2)]) (by decide) rfl ?_
  refine r_sub [1, 2, 3, 0] rfl ?_
  exact mX4_indexOf_L2 hX hQ a1 a2 fuel 0 h
abbrev rmX4_effectOf : Room := { frames := 0, cells := 0, slots := 0, locals := 0 }
noncomputable def jX4_effectOf (μ : Mu) (a1 : Int32) : Option (Int32) := if a1 < 0 then some 0 else if (μ 5 0 3) ≤ a1 then some 0 else if inb a1 12 = true then some (μ 8 0 a1.toNatClampNeg) else none
set_option maxHeartbeats 4000000 in
set_option maxRecDepth 100000 in
theorem mX4_effectOf {l : Launch} {D : va_G} {cI cH cT : ClassId} {ad : Nat → Nat → Nat} {Z : va_W} {μ : Mu} {r : Int32} (a1 : Int32) (h : jX4_effectOf μ a1 = some r) : CT (gC l D cI cH cT ad Z) yX4_effectOf (.code yX4_effectOf cX4_effectOf 2 (some .int) :: wsL_law) rmX4_effectOf [.ref (ad 5 0), .int a1] μ (some (.int r)) μ := by
  refine ct_of (own := RX4) (by decide) ⟨rfl, rfl⟩ (Nat.le_of_ble_eq_true rfl) rfl (fun X hX hQ => ?_)
  have hX : HX (gC l D cI cH cT ad Z) X cX4_effectOf 2 RX4 rmX4_effectOf (some .int) := hX
  show V (gC l D cI cH cT ad Z) X 2 μ 0 [(0, .ref (ad 5 0)), (1, .int a1)] []
  unfold jX4_effectOf at h
  refine r_iload_n hX dX4_effectOf_0 1 rfl ?_
  refine r_if_lt hX (tgt := 21) dX4_effectOf_1 (by decide) (fun hc1 => ?_) (fun hc1 => ?_)
  · have h := ite_t hc1 h
    refine r_iconst hX dX4_effectOf_21 (v := 0) (by decide) ?_
    exact r_iret hX hQ (Option.some.inj h) rfl dX4_effectOf_22
  · have h := ite_f hc1 h
    refine r_iload_n hX dX4_effectOf_4 1 rfl ?_
    refine r_aload_n hX dX4_effectOf_5 0 rfl ?_
    refine r_get hX 5 0 kyC5 rfl rfl inlX4 3 (by decide) tw1_53 (v := .int (μ 5 0 3)) rfl dX4_effectOf_6 ?_
    refine r_icmp_ge hX (tgt := 21) dX4_effectOf_9 (by decide) (fun hc2 => ?_) (fun hc2 => ?_)
    · have h := ite_t hc2 h
      refine r_iconst hX dX4_effectOf_21 (v := 0) (by decide) ?_
      exact r_iret hX hQ (Option.some.inj h) rfl dX4_effectOf_22
    · have h := ite_f hc2 h
      refine r_aload_n hX dX4_effectOf_12 0 rfl ?_
      refine r_get hX 5 0 kyC5 rfl rfl inlX4 2 (by decide) tw1_52 (v := .ref (ad 8 0)) rfl dX4_effectOf_13 ?_
      refine r_iload_n hX dX4_effectOf_16 1 rfl ?_
      obtain ⟨hb3, h⟩ := ite_some h
      refine r_iald hX 8 0 kyC8 rfl (t0 := 0) rfl hb3 dX4_effectOf_17 ?_
      refine r_goto hX (tgt := 22) dX4_effectOf_18 (by decide) ?_
      exact r_iret hX hQ (Option.some.inj h) rfl dX4_effectOf_22
abbrev rmX4_drop : Room := { frames := 0, cells := 0, slots := 0, locals := 0 }
noncomputable def jX4_drop (μ : Mu) (a1 : Int32) : Option (Mu) := if a1 < 0 then some μ else if a1 < (μ 5 0 3) then mst (mu_st μ 5 0 3 ((μ 5 0 3) - 1)) (fun μ3 => if inb (μ3 5 0 3) 12 = true then if inb a1 12 = true then mst (mu_st μ3 6 0 a1.toNatClampNeg (μ3 6 0 (μ3 5 0 3).toNatClampNeg)) (fun μ6 => if inb (μ6 5 0 3) 12 = true then if inb a1 12 = true then mst (mu_st μ6 7 0 a1.toNatClampNeg (μ6 7 0 (μ6 5 0 3).toNatClampNeg)) (fun μ9 => if inb (μ9 5 0 3) 12 = true then if inb a1 12 = true then mst (mu_st μ9 8 0 a1.toNatClampNeg (μ9 8 0 (μ9 5 0 3).toNatClampNeg)) (fun μ12 => some μ12) else none else none) else none else none) else none else none) else some μ
set_option maxHeartbeats 4000000 in
set_option maxRecDepth 100000 in
theorem mX4_drop {l : Launch} {D : va_G} {cI cH cT : ClassId} {ad : Nat → Nat → Nat} {Z : va_W} {μ : Mu} {μ' : Mu} (a1 : Int32) (h : jX4_drop μ a1 = some μ') : CT (gC l D cI cH cT ad Z) yX4_drop (.code yX4_drop cX4_drop 2 none :: wsL_law) rmX4_drop [.ref (ad 5 0), .int a1] μ none μ' := by
  refine ct_of (own := RX4) (by decide) ⟨rfl, rfl⟩ (Nat.le_of_ble_eq_true rfl) rfl (fun X hX hQ => ?_)
  have hX : HX (gC l D cI cH cT ad Z) X cX4_drop 2 RX4 rmX4_drop none := hX
  show V (gC l D cI cH cT ad Z) X 2 μ 0 [(0, .ref (ad 5 0)), (1, .int a1)] []
  unfold jX4_drop at h
  refine r_iload_n hX dX4_drop_0 1 rfl ?_
  refine r_if_lt hX (tgt := 12) dX4_drop_1 (by decide) (fun hc1 => ?_) (fun hc1 => ?_)
  · have h := ite_t hc1 h
    exact r_vret hX hQ (Option.some.inj h) dX4_drop_12
  · have h := ite_f hc1 h
    refine r_iload_n hX dX4_drop_4 1 rfl ?_
    refine r_aload_n hX dX4_drop_5 0 rfl ?_
    refine r_get hX 5 0 kyC5 rfl rfl inlX4 3 (by decide) tw1_53 (v := .int (μ 5 0 3)) rfl dX4_drop_6 ?_
    refine r_icmp_lt hX (tgt := 13) dX4_drop_9 (by decide) (fun hc2 => ?_) (fun hc2 => ?_)
    · have h := ite_t hc2 h
      refine r_aload_n hX dX4_drop_13 0 rfl ?_
      refine r_dup hX dX4_drop_14 rfl ?_
      refine r_get hX 5 0 kyC5 rfl rfl inlX4 3 (by decide) tw1_53 (v := .int (μ 5 0 3)) rfl dX4_drop_15 ?_
      refine r_iconst hX dX4_drop_18 (v := 1) (by decide) ?_
      refine r_isub hX dX4_drop_19 ?_
      refine r_put hX 5 0 kyC5 rfl rfl inlX4 tyX4 tyX4_ok nmX4 3 (by decide) tw1_53 rfl (tyX4_ok 3 (by decide)) rfl rfl (Nat.le_of_ble_eq_true rfl) rfl dX4_drop_20 (fun μ3 eμ3 => ?_)
      have h := mst_at eμ3 h
      refine r_aload_n hX dX4_drop_23 0 rfl ?_
      refine r_get hX 5 0 kyC5 rfl rfl inlX4 0 (by decide) tw1_50 (v := .ref (ad 6 0)) rfl dX4_drop_24 ?_
      refine r_iload_n hX dX4_drop_27 1 rfl ?_
      refine r_aload_n hX dX4_drop_28 0 rfl ?_
      refine r_get hX 5 0 kyC5 rfl rfl inlX4 0 (by decide) tw1_50 (v := .ref (ad 6 0)) rfl dX4_drop_29 ?_
      refine r_aload_n hX dX4_drop_32 0 rfl ?_
      refine r_get hX 5 0 kyC5 rfl rfl inlX4 3 (by decide) tw1_53 (v := .int (μ3 5 0 3)) rfl dX4_drop_33 ?_
      obtain ⟨hb4, h⟩ := ite_some h
      refine r_iald hX 6 0 kyC6 rfl (t0 := 0) rfl hb4 dX4_drop_36 ?_
      obtain ⟨hb5, h⟩ := ite_some h
      refine r_iast hX 6 0 kyC6 (fun _ => rfl) (t0 := 0) rfl hb5 dX4_drop_37 (fun μ6 eμ6 => ?_)
      have h := mst_at eμ6 h
      refine r_aload_n hX dX4_drop_38 0 rfl ?_
      refine r_get hX 5 0 kyC5 rfl rfl inlX4 1 (by decide) tw1_51 (v := .ref (ad 7 0)) rfl dX4_drop_39 ?_
      refine r_iload_n hX dX4_drop_42 1 rfl ?_
      refine r_aload_n hX dX4_drop_43 0 rfl ?_
      refine r_get hX 5 0 kyC5 rfl rfl inlX4 1 (by decide) tw1_51 (v := .ref (ad 7 0)) rfl dX4_drop_44 ?_
      refine r_aload_n hX dX4_drop_47 0 rfl ?_
      refine r_get hX 5 0 kyC5 rfl rfl inlX4 3 (by decide) tw1_53 (v := .int (μ6 5 0 3)) rfl dX4_drop_48 ?_
      obtain ⟨hb7, h⟩ := ite_some h
      refine r_iald hX 7 0 kyC7 rfl (t0 := 0) rfl hb7 dX4_drop_51 ?_
      obtain ⟨hb8, h⟩ := ite_some h
      refine r_iast hX 7 0 kyC7 (fun _ => rfl) (t0 := 0) rfl hb8 dX4_drop_52 (fun μ9 eμ9 => ?_)
      have h := mst_at eμ9 h
      refine r_aload_n hX dX4_drop_53 0 rfl ?_
      refine r_get hX 5 0 kyC5 rfl rfl inlX4 2 (by decide) tw1_52 (v := .ref (ad 8 0)) rfl dX4_drop_54 ?_
      refine r_iload_n hX dX4_drop_57 1 rfl ?_
      refine r_aload_n hX dX4_drop_58 0 rfl ?_
      refine r_get hX 5 0 kyC5 rfl rfl inlX4 2 (by decide) tw1_52 (v := .ref (ad 8 0)) rfl dX4_drop_59 ?_
      refine r_aload_n hX dX4_drop_62 0 rfl ?_
      refine r_get hX 5 0 kyC5 rfl rfl inlX4 3 (by decide) tw1_53 (v := .int (μ9 5 0 3)) rfl dX4_drop_63 ?_
      obtain ⟨hb10, h⟩ := ite_some h
      refine r_iald hX 8 0 kyC8 rfl (t0 := 0) rfl hb10 dX4_drop_66 ?_
      obtain ⟨hb11, h⟩ := ite_some h
      refine r_iast hX 8 0 kyC8 (fun _ => rfl) (t0 := 0) rfl hb11 dX4_drop_67 (fun μ12 eμ12 => ?_)
      have h := mst_at eμ12 h
      exact r_vret hX hQ (Option.some.inj h) dX4_drop_68
    · have h := ite_f hc2 h
      exact r_vret hX hQ (Option.some.inj h) dX4_drop_12
abbrev rmX3_fail : Room := { frames := 0, cells := 0, slots := 0, locals := 0 }
noncomputable def jX3_fail (μ : Mu) (a1 : Int32) (a2 : Int32) (a3 : Int32) : Option (Mu) := mst (mu_st μ 9 0 0 a1) (fun μ1 => mst (mu_st μ1 9 0 1 a2) (fun μ2 => mst (mu_st μ2 9 0 2 a3) (fun μ3 => mst (mu_st μ3 9 0 5 ((μ3 9 0 5) + 1)) (fun μ4 => some μ4))))
set_option maxHeartbeats 4000000 in
set_option maxRecDepth 100000 in
theorem mX3_fail {l : Launch} {D : va_G} {cI cH cT : ClassId} {ad : Nat → Nat → Nat} {Z : va_W} {μ : Mu} {μ' : Mu} (a1 : Int32) (a2 : Int32) (a3 : Int32) (h : jX3_fail μ a1 a2 a3 = some μ') : CT (gC l D cI cH cT ad Z) yX3_fail (.code yX3_fail cX3_fail 4 none :: wsL_law) rmX3_fail [.ref (ad 9 0), .int a1, .int a2, .int a3] μ none μ' := by
  refine ct_of (own := RX3) (by decide) ⟨rfl, rfl⟩ (Nat.le_of_ble_eq_true rfl) rfl (fun X hX hQ => ?_)
  have hX : HX (gC l D cI cH cT ad Z) X cX3_fail 4 RX3 rmX3_fail none := hX
  show V (gC l D cI cH cT ad Z) X 4 μ 0 [(0, .ref (ad 9 0)), (1, .int a1), (2, .int a2), (3, .int a3)] []
  unfold jX3_fail at h
  refine r_aload_n hX dX3_fail_0 0 rfl ?_
  refine r_iload_n hX dX3_fail_1 1 rfl ?_
  refine r_put hX 9 0 kyC9 rfl rfl inlX3 tyX3 tyX3_ok nmX3 0 (by decide) tw1_70 rfl (tyX3_ok 0 (by decide)) rfl rfl (Nat.le_of_ble_eq_true rfl) rfl dX3_fail_2 (fun μ1 eμ1 => ?_)
  have h := mst_at eμ1 h
  refine r_aload_n hX dX3_fail_5 0 rfl ?_
  refine r_iload_n hX dX3_fail_6 2 rfl ?_
  refine r_put hX 9 0 kyC9 rfl rfl inlX3 tyX3 tyX3_ok nmX3 1 (by decide) tw1_72 rfl (tyX3_ok 1 (by decide)) rfl rfl (Nat.le_of_ble_eq_true rfl) rfl dX3_fail_7 (fun μ2 eμ2 => ?_)
  have h := mst_at eμ2 h
  refine r_aload_n hX dX3_fail_10 0 rfl ?_
  refine r_iload_n hX dX3_fail_11 3 rfl ?_
  refine r_put hX 9 0 kyC9 rfl rfl inlX3 tyX3 tyX3_ok nmX3 2 (by decide) tw1_74 rfl (tyX3_ok 2 (by decide)) rfl rfl (Nat.le_of_ble_eq_true rfl) rfl dX3_fail_12 (fun μ3 eμ3 => ?_)
  have h := mst_at eμ3 h
  refine r_aload_n hX dX3_fail_15 0 rfl ?_
  refine r_dup hX dX3_fail_16 rfl ?_
  refine r_get hX 9 0 kyC9 rfl rfl inlX3 5 (by decide) tw1_80 (v := .int (μ3 9 0 5)) rfl dX3_fail_17 ?_
  refine r_iconst hX dX3_fail_20 (v := 1) (by decide) ?_
  refine r_iadd hX dX3_fail_21 ?_
  refine r_put hX 9 0 kyC9 rfl rfl inlX3 tyX3 tyX3_ok nmX3 5 (by decide) tw1_80 rfl (tyX3_ok 5 (by decide)) rfl rfl (Nat.le_of_ble_eq_true rfl) rfl dX3_fail_22 (fun μ4 eμ4 => ?_)
  have h := mst_at eμ4 h
  exact r_vret hX hQ (Option.some.inj h) dX3_fail_25
abbrev rmX1_beginCall : Room := { frames := 1, cells := 0, slots := 0, locals := 23 }
noncomputable def jX1_beginCall (μ : Mu) (a1 : Int32) : Option (Int32 × Mu) := (jX1_hasHook μ a1).bind (fun r2 => if r2 = 0 then some (0, μ) else if inb a1 8 = true then mst (mu_st μ 11 a1.toNatClampNeg 2 ((μ 11 a1.toNatClampNeg 2) + 1)) (fun μ5 => mst (mu_st μ5 11 a1.toNatClampNeg 3 ((μ5 11 a1.toNatClampNeg 3) + 1)) (fun μ6 => (jX4_indexOf μ6 a1 (μ6 11 a1.toNatClampNeg 2)).bind (fun r8 => (jX4_effectOf μ6 r8).bind (fun r10 => (jX4_drop μ6 r8).bind (fun μ12 => if r10 ≤ 0 then if r10 = (-2) then mst (mu_st μ12 11 a1.toNatClampNeg 4 ((μ12 11 a1.toNatClampNeg 4) + 1)) (fun μ15 => some (r10, μ15)) else some (r10, μ12) else (jX3_fail μ12 r10 a1 (μ12 11 a1.toNatClampNeg 2)).bind (fun μ17 => some (r10, μ17))))))) else none)
set_option maxHeartbeats 4000000 in
set_option maxRecDepth 100000 in
theorem mX1_beginCall {l : Launch} {D : va_G} {cI cH cT : ClassId} {ad : Nat → Nat → Nat} {Z : va_W} {μ : Mu} {r : Int32} {μ' : Mu} (a1 : Int32) (h : jX1_beginCall μ a1 = some (r, μ')) : CT (gC l D cI cH cT ad Z) yX1_beginCall (.code yX1_beginCall cX1_beginCall 5 (some .int) :: wsL_law) rmX1_beginCall [.ref (ad 1 0), .int a1] μ (some (.int r)) μ' := by
  refine ct_of (own := RX1) (by decide) ⟨rfl, rfl⟩ (Nat.le_of_ble_eq_true rfl) rfl (fun X hX hQ => ?_)
  have hX : HX (gC l D cI cH cT ad Z) X cX1_beginCall 5 RX1 rmX1_beginCall (some .int) := hX
  show V (gC l D cI cH cT ad Z) X 5 μ 0 [(0, .ref (ad 1 0)), (1, .int a1)] []
  unfold jX1_beginCall at h
  refine r_aload_n hX dX1_beginCall_0 0 rfl ?_
  refine r_iload_n hX dX1_beginCall_1 1 rfl ?_
  obtain ⟨r2, hq1, h⟩ := bind_ex h
  refine r_callV hX 1 0 (As := [.int a1]) (rest := []) (st' := [.int r2]) (res := (some (.int r2))) (μ' := μ) (mX1_hasHook a1 hq1) ckV_X1_47 ⟨rfl, rfl, by decide, by decide⟩ kyC1 rfl rfl rfl rfl (Nat.le_of_ble_eq_true rfl) dX1_beginCall_2 rfl ?_
  refine r_if_ne hX (tgt := 10) dX1_beginCall_5 (by decide) (fun hc3 => ?_) (fun hc3 => ?_)
  · have h := ite_f hc3 h
    refine r_aload_n hX dX1_beginCall_10 0 rfl ?_
    refine r_get hX 1 0 kyC1 rfl rfl inlX1 3 (by decide) tw1_129 (v := .ref (ad 10 0)) rfl dX1_beginCall_11 ?_
    refine r_iload_n hX dX1_beginCall_14 1 rfl ?_
    obtain ⟨hb4, h⟩ := ite_some h
    refine r_aald hX 10 0 kyC10 rfl (t0 := 1) rfl hb4 (a := ad 11 a1.toNatClampNeg) rfl dX1_beginCall_15 ?_
    refine r_astore_n hX dX1_beginCall_16 (lv' := [(2, .ref (ad 11 a1.toNatClampNeg)), (0, .ref (ad 1 0)), (1, .int a1)]) (by decide) rfl ?_
    refine r_aload_n hX dX1_beginCall_17 0 rfl ?_
    refine r_dup hX dX1_beginCall_18 rfl ?_
    refine r_getN hX 11 a1.toNatClampNeg (kyC11 (inb_lt hb4)) rfl rfl inlX2 2 (by decide) tn_14 (v := .int (μ 11 a1.toNatClampNeg 2)) rfl dX1_beginCall_19 ?_
    refine r_iconst hX dX1_beginCall_22 (v := 1) (by decide) ?_
    refine r_iadd hX dX1_beginCall_23 ?_
    refine r_putN hX 11 a1.toNatClampNeg (kyC11 (inb_lt hb4)) rfl rfl inlX2 tyX2 tyX2_ok nmX2 2 (by decide) tn_14 rfl (tyX2_ok 2 (by decide)) rfl rfl (Nat.le_of_ble_eq_true rfl) rfl dX1_beginCall_24 (fun μ5 eμ5 => ?_)
    have h := mst_at eμ5 h
    refine r_aload_n hX dX1_beginCall_27 0 rfl ?_
    refine r_dup hX dX1_beginCall_28 rfl ?_
    refine r_getN hX 11 a1.toNatClampNeg (kyC11 (inb_lt hb4)) rfl rfl inlX2 3 (by decide) tn_15 (v := .int (μ5 11 a1.toNatClampNeg 3)) rfl dX1_beginCall_29 ?_
    refine r_iconst hX dX1_beginCall_32 (v := 1) (by decide) ?_
    refine r_iadd hX dX1_beginCall_33 ?_
    refine r_putN hX 11 a1.toNatClampNeg (kyC11 (inb_lt hb4)) rfl rfl inlX2 tyX2 tyX2_ok nmX2 3 (by decide) tn_15 rfl (tyX2_ok 3 (by decide)) rfl rfl (Nat.le_of_ble_eq_true rfl) rfl dX1_beginCall_34 (fun μ6 eμ6 => ?_)
    have h := mst_at eμ6 h
    refine r_aload_n hX dX1_beginCall_37 1 rfl ?_
    refine r_get hX 1 0 kyC1 rfl rfl inlX1 1 (by decide) tw1_125 (v := .ref (ad 5 0)) rfl dX1_beginCall_38 ?_
    refine r_iload_n hX dX1_beginCall_41 2 rfl ?_
    refine r_aload_n hX dX1_beginCall_42 0 rfl ?_
    refine r_getN hX 11 a1.toNatClampNeg (kyC11 (inb_lt hb4)) rfl rfl inlX2 2 (by decide) tn_14 (v := .int (μ6 11 a1.toNatClampNeg 2)) rfl dX1_beginCall_43 ?_
    obtain ⟨r8, hq7, h⟩ := bind_ex h
    refine r_callV hX 5 0 (As := [.int a1, .int (μ6 11 a1.toNatClampNeg 2)]) (rest := []) (st' := [.int r8]) (res := (some (.int r8))) (μ' := μ6) (mX4_indexOf a1 (μ6 11 a1.toNatClampNeg 2) hq7) ckV_X1_98 ⟨rfl, rfl, by decide, by decide⟩ kyC5 rfl rfl rfl rfl (Nat.le_of_ble_eq_true rfl) dX1_beginCall_46 rfl ?_
    refine r_istore_n hX dX1_beginCall_49 (lv' := [(3, .int r8), (2, .ref (ad 11 a1.toNatClampNeg)), (0, .ref (ad 1 0)), (1, .int a1)]) (by decide) rfl ?_
    refine r_aload_n hX dX1_beginCall_50 2 rfl ?_
    refine r_get hX 1 0 kyC1 rfl rfl inlX1 1 (by decide) tw1_125 (v := .ref (ad 5 0)) rfl dX1_beginCall_51 ?_
    refine r_iload_n hX dX1_beginCall_54 0 rfl ?_
    obtain ⟨r10, hq9, h⟩ := bind_ex h
    refine r_callV hX 5 0 (As := [.int r8]) (rest := []) (st' := [.int r10]) (res := (some (.int r10))) (μ' := μ6) (mX4_effectOf r8 hq9) ckV_X1_101 ⟨rfl, rfl, by decide, by decide⟩ kyC5 rfl rfl rfl rfl (Nat.le_of_ble_eq_true rfl) dX1_beginCall_55 rfl ?_
    refine r_istore hX dX1_beginCall_58 (lv' := [(4, .int r10), (3, .int r8), (2, .ref (ad 11 a1.toNatClampNeg)), (0, .ref (ad 1 0)), (1, .int a1)]) (by decide) rfl ?_
    refine r_aload_n hX dX1_beginCall_60 3 rfl ?_
    refine r_get hX 1 0 kyC1 rfl rfl inlX1 1 (by decide) tw1_125 (v := .ref (ad 5 0)) rfl dX1_beginCall_61 ?_
    refine r_iload_n hX dX1_beginCall_64 1 rfl ?_
    obtain ⟨μ12, hq11, h⟩ := bind_ex h
    refine r_callV hX 5 0 (As := [.int r8]) (rest := []) (st' := []) (res := none) (μ' := μ12) (mX4_drop r8 hq11) ckV_X1_104 ⟨rfl, rfl, by decide, by decide⟩ kyC5 rfl rfl rfl rfl (Nat.le_of_ble_eq_true rfl) dX1_beginCall_65 rfl ?_
    refine r_iload hX dX1_beginCall_68 0 rfl ?_
    refine r_if_le hX (tgt := 90) dX1_beginCall_70 (by decide) (fun hc13 => ?_) (fun hc13 => ?_)
    · have h := ite_t hc13 h
      refine r_iload hX dX1_beginCall_90 0 rfl ?_
      refine r_bipush hX dX1_beginCall_92 (v := (-2)) (by decide) ?_
      refine r_icmp_ne hX (tgt := 107) dX1_beginCall_94 (by decide) (fun hc14 => ?_) (fun hc14 => ?_)
      · have h := ite_f hc14 h
        refine r_iload hX dX1_beginCall_107 0 rfl ?_
        exact r_iret hX hQ (pr1 h) (pr2 h) dX1_beginCall_109
      · have h := ite_t hc14 h
        refine r_aload_n hX dX1_beginCall_97 2 rfl ?_
        refine r_dup hX dX1_beginCall_98 rfl ?_
        refine r_getN hX 11 a1.toNatClampNeg (kyC11 (inb_lt hb4)) rfl rfl inlX2 4 (by decide) tn_16 (v := .int (μ12 11 a1.toNatClampNeg 4)) rfl dX1_beginCall_99 ?_
        refine r_iconst hX dX1_beginCall_102 (v := 1) (by decide) ?_
        refine r_iadd hX dX1_beginCall_103 ?_
        refine r_putN hX 11 a1.toNatClampNeg (kyC11 (inb_lt hb4)) rfl rfl inlX2 tyX2 tyX2_ok nmX2 4 (by decide) tn_16 rfl (tyX2_ok 4 (by decide)) rfl rfl (Nat.le_of_ble_eq_true rfl) rfl dX1_beginCall_104 (fun μ15 eμ15 => ?_)
        have h := mst_at eμ15 h
        refine r_iload hX dX1_beginCall_107 0 rfl ?_
        exact r_iret hX hQ (pr1 h) (pr2 h) dX1_beginCall_109
    · have h := ite_f hc13 h
      refine r_aload_n hX dX1_beginCall_73 3 rfl ?_
      refine r_get hX 1 0 kyC1 rfl rfl inlX1 2 (by decide) tw1_127 (v := .ref (ad 9 0)) rfl dX1_beginCall_74 ?_
      refine r_iload hX dX1_beginCall_77 0 rfl ?_
      refine r_iload_n hX dX1_beginCall_79 4 rfl ?_
      refine r_aload_n hX dX1_beginCall_80 2 rfl ?_
      refine r_getN hX 11 a1.toNatClampNeg (kyC11 (inb_lt hb4)) rfl rfl inlX2 2 (by decide) tn_14 (v := .int (μ12 11 a1.toNatClampNeg 2)) rfl dX1_beginCall_81 ?_
      obtain ⟨μ17, hq16, h⟩ := bind_ex h
      refine r_callV hX 9 0 (As := [.int r10, .int a1, .int (μ12 11 a1.toNatClampNeg 2)]) (rest := []) (st' := []) (res := none) (μ' := μ17) (mX3_fail r10 a1 (μ12 11 a1.toNatClampNeg 2) hq16) ckV_X1_108 ⟨rfl, rfl, by decide, by decide⟩ kyC9 rfl rfl rfl rfl (Nat.le_of_ble_eq_true rfl) dX1_beginCall_84 rfl ?_
      refine r_goto hX (tgt := 107) dX1_beginCall_87 (by decide) ?_
      refine r_iload hX dX1_beginCall_107 0 rfl ?_
      exact r_iret hX hQ (pr1 h) (pr2 h) dX1_beginCall_109
  · have h := ite_t hc3 h
    refine r_iconst hX dX1_beginCall_8 (v := 0) (by decide) ?_
    exact r_iret hX hQ (pr1 h) (pr2 h) dX1_beginCall_9
abbrev rmJ6_compare_7cf53 : Room := { frames := 0, cells := 0, slots := 0, locals := 0 }
noncomputable def jJ6_compare_7cf53 (a1 : Int32) (a2 : Int32) : Option (Int32) := if a2 ≤ a1 then if a1 = a2 then some 0 else some 1 else some (-1)
set_option maxHeartbeats 4000000 in
set_option maxRecDepth 100000 in
theorem mJ6_compare_7cf53 {G : Gx} {μ : Mu} {r : Int32} (a1 : Int32) (a2 : Int32) (h : jJ6_compare_7cf53 a1 a2 = some r) : CT G yJ6_compare_7cf53 (.code yJ6_compare_7cf53 cJ6_compare_7cf53 2 (some .int) :: wsL_law) rmJ6_compare_7cf53 [.int a1, .int a2] μ (some (.int r)) μ := by
  refine ct_of (own := RJ6) (by decide) ⟨rfl, rfl⟩ (Nat.le_of_ble_eq_true rfl) rfl (fun X hX hQ => ?_)
  have hX : HX G X cJ6_compare_7cf53 2 RJ6 rmJ6_compare_7cf53 (some .int) := hX
  show V G X 2 μ 0 [(0, .int a1), (1, .int a2)] []
  unfold jJ6_compare_7cf53 at h
  refine r_iload_n hX dJ6_compare_7cf53_0 0 rfl ?_
  refine r_iload_n hX dJ6_compare_7cf53_1 1 rfl ?_
  refine r_icmp_ge hX (tgt := 9) dJ6_compare_7cf53_2 (by decide) (fun hc1 => ?_) (fun hc1 => ?_)
  · have h := ite_t hc1 h
    refine r_iload_n hX dJ6_compare_7cf53_9 0 rfl ?_
    refine r_iload_n hX dJ6_compare_7cf53_10 1 rfl ?_
    refine r_icmp_ne hX (tgt := 18) dJ6_compare_7cf53_11 (by decide) (fun hc2 => ?_) (fun hc2 => ?_)
    · have h := ite_f hc2 h
      refine r_iconst hX dJ6_compare_7cf53_18 (v := 1) (by decide) ?_
      exact r_iret hX hQ (Option.some.inj h) rfl dJ6_compare_7cf53_19
    · have h := ite_t hc2 h
      refine r_iconst hX dJ6_compare_7cf53_14 (v := 0) (by decide) ?_
      refine r_goto hX (tgt := 19) dJ6_compare_7cf53_15 (by decide) ?_
      exact r_iret hX hQ (Option.some.inj h) rfl dJ6_compare_7cf53_19
  · have h := ite_f hc1 h
    refine r_iconst hX dJ6_compare_7cf53_5 (v := (-1)) (by decide) ?_
    refine r_goto hX (tgt := 19) dJ6_compare_7cf53_6 (by decide) ?_
    exact r_iret hX hQ (Option.some.inj h) rfl dJ6_compare_7cf53_19
abbrev rmX1_compareTruly : Room := { frames := 1, cells := 0, slots := 0, locals := 21 }
noncomputable def jX1_compareTruly (μ : Mu) (a1 : Int32) (a2 : Int32) (a3 : Int32) : Option (Int32) := (jX1_hasHook μ a1).bind (fun r2 => if r2 = 0 then some 0 else (jX0_weightOf μ a2).bind (fun r5 => (jX0_weightOf μ a3).bind (fun r7 => (jJ6_compare_7cf53 r5 r7).bind (fun r9 => if inb a1 8 = true then if (μ 11 a1.toNatClampNeg 0) = 0 then some r9 else if (μ 11 a1.toNatClampNeg 0) = 1 then some (-r9) else if (μ 11 a1.toNatClampNeg 0) = 2 then (jX0_markOf μ a2).bind (fun r15 => (jX0_markOf μ a3).bind (fun r17 => (jJ6_compare_7cf53 r15 r17).bind (fun r19 => if r19 = 0 then some r9 else some r19))) else some 0 else none))))
set_option maxHeartbeats 4000000 in
set_option maxRecDepth 100000 in
theorem mX1_compareTruly {l : Launch} {D : va_G} {cI cH cT : ClassId} {ad : Nat → Nat → Nat} {Z : va_W} {μ : Mu} {r : Int32} (a1 : Int32) (a2 : Int32) (a3 : Int32) (h : jX1_compareTruly μ a1 a2 a3 = some r) : CT (gC l D cI cH cT ad Z) yX1_compareTruly (.code yX1_compareTruly cX1_compareTruly 6 (some .int) :: wsL_law) rmX1_compareTruly [.ref (ad 1 0), .int a1, .int a2, .int a3] μ (some (.int r)) μ := by
  refine ct_of (own := RX1) (by decide) ⟨rfl, rfl⟩ (Nat.le_of_ble_eq_true rfl) rfl (fun X hX hQ => ?_)
  have hX : HX (gC l D cI cH cT ad Z) X cX1_compareTruly 6 RX1 rmX1_compareTruly (some .int) := hX
  show V (gC l D cI cH cT ad Z) X 6 μ 0 [(0, .ref (ad 1 0)), (1, .int a1), (2, .int a2), (3, .int a3)] []
  unfold jX1_compareTruly at h
  refine r_aload_n hX dX1_compareTruly_0 0 rfl ?_
  refine r_iload_n hX dX1_compareTruly_1 1 rfl ?_
  obtain ⟨r2, hq1, h⟩ := bind_ex h
  refine r_callV hX 1 0 (As := [.int a1]) (rest := []) (st' := [.int r2]) (res := (some (.int r2))) (μ' := μ) (mX1_hasHook a1 hq1) ckV_X1_47 ⟨rfl, rfl, by decide, by decide⟩ kyC1 rfl rfl rfl rfl (Nat.le_of_ble_eq_true rfl) dX1_compareTruly_2 rfl ?_
  refine r_if_ne hX (tgt := 10) dX1_compareTruly_5 (by decide) (fun hc3 => ?_) (fun hc3 => ?_)
  · have h := ite_f hc3 h
    refine r_aload_n hX dX1_compareTruly_10 0 rfl ?_
    refine r_get hX 1 0 kyC1 rfl rfl inlX1 0 (by decide) tw1_123 (v := .ref (ad 2 0)) rfl dX1_compareTruly_11 ?_
    refine r_iload_n hX dX1_compareTruly_14 2 rfl ?_
    obtain ⟨r5, hq4, h⟩ := bind_ex h
    refine r_callV hX 2 0 (As := [.int a2]) (rest := []) (st' := [.int r5]) (res := (some (.int r5))) (μ' := μ) (mX0_weightOf a2 hq4) ckV_X1_77 ⟨rfl, rfl, by decide, by decide⟩ kyC2 rfl rfl rfl rfl (Nat.le_of_ble_eq_true rfl) dX1_compareTruly_15 rfl ?_
    refine r_aload_n hX dX1_compareTruly_18 0 rfl ?_
    refine r_get hX 1 0 kyC1 rfl rfl inlX1 0 (by decide) tw1_123 (v := .ref (ad 2 0)) rfl dX1_compareTruly_19 ?_
    refine r_iload_n hX dX1_compareTruly_22 3 rfl ?_
    obtain ⟨r7, hq6, h⟩ := bind_ex h
    refine r_callV hX 2 0 (As := [.int a3]) (rest := [.int r5]) (st' := [.int r7, .int r5]) (res := (some (.int r7))) (μ' := μ) (mX0_weightOf a3 hq6) ckV_X1_77 ⟨rfl, rfl, by decide, by decide⟩ kyC2 rfl rfl rfl rfl (Nat.le_of_ble_eq_true rfl) dX1_compareTruly_23 rfl ?_
    obtain ⟨r9, hq8, h⟩ := bind_ex h
    refine r_callS hX (As := [.int r5, .int r7]) (rest := []) (st' := [.int r9]) (res := (some (.int r9))) (μ' := μ) (mJ6_compare_7cf53 r5 r7 hq8) ckS_X1_90 ⟨rfl, rfl, by decide, by decide⟩ rfl rfl (Nat.le_of_ble_eq_true rfl) dX1_compareTruly_26 rfl ?_
    refine r_istore hX dX1_compareTruly_29 (lv' := [(4, .int r9), (0, .ref (ad 1 0)), (1, .int a1), (2, .int a2), (3, .int a3)]) (by decide) rfl ?_
    refine r_aload_n hX dX1_compareTruly_31 1 rfl ?_
    refine r_get hX 1 0 kyC1 rfl rfl inlX1 3 (by decide) tw1_129 (v := .ref (ad 10 0)) rfl dX1_compareTruly_32 ?_
    refine r_iload_n hX dX1_compareTruly_35 2 rfl ?_
    obtain ⟨hb10, h⟩ := ite_some h
    refine r_aald hX 10 0 kyC10 rfl (t0 := 1) rfl hb10 (a := ad 11 a1.toNatClampNeg) rfl dX1_compareTruly_36 ?_
    refine r_getN hX 11 a1.toNatClampNeg (kyC11 (inb_lt hb10)) rfl rfl inlX2 0 (by decide) tn_12 (v := .int (μ 11 a1.toNatClampNeg 0)) rfl dX1_compareTruly_37 ?_
    by_cases hc11 : (μ 11 a1.toNatClampNeg 0) = 0
    · have h := ite_t hc11 h
      refine r_tsw hX (tgt := 68) dX1_compareTruly_40 0 hc11 (by decide) (by decide) rfl (by decide) ?_
      refine r_iload hX dX1_compareTruly_68 0 rfl ?_
      exact r_iret hX hQ (Option.some.inj h) rfl dX1_compareTruly_70
    · have h := ite_f hc11 h
      by_cases hc12 : (μ 11 a1.toNatClampNeg 0) = 1
      · have h := ite_t hc12 h
        refine r_tsw hX (tgt := 71) dX1_compareTruly_40 1 hc12 (by decide) (by decide) rfl (by decide) ?_
        refine r_iload hX dX1_compareTruly_71 0 rfl ?_
        refine r_ineg hX dX1_compareTruly_73 ?_
        exact r_iret hX hQ (Option.some.inj h) rfl dX1_compareTruly_74
      · have h := ite_f hc12 h
        by_cases hc13 : (μ 11 a1.toNatClampNeg 0) = 2
        · have h := ite_t hc13 h
          refine r_tsw hX (tgt := 75) dX1_compareTruly_40 2 hc13 (by decide) (by decide) rfl (by decide) ?_
          refine r_aload_n hX dX1_compareTruly_75 1 rfl ?_
          refine r_get hX 1 0 kyC1 rfl rfl inlX1 0 (by decide) tw1_123 (v := .ref (ad 2 0)) rfl dX1_compareTruly_76 ?_
          refine r_iload_n hX dX1_compareTruly_79 3 rfl ?_
          obtain ⟨r15, hq14, h⟩ := bind_ex h
          refine r_callV hX 2 0 (As := [.int a2]) (rest := []) (st' := [.int r15]) (res := (some (.int r15))) (μ' := μ) (mX0_markOf a2 hq14) ckV_X1_83 ⟨rfl, rfl, by decide, by decide⟩ kyC2 rfl rfl rfl rfl (Nat.le_of_ble_eq_true rfl) dX1_compareTruly_80 rfl ?_
          refine r_aload_n hX dX1_compareTruly_83 1 rfl ?_
          refine r_get hX 1 0 kyC1 rfl rfl inlX1 0 (by decide) tw1_123 (v := .ref (ad 2 0)) rfl dX1_compareTruly_84 ?_
          refine r_iload_n hX dX1_compareTruly_87 4 rfl ?_
          obtain ⟨r17, hq16, h⟩ := bind_ex h
          refine r_callV hX 2 0 (As := [.int a3]) (rest := [.int r15]) (st' := [.int r17, .int r15]) (res := (some (.int r17))) (μ' := μ) (mX0_markOf a3 hq16) ckV_X1_83 ⟨rfl, rfl, by decide, by decide⟩ kyC2 rfl rfl rfl rfl (Nat.le_of_ble_eq_true rfl) dX1_compareTruly_88 rfl ?_
          obtain ⟨r19, hq18, h⟩ := bind_ex h
          refine r_callS hX (As := [.int r15, .int r17]) (rest := []) (st' := [.int r19]) (res := (some (.int r19))) (μ' := μ) (mJ6_compare_7cf53 r15 r17 hq18) ckS_X1_90 ⟨rfl, rfl, by decide, by decide⟩ rfl rfl (Nat.le_of_ble_eq_true rfl) dX1_compareTruly_91 rfl ?_
          refine r_istore hX dX1_compareTruly_94 (lv' := [(5, .int r19), (4, .int r9), (0, .ref (ad 1 0)), (1, .int a1), (2, .int a2), (3, .int a3)]) (by decide) rfl ?_
          refine r_iload hX dX1_compareTruly_96 0 rfl ?_
          refine r_if_eq hX (tgt := 106) dX1_compareTruly_98 (by decide) (fun hc20 => ?_) (fun hc20 => ?_)
          · have h := ite_t hc20 h
            refine r_iload hX dX1_compareTruly_106 1 rfl ?_
            exact r_iret hX hQ (Option.some.inj h) rfl dX1_compareTruly_108
          · have h := ite_f hc20 h
            refine r_iload hX dX1_compareTruly_101 0 rfl ?_
            refine r_goto hX (tgt := 108) dX1_compareTruly_103 (by decide) ?_
            exact r_iret hX hQ (Option.some.inj h) rfl dX1_compareTruly_108
        · have h := ite_f hc13 h
          refine r_tswo hX (tgt := 109) dX1_compareTruly_40 (sw_out 3 (by decide) (fun j hj => by rcases (show j = 0 ∨ j = 1 ∨ j = 2 by omega) with rfl | rfl | rfl <;> first | exact hc11 | exact hc12 | exact hc13)) (by decide) ?_
          refine r_iconst hX dX1_compareTruly_109 (v := 0) (by decide) ?_
          exact r_iret hX hQ (Option.some.inj h) rfl dX1_compareTruly_110
  · have h := ite_t hc3 h
    refine r_iconst hX dX1_compareTruly_8 (v := 0) (by decide) ?_
    exact r_iret hX hQ (Option.some.inj h) rfl dX1_compareTruly_9
abbrev rmX1_askComparing : Room := { frames := 2, cells := 0, slots := 0, locals := 47 }
noncomputable def jX1_askComparing (μ : Mu) (a1 : Int32) (a2 : Int32) (a3 : Int32) : Option (Int32 × Mu) := (jX1_beginCall μ a1).bind (fun q2 => if q2.1 ≤ 0 then (jX1_compareTruly q2.2 a1 a2 a3).bind (fun r5 => if q2.1 = (-1) then some (-r5, q2.2) else some (r5, q2.2)) else some ((-11), q2.2))
set_option maxHeartbeats 4000000 in
set_option maxRecDepth 100000 in
theorem mX1_askComparing {l : Launch} {D : va_G} {cI cH cT : ClassId} {ad : Nat → Nat → Nat} {Z : va_W} {μ : Mu} {r : Int32} {μ' : Mu} (a1 : Int32) (a2 : Int32) (a3 : Int32) (h : jX1_askComparing μ a1 a2 a3 = some (r, μ')) : CT (gC l D cI cH cT ad Z) yX1_askComparing (.code yX1_askComparing cX1_askComparing 6 (some .int) :: wsL_law) rmX1_askComparing [.ref (ad 1 0), .int a1, .int a2, .int a3] μ (some (.int r)) μ' := by
  refine ct_of (own := RX1) (by decide) ⟨rfl, rfl⟩ (Nat.le_of_ble_eq_true rfl) rfl (fun X hX hQ => ?_)
  have hX : HX (gC l D cI cH cT ad Z) X cX1_askComparing 6 RX1 rmX1_askComparing (some .int) := hX
  show V (gC l D cI cH cT ad Z) X 6 μ 0 [(0, .ref (ad 1 0)), (1, .int a1), (2, .int a2), (3, .int a3)] []
  unfold jX1_askComparing at h
  refine r_aload_n hX dX1_askComparing_0 0 rfl ?_
  refine r_iload_n hX dX1_askComparing_1 1 rfl ?_
  obtain ⟨q2, hq1, h⟩ := bind_ex h
  refine r_callV hX 1 0 (As := [.int a1]) (rest := []) (st' := [.int q2.1]) (res := (some (.int q2.1))) (μ' := q2.2) (mX1_beginCall a1 hq1) ckV_X1_70 ⟨rfl, rfl, by decide, by decide⟩ kyC1 rfl rfl rfl rfl (Nat.le_of_ble_eq_true rfl) dX1_askComparing_2 rfl ?_
  refine r_istore hX dX1_askComparing_5 (lv' := [(4, .int q2.1), (0, .ref (ad 1 0)), (1, .int a1), (2, .int a2), (3, .int a3)]) (by decide) rfl ?_
  refine r_iload hX dX1_askComparing_7 0 rfl ?_
  refine r_if_le hX (tgt := 15) dX1_askComparing_9 (by decide) (fun hc3 => ?_) (fun hc3 => ?_)
  · have h := ite_t hc3 h
    refine r_aload_n hX dX1_askComparing_15 1 rfl ?_
    refine r_iload_n hX dX1_askComparing_16 2 rfl ?_
    refine r_iload_n hX dX1_askComparing_17 3 rfl ?_
    refine r_iload_n hX dX1_askComparing_18 4 rfl ?_
    obtain ⟨r5, hq4, h⟩ := bind_ex h
    refine r_callV hX 1 0 (As := [.int a1, .int a2, .int a3]) (rest := []) (st' := [.int r5]) (res := (some (.int r5))) (μ' := q2.2) (mX1_compareTruly a1 a2 a3 hq4) ckV_X1_73 ⟨rfl, rfl, by decide, by decide⟩ kyC1 rfl rfl rfl rfl (Nat.le_of_ble_eq_true rfl) dX1_askComparing_19 rfl ?_
    refine r_istore hX dX1_askComparing_22 (lv' := [(5, .int r5), (4, .int q2.1), (0, .ref (ad 1 0)), (1, .int a1), (2, .int a2), (3, .int a3)]) (by decide) rfl ?_
    refine r_iload hX dX1_askComparing_24 1 rfl ?_
    refine r_iconst hX dX1_askComparing_26 (v := (-1)) (by decide) ?_
    refine r_icmp_ne hX (tgt := 36) dX1_askComparing_27 (by decide) (fun hc6 => ?_) (fun hc6 => ?_)
    · have h := ite_f hc6 h
      refine r_iload hX dX1_askComparing_36 0 rfl ?_
      exact r_iret hX hQ (pr1 h) (pr2 h) dX1_askComparing_38
    · have h := ite_t hc6 h
      refine r_iload hX dX1_askComparing_30 0 rfl ?_
      refine r_ineg hX dX1_askComparing_32 ?_
      refine r_goto hX (tgt := 38) dX1_askComparing_33 (by decide) ?_
      exact r_iret hX hQ (pr1 h) (pr2 h) dX1_askComparing_38
  · have h := ite_f hc3 h
    refine r_bipush hX dX1_askComparing_12 (v := (-11)) (by decide) ?_
    exact r_iret hX hQ (pr1 h) (pr2 h) dX1_askComparing_14
abbrev rmX1_numberOf : Room := { frames := 1, cells := 0, slots := 0, locals := 21 }
noncomputable def jX1_numberOf (μ : Mu) (a1 : Int32) : Option (Int32) := (jX1_hasHook μ a1).bind (fun r2 => if r2 = 0 then some 0 else if inb a1 8 = true then some (μ 11 a1.toNatClampNeg 1) else none)
set_option maxHeartbeats 4000000 in
set_option maxRecDepth 100000 in
theorem mX1_numberOf {l : Launch} {D : va_G} {cI cH cT : ClassId} {ad : Nat → Nat → Nat} {Z : va_W} {μ : Mu} {r : Int32} (a1 : Int32) (h : jX1_numberOf μ a1 = some r) : CT (gC l D cI cH cT ad Z) yX1_numberOf (.code yX1_numberOf cX1_numberOf 2 (some .int) :: wsL_law) rmX1_numberOf [.ref (ad 1 0), .int a1] μ (some (.int r)) μ := by
  refine ct_of (own := RX1) (by decide) ⟨rfl, rfl⟩ (Nat.le_of_ble_eq_true rfl) rfl (fun X hX hQ => ?_)
  have hX : HX (gC l D cI cH cT ad Z) X cX1_numberOf 2 RX1 rmX1_numberOf (some .int) := hX
  show V (gC l D cI cH cT ad Z) X 2 μ 0 [(0, .ref (ad 1 0)), (1, .int a1)] []
  unfold jX1_numberOf at h
  refine r_aload_n hX dX1_numberOf_0 0 rfl ?_
  refine r_iload_n hX dX1_numberOf_1 1 rfl ?_
  obtain ⟨r2, hq1, h⟩ := bind_ex h
  refine r_callV hX 1 0 (As := [.int a1]) (rest := []) (st' := [.int r2]) (res := (some (.int r2))) (μ' := μ) (mX1_hasHook a1 hq1) ckV_X1_47 ⟨rfl, rfl, by decide, by decide⟩ kyC1 rfl rfl rfl rfl (Nat.le_of_ble_eq_true rfl) dX1_numberOf_2 rfl ?_
  refine r_if_eq hX (tgt := 20) dX1_numberOf_5 (by decide) (fun hc3 => ?_) (fun hc3 => ?_)
  · have h := ite_t hc3 h
    refine r_iconst hX dX1_numberOf_20 (v := 0) (by decide) ?_
    exact r_iret hX hQ (Option.some.inj h) rfl dX1_numberOf_21
  · have h := ite_f hc3 h
    refine r_aload_n hX dX1_numberOf_8 0 rfl ?_
    refine r_get hX 1 0 kyC1 rfl rfl inlX1 3 (by decide) tw1_129 (v := .ref (ad 10 0)) rfl dX1_numberOf_9 ?_
    refine r_iload_n hX dX1_numberOf_12 1 rfl ?_
    obtain ⟨hb4, h⟩ := ite_some h
    refine r_aald hX 10 0 kyC10 rfl (t0 := 1) rfl hb4 (a := ad 11 a1.toNatClampNeg) rfl dX1_numberOf_13 ?_
    refine r_getN hX 11 a1.toNatClampNeg (kyC11 (inb_lt hb4)) rfl rfl inlX2 1 (by decide) tn_13 (v := .int (μ 11 a1.toNatClampNeg 1)) rfl dX1_numberOf_14 ?_
    refine r_goto hX (tgt := 21) dX1_numberOf_17 (by decide) ?_
    exact r_iret hX hQ (Option.some.inj h) rfl dX1_numberOf_21
abbrev rmX1_askKeeping : Room := { frames := 2, cells := 0, slots := 0, locals := 47 }
noncomputable def jX1_askKeeping (μ : Mu) (a1 : Int32) (a2 : Int32) : Option (Int32 × Mu) := (jX1_beginCall μ a1).bind (fun q2 => if q2.1 ≤ 0 then (jX0_weightOf q2.2 a2).bind (fun r5 => (jX1_numberOf q2.2 a1).bind (fun r7 => if r5 < r7 then if q2.1 = (-1) then some (1 - 0, q2.2) else some (0, q2.2) else if q2.1 = (-1) then some (1 - 1, q2.2) else some (1, q2.2))) else some ((-11), q2.2))
set_option maxHeartbeats 4000000 in
set_option maxRecDepth 100000 in
theorem mX1_askKeeping {l : Launch} {D : va_G} {cI cH cT : ClassId} {ad : Nat → Nat → Nat} {Z : va_W} {μ : Mu} {r : Int32} {μ' : Mu} (a1 : Int32) (a2 : Int32) (h : jX1_askKeeping μ a1 a2 = some (r, μ')) : CT (gC l D cI cH cT ad Z) yX1_askKeeping (.code yX1_askKeeping cX1_askKeeping 5 (some .int) :: wsL_law) rmX1_askKeeping [.ref (ad 1 0), .int a1, .int a2] μ (some (.int r)) μ' := by
  refine ct_of (own := RX1) (by decide) ⟨rfl, rfl⟩ (Nat.le_of_ble_eq_true rfl) rfl (fun X hX hQ => ?_)
  have hX : HX (gC l D cI cH cT ad Z) X cX1_askKeeping 5 RX1 rmX1_askKeeping (some .int) := hX
  show V (gC l D cI cH cT ad Z) X 5 μ 0 [(0, .ref (ad 1 0)), (1, .int a1), (2, .int a2)] []
  unfold jX1_askKeeping at h
  refine r_aload_n hX dX1_askKeeping_0 0 rfl ?_
  refine r_iload_n hX dX1_askKeeping_1 1 rfl ?_
  obtain ⟨q2, hq1, h⟩ := bind_ex h
  refine r_callV hX 1 0 (As := [.int a1]) (rest := []) (st' := [.int q2.1]) (res := (some (.int q2.1))) (μ' := q2.2) (mX1_beginCall a1 hq1) ckV_X1_70 ⟨rfl, rfl, by decide, by decide⟩ kyC1 rfl rfl rfl rfl (Nat.le_of_ble_eq_true rfl) dX1_askKeeping_2 rfl ?_
  refine r_istore_n hX dX1_askKeeping_5 (lv' := [(3, .int q2.1), (0, .ref (ad 1 0)), (1, .int a1), (2, .int a2)]) (by decide) rfl ?_
  refine r_iload_n hX dX1_askKeeping_6 0 rfl ?_
  refine r_if_le hX (tgt := 13) dX1_askKeeping_7 (by decide) (fun hc3 => ?_) (fun hc3 => ?_)
  · have h := ite_t hc3 h
    refine r_aload_n hX dX1_askKeeping_13 1 rfl ?_
    refine r_get hX 1 0 kyC1 rfl rfl inlX1 0 (by decide) tw1_123 (v := .ref (ad 2 0)) rfl dX1_askKeeping_14 ?_
    refine r_iload_n hX dX1_askKeeping_17 3 rfl ?_
    obtain ⟨r5, hq4, h⟩ := bind_ex h
    refine r_callV hX 2 0 (As := [.int a2]) (rest := []) (st' := [.int r5]) (res := (some (.int r5))) (μ' := q2.2) (mX0_weightOf a2 hq4) ckV_X1_77 ⟨rfl, rfl, by decide, by decide⟩ kyC2 rfl rfl rfl rfl (Nat.le_of_ble_eq_true rfl) dX1_askKeeping_18 rfl ?_
    refine r_aload_n hX dX1_askKeeping_21 1 rfl ?_
    refine r_iload_n hX dX1_askKeeping_22 2 rfl ?_
    obtain ⟨r7, hq6, h⟩ := bind_ex h
    refine r_callV hX 1 0 (As := [.int a1]) (rest := [.int r5]) (st' := [.int r7, .int r5]) (res := (some (.int r7))) (μ' := q2.2) (mX1_numberOf a1 hq6) ckV_X1_80 ⟨rfl, rfl, by decide, by decide⟩ kyC1 rfl rfl rfl rfl (Nat.le_of_ble_eq_true rfl) dX1_askKeeping_23 rfl ?_
    refine r_icmp_lt hX (tgt := 33) dX1_askKeeping_26 (by decide) (fun hc8 => ?_) (fun hc8 => ?_)
    · have h := ite_t hc8 h
      refine r_iconst hX dX1_askKeeping_33 (v := 0) (by decide) ?_
      refine r_istore hX dX1_askKeeping_34 (lv' := [(4, .int 0), (3, .int q2.1), (0, .ref (ad 1 0)), (1, .int a1), (2, .int a2)]) (by decide) rfl ?_
      refine r_iload_n hX dX1_askKeeping_36 1 rfl ?_
      refine r_iconst hX dX1_askKeeping_37 (v := (-1)) (by decide) ?_
      refine r_icmp_ne hX (tgt := 48) dX1_askKeeping_38 (by decide) (fun hc9 => ?_) (fun hc9 => ?_)
      · have h := ite_f hc9 h
        refine r_iload hX dX1_askKeeping_48 0 rfl ?_
        exact r_iret hX hQ (pr1 h) (pr2 h) dX1_askKeeping_50
      · have h := ite_t hc9 h
        refine r_iconst hX dX1_askKeeping_41 (v := 1) (by decide) ?_
        refine r_iload hX dX1_askKeeping_42 0 rfl ?_
        refine r_isub hX dX1_askKeeping_44 ?_
        refine r_goto hX (tgt := 50) dX1_askKeeping_45 (by decide) ?_
        exact r_iret hX hQ (pr1 h) (pr2 h) dX1_askKeeping_50
    · have h := ite_f hc8 h
      refine r_iconst hX dX1_askKeeping_29 (v := 1) (by decide) ?_
      refine r_goto hX (tgt := 34) dX1_askKeeping_30 (by decide) ?_
      refine r_istore hX dX1_askKeeping_34 (lv' := [(4, .int 1), (3, .int q2.1), (0, .ref (ad 1 0)), (1, .int a1), (2, .int a2)]) (by decide) rfl ?_
      refine r_iload_n hX dX1_askKeeping_36 1 rfl ?_
      refine r_iconst hX dX1_askKeeping_37 (v := (-1)) (by decide) ?_
      refine r_icmp_ne hX (tgt := 48) dX1_askKeeping_38 (by decide) (fun hc10 => ?_) (fun hc10 => ?_)
      · have h := ite_f hc10 h
        refine r_iload hX dX1_askKeeping_48 0 rfl ?_
        exact r_iret hX hQ (pr1 h) (pr2 h) dX1_askKeeping_50
      · have h := ite_t hc10 h
        refine r_iconst hX dX1_askKeeping_41 (v := 1) (by decide) ?_
        refine r_iload hX dX1_askKeeping_42 0 rfl ?_
        refine r_isub hX dX1_askKeeping_44 ?_
        refine r_goto hX (tgt := 50) dX1_askKeeping_45 (by decide) ?_
        exact r_iret hX hQ (pr1 h) (pr2 h) dX1_askKeeping_50
  · have h := ite_f hc3 h
    refine r_bipush hX dX1_askKeeping_10 (v := (-11)) (by decide) ?_
    exact r_iret hX hQ (pr1 h) (pr2 h) dX1_askKeeping_12
abbrev rmX1_askAdding : Room := { frames := 2, cells := 0, slots := 0, locals := 47 }
noncomputable def jX1_askAdding (μ : Mu) (a1 : Int32) (a2 : Int32) : Option (Int32 × Mu) := (jX1_beginCall μ a1).bind (fun q2 => if q2.1 ≤ 0 then (jX0_weightOf q2.2 a2).bind (fun r5 => (jX1_numberOf q2.2 a1).bind (fun r7 => if q2.1 = (-1) then (jX0_markOf q2.2 a2).bind (fun r14 => (jX0_add q2.2 (r5 - r7) r14).bind (fun q16 => some (q16.1, q16.2))) else (jX0_markOf q2.2 a2).bind (fun r10 => (jX0_add q2.2 (r5 + r7) r10).bind (fun q12 => some (q12.1, q12.2))))) else some ((-11), q2.2))
set_option maxHeartbeats 4000000 in
set_option maxRecDepth 100000 in
theorem mX1_askAdding {l : Launch} {D : va_G} {cI cH cT : ClassId} {ad : Nat → Nat → Nat} {Z : va_W} {μ : Mu} {r : Int32} {μ' : Mu} (a1 : Int32) (a2 : Int32) (h : jX1_askAdding μ a1 a2 = some (r, μ')) : CT (gC l D cI cH cT ad Z) yX1_askAdding (.code yX1_askAdding cX1_askAdding 6 (some .int) :: wsL_law) rmX1_askAdding [.ref (ad 1 0), .int a1, .int a2] μ (some (.int r)) μ' := by
  refine ct_of (own := RX1) (by decide) ⟨rfl, rfl⟩ (Nat.le_of_ble_eq_true rfl) rfl (fun X hX hQ => ?_)
  have hX : HX (gC l D cI cH cT ad Z) X cX1_askAdding 6 RX1 rmX1_askAdding (some .int) := hX
  show V (gC l D cI cH cT ad Z) X 6 μ 0 [(0, .ref (ad 1 0)), (1, .int a1), (2, .int a2)] []
  unfold jX1_askAdding at h
  refine r_aload_n hX dX1_askAdding_0 0 rfl ?_
  refine r_iload_n hX dX1_askAdding_1 1 rfl ?_
  obtain ⟨q2, hq1, h⟩ := bind_ex h
  refine r_callV hX 1 0 (As := [.int a1]) (rest := []) (st' := [.int q2.1]) (res := (some (.int q2.1))) (μ' := q2.2) (mX1_beginCall a1 hq1) ckV_X1_70 ⟨rfl, rfl, by decide, by decide⟩ kyC1 rfl rfl rfl rfl (Nat.le_of_ble_eq_true rfl) dX1_askAdding_2 rfl ?_
  refine r_istore_n hX dX1_askAdding_5 (lv' := [(3, .int q2.1), (0, .ref (ad 1 0)), (1, .int a1), (2, .int a2)]) (by decide) rfl ?_
  refine r_iload_n hX dX1_askAdding_6 0 rfl ?_
  refine r_if_le hX (tgt := 13) dX1_askAdding_7 (by decide) (fun hc3 => ?_) (fun hc3 => ?_)
  · have h := ite_t hc3 h
    refine r_aload_n hX dX1_askAdding_13 1 rfl ?_
    refine r_get hX 1 0 kyC1 rfl rfl inlX1 0 (by decide) tw1_123 (v := .ref (ad 2 0)) rfl dX1_askAdding_14 ?_
    refine r_iload_n hX dX1_askAdding_17 3 rfl ?_
    obtain ⟨r5, hq4, h⟩ := bind_ex h
    refine r_callV hX 2 0 (As := [.int a2]) (rest := []) (st' := [.int r5]) (res := (some (.int r5))) (μ' := q2.2) (mX0_weightOf a2 hq4) ckV_X1_77 ⟨rfl, rfl, by decide, by decide⟩ kyC2 rfl rfl rfl rfl (Nat.le_of_ble_eq_true rfl) dX1_askAdding_18 rfl ?_
    refine r_istore hX dX1_askAdding_21 (lv' := [(4, .int r5), (3, .int q2.1), (0, .ref (ad 1 0)), (1, .int a1), (2, .int a2)]) (by decide) rfl ?_
    refine r_aload_n hX dX1_askAdding_23 2 rfl ?_
    refine r_iload_n hX dX1_askAdding_24 3 rfl ?_
    obtain ⟨r7, hq6, h⟩ := bind_ex h
    refine r_callV hX 1 0 (As := [.int a1]) (rest := []) (st' := [.int r7]) (res := (some (.int r7))) (μ' := q2.2) (mX1_numberOf a1 hq6) ckV_X1_80 ⟨rfl, rfl, by decide, by decide⟩ kyC1 rfl rfl rfl rfl (Nat.le_of_ble_eq_true rfl) dX1_askAdding_25 rfl ?_
    refine r_istore hX dX1_askAdding_28 (lv' := [(5, .int r7), (4, .int r5), (3, .int q2.1), (0, .ref (ad 1 0)), (1, .int a1), (2, .int a2)]) (by decide) rfl ?_
    refine r_aload_n hX dX1_askAdding_30 3 rfl ?_
    refine r_get hX 1 0 kyC1 rfl rfl inlX1 0 (by decide) tw1_123 (v := .ref (ad 2 0)) rfl dX1_askAdding_31 ?_
    refine r_iload_n hX dX1_askAdding_34 2 rfl ?_
    refine r_iconst hX dX1_askAdding_35 (v := (-1)) (by decide) ?_
    refine r_icmp_ne hX (tgt := 47) dX1_askAdding_36 (by decide) (fun hc8 => ?_) (fun hc8 => ?_)
    · have h := ite_f hc8 h
      refine r_iload hX dX1_askAdding_47 1 rfl ?_
      refine r_iload hX dX1_askAdding_49 0 rfl ?_
      refine r_iadd hX dX1_askAdding_51 ?_
      refine r_aload_n hX dX1_askAdding_52 3 rfl ?_
      refine r_get hX 1 0 kyC1 rfl rfl inlX1 0 (by decide) tw1_123 (v := .ref (ad 2 0)) rfl dX1_askAdding_53 ?_
      refine r_iload_n hX dX1_askAdding_56 5 rfl ?_
      obtain ⟨r10, hq9, h⟩ := bind_ex h
      refine r_callV hX 2 0 (As := [.int a2]) (rest := [.int (r5 + r7), .ref (ad 2 0)]) (st' := [.int r10, .int (r5 + r7), .ref (ad 2 0)]) (res := (some (.int r10))) (μ' := q2.2) (mX0_markOf a2 hq9) ckV_X1_83 ⟨rfl, rfl, by decide, by decide⟩ kyC2 rfl rfl rfl rfl (Nat.le_of_ble_eq_true rfl) dX1_askAdding_57 rfl ?_
      obtain ⟨q12, hq11, h⟩ := bind_ex h
      refine r_callV hX 2 0 (As := [.int (r5 + r7), .int r10]) (rest := []) (st' := [.int q12.1]) (res := (some (.int q12.1))) (μ' := q12.2) (mX0_add (r5 + r7) r10 hq11) ckV_X1_86 ⟨rfl, rfl, by decide, by decide⟩ kyC2 rfl rfl rfl rfl (Nat.le_of_ble_eq_true rfl) dX1_askAdding_60 rfl ?_
      exact r_iret hX hQ (pr1 h) (pr2 h) dX1_askAdding_63
    · have h := ite_t hc8 h
      refine r_iload hX dX1_askAdding_39 1 rfl ?_
      refine r_iload hX dX1_askAdding_41 0 rfl ?_
      refine r_isub hX dX1_askAdding_43 ?_
      refine r_goto hX (tgt := 52) dX1_askAdding_44 (by decide) ?_
      refine r_aload_n hX dX1_askAdding_52 3 rfl ?_
      refine r_get hX 1 0 kyC1 rfl rfl inlX1 0 (by decide) tw1_123 (v := .ref (ad 2 0)) rfl dX1_askAdding_53 ?_
      refine r_iload_n hX dX1_askAdding_56 5 rfl ?_
      obtain ⟨r14, hq13, h⟩ := bind_ex h
      refine r_callV hX 2 0 (As := [.int a2]) (rest := [.int (r5 - r7), .ref (ad 2 0)]) (st' := [.int r14, .int (r5 - r7), .ref (ad 2 0)]) (res := (some (.int r14))) (μ' := q2.2) (mX0_markOf a2 hq13) ckV_X1_83 ⟨rfl, rfl, by decide, by decide⟩ kyC2 rfl rfl rfl rfl (Nat.le_of_ble_eq_true rfl) dX1_askAdding_57 rfl ?_
      obtain ⟨q16, hq15, h⟩ := bind_ex h
      refine r_callV hX 2 0 (As := [.int (r5 - r7), .int r14]) (rest := []) (st' := [.int q16.1]) (res := (some (.int q16.1))) (μ' := q16.2) (mX0_add (r5 - r7) r14 hq15) ckV_X1_86 ⟨rfl, rfl, by decide, by decide⟩ kyC2 rfl rfl rfl rfl (Nat.le_of_ble_eq_true rfl) dX1_askAdding_60 rfl ?_
      exact r_iret hX hQ (pr1 h) (pr2 h) dX1_askAdding_63
  · have h := ite_f hc3 h
    refine r_bipush hX dX1_askAdding_10 (v := (-11)) (by decide) ?_
    exact r_iret hX hQ (pr1 h) (pr2 h) dX1_askAdding_12
abbrev rmX4_stand : Room := { frames := 1, cells := 0, slots := 0, locals := 23 }
noncomputable def jX4_stand (μ : Mu) (a1 : Int32) (a2 : Int32) (a3 : Int32) : Option (Int32 × Mu) := (jX4_indexOf μ a1 a2).bind (fun r2 => if r2 = (-4) then if (μ 5 0 3) < 12 then mst (mu_st μ 5 0 3 ((μ 5 0 3) + 1)) (fun μ11 => if inb (μ 5 0 3) 12 = true then mst (mu_st μ11 6 0 (μ 5 0 3).toNatClampNeg a1) (fun μ13 => if inb (μ 5 0 3) 12 = true then mst (mu_st μ13 7 0 (μ 5 0 3).toNatClampNeg a2) (fun μ15 => if inb (μ 5 0 3) 12 = true then mst (mu_st μ15 8 0 (μ 5 0 3).toNatClampNeg a3) (fun μ17 => some (μ17 5 0 3, μ17)) else none) else none) else none) else some ((-3), μ) else if inb r2 12 = true then mst (mu_st μ 6 0 r2.toNatClampNeg a1) (fun μ5 => if inb r2 12 = true then mst (mu_st μ5 7 0 r2.toNatClampNeg a2) (fun μ7 => if inb r2 12 = true then mst (mu_st μ7 8 0 r2.toNatClampNeg a3) (fun μ9 => some (μ9 5 0 3, μ9)) else none) else none) else none)
set_option maxHeartbeats 4000000 in
set_option maxRecDepth 100000 in
theorem mX4_stand {l : Launch} {D : va_G} {cI cH cT : ClassId} {ad : Nat → Nat → Nat} {Z : va_W} {μ : Mu} {r : Int32} {μ' : Mu} (a1 : Int32) (a2 : Int32) (a3 : Int32) (h : jX4_stand μ a1 a2 a3 = some (r, μ')) : CT (gC l D cI cH cT ad Z) yX4_stand (.code yX4_stand cX4_stand 5 (some .int) :: wsL_law) rmX4_stand [.ref (ad 5 0), .int a1, .int a2, .int a3] μ (some (.int r)) μ' := by
  refine ct_of (own := RX4) (by decide) ⟨rfl, rfl⟩ (Nat.le_of_ble_eq_true rfl) rfl (fun X hX hQ => ?_)
  have hX : HX (gC l D cI cH cT ad Z) X cX4_stand 5 RX4 rmX4_stand (some .int) := hX
  show V (gC l D cI cH cT ad Z) X 5 μ 0 [(0, .ref (ad 5 0)), (1, .int a1), (2, .int a2), (3, .int a3)] []
  unfold jX4_stand at h
  refine r_aload_n hX dX4_stand_0 0 rfl ?_
  refine r_iload_n hX dX4_stand_1 1 rfl ?_
  refine r_iload_n hX dX4_stand_2 2 rfl ?_
  obtain ⟨r2, hq1, h⟩ := bind_ex h
  refine r_callV hX 5 0 (As := [.int a1, .int a2]) (rest := []) (st' := [.int r2]) (res := (some (.int r2))) (μ' := μ) (mX4_indexOf a1 a2 hq1) ckV_X4_25 ⟨rfl, rfl, by decide, by decide⟩ kyC5 rfl rfl rfl rfl (Nat.le_of_ble_eq_true rfl) dX4_stand_3 rfl ?_
  refine r_istore hX dX4_stand_6 (lv' := [(4, .int r2), (0, .ref (ad 5 0)), (1, .int a1), (2, .int a2), (3, .int a3)]) (by decide) rfl ?_
  refine r_iload hX dX4_stand_8 0 rfl ?_
  refine r_bipush hX dX4_stand_10 (v := (-4)) (by decide) ?_
  refine r_icmp_ne hX (tgt := 43) dX4_stand_12 (by decide) (fun hc3 => ?_) (fun hc3 => ?_)
  · have h := ite_f hc3 h
    refine r_aload_n hX dX4_stand_43 1 rfl ?_
    refine r_get hX 5 0 kyC5 rfl rfl inlX4 0 (by decide) tw1_50 (v := .ref (ad 6 0)) rfl dX4_stand_44 ?_
    refine r_iload hX dX4_stand_47 0 rfl ?_
    refine r_iload_n hX dX4_stand_49 2 rfl ?_
    obtain ⟨hb4, h⟩ := ite_some h
    refine r_iast hX 6 0 kyC6 (fun _ => rfl) (t0 := 0) rfl hb4 dX4_stand_50 (fun μ5 eμ5 => ?_)
    have h := mst_at eμ5 h
    refine r_aload_n hX dX4_stand_51 1 rfl ?_
    refine r_get hX 5 0 kyC5 rfl rfl inlX4 1 (by decide) tw1_51 (v := .ref (ad 7 0)) rfl dX4_stand_52 ?_
    refine r_iload hX dX4_stand_55 0 rfl ?_
    refine r_iload_n hX dX4_stand_57 3 rfl ?_
    obtain ⟨hb6, h⟩ := ite_some h
    refine r_iast hX 7 0 kyC7 (fun _ => rfl) (t0 := 0) rfl hb6 dX4_stand_58 (fun μ7 eμ7 => ?_)
    have h := mst_at eμ7 h
    refine r_aload_n hX dX4_stand_59 1 rfl ?_
    refine r_get hX 5 0 kyC5 rfl rfl inlX4 2 (by decide) tw1_52 (v := .ref (ad 8 0)) rfl dX4_stand_60 ?_
    refine r_iload hX dX4_stand_63 0 rfl ?_
    refine r_iload_n hX dX4_stand_65 4 rfl ?_
    obtain ⟨hb8, h⟩ := ite_some h
    refine r_iast hX 8 0 kyC8 (fun _ => rfl) (t0 := 0) rfl hb8 dX4_stand_66 (fun μ9 eμ9 => ?_)
    have h := mst_at eμ9 h
    refine r_aload_n hX dX4_stand_67 1 rfl ?_
    refine r_get hX 5 0 kyC5 rfl rfl inlX4 3 (by decide) tw1_53 (v := .int (μ9 5 0 3)) rfl dX4_stand_68 ?_
    exact r_iret hX hQ (pr1 h) (pr2 h) dX4_stand_71
  · have h := ite_t hc3 h
    refine r_aload_n hX dX4_stand_15 1 rfl ?_
    refine r_get hX 5 0 kyC5 rfl rfl inlX4 3 (by decide) tw1_53 (v := .int (μ 5 0 3)) rfl dX4_stand_16 ?_
    refine r_bipush hX dX4_stand_19 (v := 12) (by decide) ?_
    refine r_icmp_lt hX (tgt := 27) dX4_stand_21 (by decide) (fun hc10 => ?_) (fun hc10 => ?_)
    · have h := ite_t hc10 h
      refine r_aload_n hX dX4_stand_27 1 rfl ?_
      refine r_get hX 5 0 kyC5 rfl rfl inlX4 3 (by decide) tw1_53 (v := .int (μ 5 0 3)) rfl dX4_stand_28 ?_
      refine r_istore hX dX4_stand_31 (lv' := [(4, .int (μ 5 0 3)), (0, .ref (ad 5 0)), (1, .int a1), (2, .int a2), (3, .int a3)]) (by decide) rfl ?_
      refine r_aload_n hX dX4_stand_33 1 rfl ?_
      refine r_dup hX dX4_stand_34 rfl ?_
      refine r_get hX 5 0 kyC5 rfl rfl inlX4 3 (by decide) tw1_53 (v := .int (μ 5 0 3)) rfl dX4_stand_35 ?_
      refine r_iconst hX dX4_stand_38 (v := 1) (by decide) ?_
      refine r_iadd hX dX4_stand_39 ?_
      refine r_put hX 5 0 kyC5 rfl rfl inlX4 tyX4 tyX4_ok nmX4 3 (by decide) tw1_53 rfl (tyX4_ok 3 (by decide)) rfl rfl (Nat.le_of_ble_eq_true rfl) rfl dX4_stand_40 (fun μ11 eμ11 => ?_)
      have h := mst_at eμ11 h
      refine r_aload_n hX dX4_stand_43 1 rfl ?_
      refine r_get hX 5 0 kyC5 rfl rfl inlX4 0 (by decide) tw1_50 (v := .ref (ad 6 0)) rfl dX4_stand_44 ?_
      refine r_iload hX dX4_stand_47 0 rfl ?_
      refine r_iload_n hX dX4_stand_49 2 rfl ?_
      obtain ⟨hb12, h⟩ := ite_some h
      refine r_iast hX 6 0 kyC6 (fun _ => rfl) (t0 := 0) rfl hb12 dX4_stand_50 (fun μ13 eμ13 => ?_)
      have h := mst_at eμ13 h
      refine r_aload_n hX dX4_stand_51 1 rfl ?_
      refine r_get hX 5 0 kyC5 rfl rfl inlX4 1 (by decide) tw1_51 (v := .ref (ad 7 0)) rfl dX4_stand_52 ?_
      refine r_iload hX dX4_stand_55 0 rfl ?_
      refine r_iload_n hX dX4_stand_57 3 rfl ?_
      obtain ⟨hb14, h⟩ := ite_some h
      refine r_iast hX 7 0 kyC7 (fun _ => rfl) (t0 := 0) rfl hb14 dX4_stand_58 (fun μ15 eμ15 => ?_)
      have h := mst_at eμ15 h
      refine r_aload_n hX dX4_stand_59 1 rfl ?_
      refine r_get hX 5 0 kyC5 rfl rfl inlX4 2 (by decide) tw1_52 (v := .ref (ad 8 0)) rfl dX4_stand_60 ?_
      refine r_iload hX dX4_stand_63 0 rfl ?_
      refine r_iload_n hX dX4_stand_65 4 rfl ?_
      obtain ⟨hb16, h⟩ := ite_some h
      refine r_iast hX 8 0 kyC8 (fun _ => rfl) (t0 := 0) rfl hb16 dX4_stand_66 (fun μ17 eμ17 => ?_)
      have h := mst_at eμ17 h
      refine r_aload_n hX dX4_stand_67 1 rfl ?_
      refine r_get hX 5 0 kyC5 rfl rfl inlX4 3 (by decide) tw1_53 (v := .int (μ17 5 0 3)) rfl dX4_stand_68 ?_
      exact r_iret hX hQ (pr1 h) (pr2 h) dX4_stand_71
    · have h := ite_f hc10 h
      refine r_bipush hX dX4_stand_24 (v := (-3)) (by decide) ?_
      exact r_iret hX hQ (pr1 h) (pr2 h) dX4_stand_26
abbrev rmX4_clear : Room := { frames := 0, cells := 0, slots := 0, locals := 0 }
noncomputable def jX4_clear (μ : Mu)  : Option (Int32 × Mu) := mst (mu_st μ 5 0 3 0) (fun μ1 => some (μ 5 0 3, μ1))
set_option maxHeartbeats 4000000 in
set_option maxRecDepth 100000 in
theorem mX4_clear {l : Launch} {D : va_G} {cI cH cT : ClassId} {ad : Nat → Nat → Nat} {Z : va_W} {μ : Mu} {r : Int32} {μ' : Mu}  (h : jX4_clear μ  = some (r, μ')) : CT (gC l D cI cH cT ad Z) yX4_clear (.code yX4_clear cX4_clear 2 (some .int) :: wsL_law) rmX4_clear [.ref (ad 5 0)] μ (some (.int r)) μ' := by
  refine ct_of (own := RX4) (by decide) ⟨rfl, rfl⟩ (Nat.le_of_ble_eq_true rfl) rfl (fun X hX hQ => ?_)
  have hX : HX (gC l D cI cH cT ad Z) X cX4_clear 2 RX4 rmX4_clear (some .int) := hX
  show V (gC l D cI cH cT ad Z) X 2 μ 0 [(0, .ref (ad 5 0))] []
  unfold jX4_clear at h
  refine r_aload_n hX dX4_clear_0 0 rfl ?_
  refine r_get hX 5 0 kyC5 rfl rfl inlX4 3 (by decide) tw1_53 (v := .int (μ 5 0 3)) rfl dX4_clear_1 ?_
  refine r_istore_n hX dX4_clear_4 (lv' := [(1, .int (μ 5 0 3)), (0, .ref (ad 5 0))]) (by decide) rfl ?_
  refine r_aload_n hX dX4_clear_5 1 rfl ?_
  refine r_iconst hX dX4_clear_6 (v := 0) (by decide) ?_
  refine r_put hX 5 0 kyC5 rfl rfl inlX4 tyX4 tyX4_ok nmX4 3 (by decide) tw1_53 rfl (tyX4_ok 3 (by decide)) rfl rfl (Nat.le_of_ble_eq_true rfl) rfl dX4_clear_7 (fun μ1 eμ1 => ?_)
  have h := mst_at eμ1 h
  refine r_iload_n hX dX4_clear_10 0 rfl ?_
  exact r_iret hX hQ (pr1 h) (pr2 h) dX4_clear_11
abbrev rmX4_standingFor : Room := { frames := 0, cells := 0, slots := 0, locals := 0 }
noncomputable def jX4_standingFor_L4 (μ : Mu) (x1 : Int32) : Nat → Int32 → Int32 → Option (Int32)
  | 0, _, _ => none
  | n1 + 1, x2, x3 => if (μ 5 0 3) ≤ x3 then some x2 else if inb x3 12 = true then if (μ 6 0 x3.toNatClampNeg) = x1 then jX4_standingFor_L4 μ x1 n1 (x2 + 1) (x3 + 1) else jX4_standingFor_L4 μ x1 n1 x2 (x3 + 1) else none
set_option maxHeartbeats 4000000 in
set_option maxRecDepth 100000 in
theorem mX4_standingFor_L4 {l : Launch} {D : va_G} {cI cH cT : ClassId} {ad : Nat → Nat → Nat} {Z : va_W} {X : Cx} (hX : HX (gC l D cI cH cT ad Z) X cX4_standingFor 4 RX4 rmX4_standingFor (some .int)) {μ : Mu} {r : Int32} (hQ : HQ (gC l D cI cH cT ad Z) X (some (.int r)) μ) (x1 : Int32) : ∀ (n1 : Nat) (x2 : Int32) (x3 : Int32), jX4_standingFor_L4 μ x1 n1 x2 x3 = some r → V (gC l D cI cH cT ad Z) X 4 μ 4 [(0, .ref (ad 5 0)), (1, .int x1), (2, .int x2), (3, .int x3)] [] := by
  intro n1
  induction n1 with
  | zero => intro x2 x3 h; exact none_no h
  | succ n1 ih =>
    intro x2 x3 h
    rw [jX4_standingFor_L4] at h
    refine r_iload_n hX dX4_standingFor_4 3 rfl ?_
    refine r_aload_n hX dX4_standingFor_5 0 rfl ?_
    refine r_get hX 5 0 kyC5 rfl rfl inlX4 3 (by decide) tw1_53 (v := .int (μ 5 0 3)) rfl dX4_standingFor_6 ?_
    refine r_icmp_ge hX (tgt := 31) dX4_standingFor_9 (by decide) (fun hc2 => ?_) (fun hc2 => ?_)
    · have h := ite_t hc2 h
      refine r_iload_n hX dX4_standingFor_31 2 rfl ?_
      exact r_iret hX hQ (Option.some.inj h) rfl dX4_standingFor_32
    · have h := ite_f hc2 h
      refine r_aload_n hX dX4_standingFor_12 0 rfl ?_
      refine r_get hX 5 0 kyC5 rfl rfl inlX4 0 (by decide) tw1_50 (v := .ref (ad 6 0)) rfl dX4_standingFor_13 ?_
      refine r_iload_n hX dX4_standingFor_16 3 rfl ?_
      obtain ⟨hb3, h⟩ := ite_some h
      refine r_iald hX 6 0 kyC6 rfl (t0 := 0) rfl hb3 dX4_standingFor_17 ?_
      refine r_iload_n hX dX4_standingFor_18 1 rfl ?_
      refine r_icmp_ne hX (tgt := 25) dX4_standingFor_19 (by decide) (fun hc4 => ?_) (fun hc4 => ?_)
      · have h := ite_f hc4 h
        refine r_iinc hX dX4_standingFor_25 (j := 3) (v := x3 + 1) (lv' := [(3, .int (x3 + 1)), (0, .ref (ad 5 0)), (1, .int x1), (2, .int x2)]) rfl (congrArg (x3 + ·) (by decide)) (by decide) rfl ?_
        refine r_goto hX (tgt := 4) dX4_standingFor_28 (by decide) ?_
        refine r_sub [1, 2, 3, 0] rfl ?_
        exact ih x2 (x3 + 1) h
      · have h := ite_t hc4 h
        refine r_iinc hX dX4_standingFor_22 (j := 2) (v := x2 + 1) (lv' := [(2, .int (x2 + 1)), (0, .ref (ad 5 0)), (1, .int x1), (3, .int x3)]) rfl (congrArg (x2 + ·) (by decide)) (by decide) rfl ?_
        refine r_iinc hX dX4_standingFor_25 (j := 3) (v := x3 + 1) (lv' := [(3, .int (x3 + 1)), (2, .int (x2 + 1)), (0, .ref (ad 5 0)), (1, .int x1)]) rfl (congrArg (x3 + ·) (by decide)) (by decide) rfl ?_
        refine r_goto hX (tgt := 4) dX4_standingFor_28 (by decide) ?_
        refine r_sub [2, 3, 1, 0] rfl ?_
        exact ih (x2 + 1) (x3 + 1) h
noncomputable def jX4_standingFor (μ : Mu) (a1 : Int32) : Option (Int32) := jX4_standingFor_L4 μ a1 fuel 0 0
set_option maxHeartbeats 4000000 in
set_option maxRecDepth 100000 in
theorem mX4_standingFor {l : Launch} {D : va_G} {cI cH cT : ClassId} {ad : Nat → Nat → Nat} {Z : va_W} {μ : Mu} {r : Int32} (a1 : Int32) (h : jX4_standingFor μ a1 = some r) : CT (gC l D cI cH cT ad Z) yX4_standingFor (.code yX4_standingFor cX4_standingFor 4 (some .int) :: wsL_law) rmX4_standingFor [.ref (ad 5 0), .int a1] μ (some (.int r)) μ := by
  refine ct_of (own := RX4) (by decide) ⟨rfl, rfl⟩ (Nat.le_of_ble_eq_true rfl) rfl (fun X hX hQ => ?_)
  have hX : HX (gC l D cI cH cT ad Z) X cX4_standingFor 4 RX4 rmX4_standingFor (some .int) := hX
  show V (gC l D cI cH cT ad Z) X 4 μ 0 [(0, .ref (ad 5 0)), (1, .int a1)] []
  unfold jX4_standingFor at h
  refine r_iconst hX dX4_standingFor_0 (v := 0) (by decide) ?_
  refine r_istore_n hX dX4_standingFor_1 (lv' := [(2, .int 0), (0, .ref (ad 5 0)), (1, .int a1)]) (by decide) rfl ?_
  refine r_iconst hX dX4_standingFor_2 (v := 0) (by decide) ?_
  refine r_istore_n hX dX4_standingFor_3 (lv' := [(3, .int 0), (2, .int 0), (0, .ref (ad 5 0)), (1, .int a1)]) (by decide) rfl ?_
  refine r_sub [2, 3, 1, 0] rfl ?_
  exact mX4_standingFor_L4 hX hQ a1 fuel 0 0 h
