abbrev rmX5_hasPlace : Room := { frames := 0, cells := 0, slots := 0, locals := 0 }
noncomputable def jX5_hasPlace (μ : Mu) (k : Nat) (a1 : Int32) : Option (Int32) := if a1 < 0 then some 0 else if (μ 14 k 1) ≤ a1 then some 0 else some 1
set_option maxHeartbeats 4000000 in
set_option maxRecDepth 100000 in
theorem mX5_hasPlace {l : Launch} {D : va_G} {cI cH cT : ClassId} {ad : Nat → Nat → Nat} {Z : va_W} {μ : Mu} {r : Int32} (k : Nat) (hk : k < 8) (a1 : Int32) (h : jX5_hasPlace μ k a1 = some r) : CT (gC l D cI cH cT ad Z) yX5_hasPlace (.code yX5_hasPlace cX5_hasPlace 2 (some .boolean) :: wsL_law) rmX5_hasPlace [.ref (ad 14 k), .int a1] μ (some (.int r)) μ := by
  refine ct_of (own := RX5) (by decide) ⟨rfl, rfl⟩ (Nat.le_of_ble_eq_true rfl) rfl (fun X hX hQ => ?_)
  have hX : HX (gC l D cI cH cT ad Z) X cX5_hasPlace 2 RX5 rmX5_hasPlace (some .boolean) := hX
  show V (gC l D cI cH cT ad Z) X 2 μ 0 [(0, .ref (ad 14 k)), (1, .int a1)] []
  unfold jX5_hasPlace at h
  refine r_iload_n hX dX5_hasPlace_0 1 rfl ?_
  refine r_if_lt hX (tgt := 16) dX5_hasPlace_1 (by decide) (fun hc1 => ?_) (fun hc1 => ?_)
  · have h := ite_t hc1 h
    refine r_iconst hX dX5_hasPlace_16 (v := 0) (by decide) ?_
    exact r_zret hX (Or.inl rfl) hQ (Option.some.inj h) rfl dX5_hasPlace_17
  · have h := ite_f hc1 h
    refine r_iload_n hX dX5_hasPlace_4 1 rfl ?_
    refine r_aload_n hX dX5_hasPlace_5 0 rfl ?_
    refine r_get hX 14 k (kyC14 hk) rfl rfl inlX5 1 (by decide) tw1_157 (v := .int (μ 14 k 1)) rfl dX5_hasPlace_6 ?_
    refine r_icmp_ge hX (tgt := 16) dX5_hasPlace_9 (by decide) (fun hc2 => ?_) (fun hc2 => ?_)
    · have h := ite_t hc2 h
      refine r_iconst hX dX5_hasPlace_16 (v := 0) (by decide) ?_
      exact r_zret hX (Or.inl rfl) hQ (Option.some.inj h) rfl dX5_hasPlace_17
    · have h := ite_f hc2 h
      refine r_iconst hX dX5_hasPlace_12 (v := 1) (by decide) ?_
      refine r_goto hX (tgt := 17) dX5_hasPlace_13 (by decide) ?_
      exact r_zret hX (Or.inr rfl) hQ (Option.some.inj h) rfl dX5_hasPlace_17
abbrev rmX5_cardAt : Room := { frames := 1, cells := 0, slots := 0, locals := 21 }
noncomputable def jX5_cardAt (μ : Mu) (k : Nat) (a1 : Int32) : Option (Int32) := (jX5_hasPlace μ k a1).bind (fun r2 => if r2 = 0 then some (-4) else if inb a1 40 = true then some (μ 15 k a1.toNatClampNeg) else none)
set_option maxHeartbeats 4000000 in
set_option maxRecDepth 100000 in
theorem mX5_cardAt {l : Launch} {D : va_G} {cI cH cT : ClassId} {ad : Nat → Nat → Nat} {Z : va_W} {μ : Mu} {r : Int32} (k : Nat) (hk : k < 8) (a1 : Int32) (h : jX5_cardAt μ k a1 = some r) : CT (gC l D cI cH cT ad Z) yX5_cardAt (.code yX5_cardAt cX5_cardAt 2 (some .int) :: wsL_law) rmX5_cardAt [.ref (ad 14 k), .int a1] μ (some (.int r)) μ := by
  refine ct_of (own := RX5) (by decide) ⟨rfl, rfl⟩ (Nat.le_of_ble_eq_true rfl) rfl (fun X hX hQ => ?_)
  have hX : HX (gC l D cI cH cT ad Z) X cX5_cardAt 2 RX5 rmX5_cardAt (some .int) := hX
  show V (gC l D cI cH cT ad Z) X 2 μ 0 [(0, .ref (ad 14 k)), (1, .int a1)] []
  unfold jX5_cardAt at h
  refine r_aload_n hX dX5_cardAt_0 0 rfl ?_
  refine r_iload_n hX dX5_cardAt_1 1 rfl ?_
  obtain ⟨r2, hq1, h⟩ := bind_ex h
  refine r_callV hX 14 k (As := [.int a1]) (rest := []) (st' := [.int r2]) (res := (some (.int r2))) (μ' := μ) (mX5_hasPlace k hk a1 hq1) ckV_X5_19 ⟨rfl, rfl, by decide, by decide⟩ (kyC14 hk) rfl rfl rfl rfl (Nat.le_of_ble_eq_true rfl) dX5_cardAt_2 rfl ?_
  refine r_if_eq hX (tgt := 17) dX5_cardAt_5 (by decide) (fun hc3 => ?_) (fun hc3 => ?_)
  · have h := ite_t hc3 h
    refine r_bipush hX dX5_cardAt_17 (v := (-4)) (by decide) ?_
    exact r_iret hX hQ (Option.some.inj h) rfl dX5_cardAt_19
  · have h := ite_f hc3 h
    refine r_aload_n hX dX5_cardAt_8 0 rfl ?_
    refine r_get hX 14 k (kyC14 hk) rfl rfl inlX5 0 (by decide) tw1_156 (v := .ref (ad 15 k)) rfl dX5_cardAt_9 ?_
    refine r_iload_n hX dX5_cardAt_12 1 rfl ?_
    obtain ⟨hb4, h⟩ := ite_some h
    refine r_iald hX 15 k (kyC15 hk) rfl (t0 := 0) rfl hb4 dX5_cardAt_13 ?_
    refine r_goto hX (tgt := 19) dX5_cardAt_14 (by decide) ?_
    exact r_iret hX hQ (Option.some.inj h) rfl dX5_cardAt_19
abbrev rmX5_isLike : Room := { frames := 0, cells := 0, slots := 0, locals := 0 }
noncomputable def jX5_isLike_L15 (μ : Mu) (k0 : Nat) (k1 : Nat) : Nat → Int32 → Option (Int32)
  | 0, _ => none
  | n2 + 1, x2 => if (μ 14 k0 1) ≤ x2 then some 1 else if inb x2 40 = true then if inb x2 40 = true then if (μ 15 k0 x2.toNatClampNeg) = (μ 15 k1 x2.toNatClampNeg) then jX5_isLike_L15 μ k0 k1 n2 (x2 + 1) else some 0 else none else none
set_option maxHeartbeats 4000000 in
set_option maxRecDepth 100000 in
theorem mX5_isLike_L15 {l : Launch} {D : va_G} {cI cH cT : ClassId} {ad : Nat → Nat → Nat} {Z : va_W} {X : Cx} (hX : HX (gC l D cI cH cT ad Z) X cX5_isLike 3 RX5 rmX5_isLike (some .boolean)) {μ : Mu} {r : Int32} (hQ : HQ (gC l D cI cH cT ad Z) X (some (.int r)) μ) (k0 : Nat) (hk0 : k0 < 8) (k1 : Nat) (hk1 : k1 < 8) : ∀ (n2 : Nat) (x2 : Int32), jX5_isLike_L15 μ k0 k1 n2 x2 = some r → V (gC l D cI cH cT ad Z) X 3 μ 15 [(0, .ref (ad 14 k0)), (1, .ref (ad 14 k1)), (2, .int x2)] [] := by
  intro n2
  induction n2 with
  | zero => intro x2 h; exact none_no h
  | succ n2 ih =>
    intro x2 h
    rw [jX5_isLike_L15] at h
    refine r_iload_n hX dX5_isLike_15 2 rfl ?_
    refine r_aload_n hX dX5_isLike_16 0 rfl ?_
    refine r_get hX 14 k0 (kyC14 hk0) rfl rfl inlX5 1 (by decide) tw1_157 (v := .int (μ 14 k0 1)) rfl dX5_isLike_17 ?_
    refine r_icmp_ge hX (tgt := 46) dX5_isLike_20 (by decide) (fun hc3 => ?_) (fun hc3 => ?_)
    · have h := ite_t hc3 h
      refine r_iconst hX dX5_isLike_46 (v := 1) (by decide) ?_
      exact r_zret hX (Or.inr rfl) hQ (Option.some.inj h) rfl dX5_isLike_47
    · have h := ite_f hc3 h
      refine r_aload_n hX dX5_isLike_23 0 rfl ?_
      refine r_get hX 14 k0 (kyC14 hk0) rfl rfl inlX5 0 (by decide) tw1_156 (v := .ref (ad 15 k0)) rfl dX5_isLike_24 ?_
      refine r_iload_n hX dX5_isLike_27 2 rfl ?_
      obtain ⟨hb4, h⟩ := ite_some h
      refine r_iald hX 15 k0 (kyC15 hk0) rfl (t0 := 0) rfl hb4 dX5_isLike_28 ?_
      refine r_aload_n hX dX5_isLike_29 1 rfl ?_
      refine r_get hX 14 k1 (kyC14 hk1) rfl rfl inlX5 0 (by decide) tw1_156 (v := .ref (ad 15 k1)) rfl dX5_isLike_30 ?_
      refine r_iload_n hX dX5_isLike_33 2 rfl ?_
      obtain ⟨hb5, h⟩ := ite_some h
      refine r_iald hX 15 k1 (kyC15 hk1) rfl (t0 := 0) rfl hb5 dX5_isLike_34 ?_
      refine r_icmp_eq hX (tgt := 40) dX5_isLike_35 (by decide) (fun hc6 => ?_) (fun hc6 => ?_)
      · have h := ite_t hc6 h
        refine r_iinc hX dX5_isLike_40 (j := 2) (v := x2 + 1) (lv' := [(2, .int (x2 + 1)), (0, .ref (ad 14 k0)), (1, .ref (ad 14 k1))]) rfl (congrArg (x2 + ·) (by decide)) (by decide) rfl ?_
        refine r_goto hX (tgt := 15) dX5_isLike_43 (by decide) ?_
        refine r_sub [1, 2, 0] rfl ?_
        exact ih (x2 + 1) h
      · have h := ite_f hc6 h
        refine r_iconst hX dX5_isLike_38 (v := 0) (by decide) ?_
        exact r_zret hX (Or.inl rfl) hQ (Option.some.inj h) rfl dX5_isLike_39
noncomputable def jX5_isLike (μ : Mu) (k : Nat) (b1 : Nat) : Option (Int32) := if (μ 14 k 1) = (μ 14 b1 1) then jX5_isLike_L15 μ k b1 fuel 0 else some 0
set_option maxHeartbeats 4000000 in
set_option maxRecDepth 100000 in
theorem mX5_isLike {l : Launch} {D : va_G} {cI cH cT : ClassId} {ad : Nat → Nat → Nat} {Z : va_W} {μ : Mu} {r : Int32} (k : Nat) (hk : k < 8) (b1 : Nat) (hb1 : b1 < 8) (h : jX5_isLike μ k b1 = some r) : CT (gC l D cI cH cT ad Z) yX5_isLike (.code yX5_isLike cX5_isLike 3 (some .boolean) :: wsL_law) rmX5_isLike [.ref (ad 14 k), .ref (ad 14 b1)] μ (some (.int r)) μ := by
  refine ct_of (own := RX5) (by decide) ⟨rfl, rfl⟩ (Nat.le_of_ble_eq_true rfl) rfl (fun X hX hQ => ?_)
  have hX : HX (gC l D cI cH cT ad Z) X cX5_isLike 3 RX5 rmX5_isLike (some .boolean) := hX
  show V (gC l D cI cH cT ad Z) X 3 μ 0 [(0, .ref (ad 14 k)), (1, .ref (ad 14 b1))] []
  unfold jX5_isLike at h
  refine r_aload_n hX dX5_isLike_0 0 rfl ?_
  refine r_get hX 14 k (kyC14 hk) rfl rfl inlX5 1 (by decide) tw1_157 (v := .int (μ 14 k 1)) rfl dX5_isLike_1 ?_
  refine r_aload_n hX dX5_isLike_4 1 rfl ?_
  refine r_get hX 14 b1 (kyC14 hb1) rfl rfl inlX5 1 (by decide) tw1_157 (v := .int (μ 14 b1 1)) rfl dX5_isLike_5 ?_
  refine r_icmp_eq hX (tgt := 13) dX5_isLike_8 (by decide) (fun hc1 => ?_) (fun hc1 => ?_)
  · have h := ite_t hc1 h
    refine r_iconst hX dX5_isLike_13 (v := 0) (by decide) ?_
    refine r_istore_n hX dX5_isLike_14 (lv' := [(2, .int 0), (0, .ref (ad 14 k)), (1, .ref (ad 14 b1))]) (by decide) rfl ?_
    refine r_sub [1, 2, 0] rfl ?_
    exact mX5_isLike_L15 hX hQ k hk b1 hb1 fuel 0 h
  · have h := ite_f hc1 h
    refine r_iconst hX dX5_isLike_11 (v := 0) (by decide) ?_
    exact r_zret hX (Or.inl rfl) hQ (Option.some.inj h) rfl dX5_isLike_12
abbrev rmX5_clear : Room := { frames := 0, cells := 0, slots := 0, locals := 0 }
noncomputable def jX5_clear (μ : Mu) (k : Nat) : Option (Mu) := mst (mu_st μ 14 k 1 0) (fun μ1 => some μ1)
set_option maxHeartbeats 4000000 in
set_option maxRecDepth 100000 in
theorem mX5_clear {l : Launch} {D : va_G} {cI cH cT : ClassId} {ad : Nat → Nat → Nat} {Z : va_W} {μ : Mu} {μ' : Mu} (k : Nat) (hk : k < 8) (h : jX5_clear μ k = some μ') : CT (gC l D cI cH cT ad Z) yX5_clear (.code yX5_clear cX5_clear 1 none :: wsL_law) rmX5_clear [.ref (ad 14 k)] μ none μ' := by
  refine ct_of (own := RX5) (by decide) ⟨rfl, rfl⟩ (Nat.le_of_ble_eq_true rfl) rfl (fun X hX hQ => ?_)
  have hX : HX (gC l D cI cH cT ad Z) X cX5_clear 1 RX5 rmX5_clear none := hX
  show V (gC l D cI cH cT ad Z) X 1 μ 0 [(0, .ref (ad 14 k))] []
  unfold jX5_clear at h
  refine r_aload_n hX dX5_clear_0 0 rfl ?_
  refine r_iconst hX dX5_clear_1 (v := 0) (by decide) ?_
  refine r_put hX 14 k (kyC14 hk) rfl rfl inlX5 tyX5 tyX5_ok nmX5 1 (by decide) tw1_157 rfl (tyX5_ok 1 (by decide)) rfl rfl (Nat.le_of_ble_eq_true rfl) rfl dX5_clear_2 (fun μ1 eμ1 => ?_)
  have h := mst_at eμ1 h
  exact r_vret hX hQ (Option.some.inj h) dX5_clear_5
abbrev rmX5_append : Room := { frames := 0, cells := 0, slots := 0, locals := 0 }
noncomputable def jX5_append (μ : Mu) (k : Nat) (a1 : Int32) : Option (Mu) := if 40 ≤ (μ 14 k 1) then some μ else if inb (μ 14 k 1) 40 = true then mst (mu_st μ 15 k (μ 14 k 1).toNatClampNeg a1) (fun μ3 => mst (mu_st μ3 14 k 1 ((μ3 14 k 1) + 1)) (fun μ4 => some μ4)) else none
set_option maxHeartbeats 4000000 in
set_option maxRecDepth 100000 in
theorem mX5_append {l : Launch} {D : va_G} {cI cH cT : ClassId} {ad : Nat → Nat → Nat} {Z : va_W} {μ : Mu} {μ' : Mu} (k : Nat) (hk : k < 8) (a1 : Int32) (h : jX5_append μ k a1 = some μ') : CT (gC l D cI cH cT ad Z) yX5_append (.code yX5_append cX5_append 2 none :: wsL_law) rmX5_append [.ref (ad 14 k), .int a1] μ none μ' := by
  refine ct_of (own := RX5) (by decide) ⟨rfl, rfl⟩ (Nat.le_of_ble_eq_true rfl) rfl (fun X hX hQ => ?_)
  have hX : HX (gC l D cI cH cT ad Z) X cX5_append 2 RX5 rmX5_append none := hX
  show V (gC l D cI cH cT ad Z) X 2 μ 0 [(0, .ref (ad 14 k)), (1, .int a1)] []
  unfold jX5_append at h
  refine r_aload_n hX dX5_append_0 0 rfl ?_
  refine r_get hX 14 k (kyC14 hk) rfl rfl inlX5 1 (by decide) tw1_157 (v := .int (μ 14 k 1)) rfl dX5_append_1 ?_
  refine r_bipush hX dX5_append_4 (v := 40) (by decide) ?_
  refine r_icmp_ge hX (tgt := 29) dX5_append_6 (by decide) (fun hc1 => ?_) (fun hc1 => ?_)
  · have h := ite_t hc1 h
    exact r_vret hX hQ (Option.some.inj h) dX5_append_29
  · have h := ite_f hc1 h
    refine r_aload_n hX dX5_append_9 0 rfl ?_
    refine r_get hX 14 k (kyC14 hk) rfl rfl inlX5 0 (by decide) tw1_156 (v := .ref (ad 15 k)) rfl dX5_append_10 ?_
    refine r_aload_n hX dX5_append_13 0 rfl ?_
    refine r_get hX 14 k (kyC14 hk) rfl rfl inlX5 1 (by decide) tw1_157 (v := .int (μ 14 k 1)) rfl dX5_append_14 ?_
    refine r_iload_n hX dX5_append_17 1 rfl ?_
    obtain ⟨hb2, h⟩ := ite_some h
    refine r_iast hX 15 k (kyC15 hk) (fun _ => rfl) (t0 := 0) rfl hb2 dX5_append_18 (fun μ3 eμ3 => ?_)
    have h := mst_at eμ3 h
    refine r_aload_n hX dX5_append_19 0 rfl ?_
    refine r_dup hX dX5_append_20 rfl ?_
    refine r_get hX 14 k (kyC14 hk) rfl rfl inlX5 1 (by decide) tw1_157 (v := .int (μ3 14 k 1)) rfl dX5_append_21 ?_
    refine r_iconst hX dX5_append_24 (v := 1) (by decide) ?_
    refine r_iadd hX dX5_append_25 ?_
    refine r_put hX 14 k (kyC14 hk) rfl rfl inlX5 tyX5 tyX5_ok nmX5 1 (by decide) tw1_157 rfl (tyX5_ok 1 (by decide)) rfl rfl (Nat.le_of_ble_eq_true rfl) rfl dX5_append_26 (fun μ4 eμ4 => ?_)
    have h := mst_at eμ4 h
    exact r_vret hX hQ (Option.some.inj h) dX5_append_29
abbrev rmX5_appendPart : Room := { frames := 2, cells := 0, slots := 0, locals := 42 }
noncomputable def jX5_appendPart_L3 (k0 : Nat) (k1 : Nat) (x2 : Int32) (x3 : Int32) : Nat → Mu → Int32 → Option (Mu)
  | 0, _, _ => none
  | n1 + 1, μ, x4 => if x3 ≤ x4 then some μ else (jX5_cardAt μ k1 x4).bind (fun r4 => (jX5_append μ k0 r4).bind (fun μ6 => jX5_appendPart_L3 k0 k1 x2 x3 n1 μ6 (x4 + 1)))
set_option maxHeartbeats 4000000 in
set_option maxRecDepth 100000 in
theorem mX5_appendPart_L3 {l : Launch} {D : va_G} {cI cH cT : ClassId} {ad : Nat → Nat → Nat} {Z : va_W} {X : Cx} (hX : HX (gC l D cI cH cT ad Z) X cX5_appendPart 5 RX5 rmX5_appendPart none) {μ' : Mu} (hQ : HQ (gC l D cI cH cT ad Z) X none μ') (k0 : Nat) (hk0 : k0 < 8) (k1 : Nat) (hk1 : k1 < 8) (x2 : Int32) (x3 : Int32) : ∀ (n1 : Nat) (μ : Mu) (x4 : Int32), jX5_appendPart_L3 k0 k1 x2 x3 n1 μ x4 = some μ' → V (gC l D cI cH cT ad Z) X 5 μ 3 [(0, .ref (ad 14 k0)), (1, .ref (ad 14 k1)), (2, .int x2), (3, .int x3), (4, .int x4)] [] := by
  intro n1
  induction n1 with
  | zero => intro μ x4 h; exact none_no h
  | succ n1 ih =>
    intro μ x4 h
    rw [jX5_appendPart_L3] at h
    refine r_iload hX dX5_appendPart_3 4 rfl ?_
    refine r_iload_n hX dX5_appendPart_5 3 rfl ?_
    refine r_icmp_ge hX (tgt := 25) dX5_appendPart_6 (by decide) (fun hc2 => ?_) (fun hc2 => ?_)
    · have h := ite_t hc2 h
      exact r_vret hX hQ (Option.some.inj h) dX5_appendPart_25
    · have h := ite_f hc2 h
      refine r_aload_n hX dX5_appendPart_9 0 rfl ?_
      refine r_aload_n hX dX5_appendPart_10 1 rfl ?_
      refine r_iload hX dX5_appendPart_11 4 rfl ?_
      obtain ⟨r4, hq3, h⟩ := bind_ex h
      refine r_callV hX 14 k1 (As := [.int x4]) (rest := [.ref (ad 14 k0)]) (st' := [.int r4, .ref (ad 14 k0)]) (res := (some (.int r4))) (μ' := μ) (mX5_cardAt k1 hk1 x4 hq3) ckV_X5_30 ⟨rfl, rfl, by decide, by decide⟩ (kyC14 hk1) rfl rfl rfl rfl (Nat.le_of_ble_eq_true rfl) dX5_appendPart_13 rfl ?_
      obtain ⟨μ6, hq5, h⟩ := bind_ex h
      refine r_callV hX 14 k0 (As := [.int r4]) (rest := []) (st' := []) (res := none) (μ' := μ6) (mX5_append k0 hk0 r4 hq5) ckV_X5_34 ⟨rfl, rfl, by decide, by decide⟩ (kyC14 hk0) rfl rfl rfl rfl (Nat.le_of_ble_eq_true rfl) dX5_appendPart_16 rfl ?_
      refine r_iinc hX dX5_appendPart_19 (j := 4) (v := x4 + 1) (lv' := [(4, .int (x4 + 1)), (0, .ref (ad 14 k0)), (1, .ref (ad 14 k1)), (2, .int x2), (3, .int x3)]) rfl (congrArg (x4 + ·) (by decide)) (by decide) rfl ?_
      refine r_goto hX (tgt := 3) dX5_appendPart_22 (by decide) ?_
      refine r_sub [1, 2, 3, 4, 0] rfl ?_
      exact ih μ6 (x4 + 1) h
noncomputable def jX5_appendPart (μ : Mu) (k : Nat) (b1 : Nat) (a2 : Int32) (a3 : Int32) : Option (Mu) := jX5_appendPart_L3 k b1 a2 a3 fuel μ a2
set_option maxHeartbeats 4000000 in
set_option maxRecDepth 100000 in
theorem mX5_appendPart {l : Launch} {D : va_G} {cI cH cT : ClassId} {ad : Nat → Nat → Nat} {Z : va_W} {μ : Mu} {μ' : Mu} (k : Nat) (hk : k < 8) (b1 : Nat) (hb1 : b1 < 8) (a2 : Int32) (a3 : Int32) (h : jX5_appendPart μ k b1 a2 a3 = some μ') : CT (gC l D cI cH cT ad Z) yX5_appendPart (.code yX5_appendPart cX5_appendPart 5 none :: wsL_law) rmX5_appendPart [.ref (ad 14 k), .ref (ad 14 b1), .int a2, .int a3] μ none μ' := by
  refine ct_of (own := RX5) (by decide) ⟨rfl, rfl⟩ (Nat.le_of_ble_eq_true rfl) rfl (fun X hX hQ => ?_)
  have hX : HX (gC l D cI cH cT ad Z) X cX5_appendPart 5 RX5 rmX5_appendPart none := hX
  show V (gC l D cI cH cT ad Z) X 5 μ 0 [(0, .ref (ad 14 k)), (1, .ref (ad 14 b1)), (2, .int a2), (3, .int a3)] []
  unfold jX5_appendPart at h
  refine r_iload_n hX dX5_appendPart_0 2 rfl ?_
  refine r_istore hX dX5_appendPart_1 (lv' := [(4, .int a2), (0, .ref (ad 14 k)), (1, .ref (ad 14 b1)), (2, .int a2), (3, .int a3)]) (by decide) rfl ?_
  refine r_sub [1, 2, 3, 4, 0] rfl ?_
  exact mX5_appendPart_L3 hX hQ k hk b1 hb1 a2 a3 fuel μ a2 h
abbrev rmX5_copy : Room := { frames := 3, cells := 0, slots := 0, locals := 66 }
noncomputable def jX5_copy (μ : Mu) (k : Nat) (b1 : Nat) : Option (Mu) := (jX5_clear μ k).bind (fun μ2 => (jX5_appendPart μ2 k b1 0 (μ2 14 b1 1)).bind (fun μ4 => some μ4))
set_option maxHeartbeats 4000000 in
set_option maxRecDepth 100000 in
theorem mX5_copy {l : Launch} {D : va_G} {cI cH cT : ClassId} {ad : Nat → Nat → Nat} {Z : va_W} {μ : Mu} {μ' : Mu} (k : Nat) (hk : k < 8) (b1 : Nat) (hb1 : b1 < 8) (h : jX5_copy μ k b1 = some μ') : CT (gC l D cI cH cT ad Z) yX5_copy (.code yX5_copy cX5_copy 2 none :: wsL_law) rmX5_copy [.ref (ad 14 k), .ref (ad 14 b1)] μ none μ' := by
  refine ct_of (own := RX5) (by decide) ⟨rfl, rfl⟩ (Nat.le_of_ble_eq_true rfl) rfl (fun X hX hQ => ?_)
  have hX : HX (gC l D cI cH cT ad Z) X cX5_copy 2 RX5 rmX5_copy none := hX
  show V (gC l D cI cH cT ad Z) X 2 μ 0 [(0, .ref (ad 14 k)), (1, .ref (ad 14 b1))] []
  unfold jX5_copy at h
  refine r_aload_n hX dX5_copy_0 0 rfl ?_
  obtain ⟨μ2, hq1, h⟩ := bind_ex h
  refine r_callV hX 14 k (As := []) (rest := []) (st' := []) (res := none) (μ' := μ2) (mX5_clear k hk hq1) ckV_X5_23 ⟨rfl, rfl, by decide, by decide⟩ (kyC14 hk) rfl rfl rfl rfl (Nat.le_of_ble_eq_true rfl) dX5_copy_1 rfl ?_
  refine r_aload_n hX dX5_copy_4 0 rfl ?_
  refine r_aload_n hX dX5_copy_5 1 rfl ?_
  refine r_iconst hX dX5_copy_6 (v := 0) (by decide) ?_
  refine r_aload_n hX dX5_copy_7 1 rfl ?_
  refine r_get hX 14 b1 (kyC14 hb1) rfl rfl inlX5 1 (by decide) tw1_157 (v := .int (μ2 14 b1 1)) rfl dX5_copy_8 ?_
  obtain ⟨μ4, hq3, h⟩ := bind_ex h
  refine r_callV hX 14 k (As := [.ref (ad 14 b1), .int 0, .int (μ2 14 b1 1)]) (rest := []) (st' := []) (res := none) (μ' := μ4) (mX5_appendPart k hk b1 hb1 0 (μ2 14 b1 1) hq3) ckV_X5_26 ⟨rfl, rfl, by decide, by decide⟩ (kyC14 hk) rfl rfl rfl rfl (Nat.le_of_ble_eq_true rfl) dX5_copy_11 rfl ?_
  exact r_vret hX hQ (Option.some.inj h) dX5_copy_14
abbrev rmX5_replace : Room := { frames := 1, cells := 0, slots := 0, locals := 21 }
noncomputable def jX5_replace (μ : Mu) (k : Nat) (a1 : Int32) (a2 : Int32) : Option (Mu) := (jX5_hasPlace μ k a1).bind (fun r2 => if r2 = 0 then some μ else if inb a1 40 = true then mst (mu_st μ 15 k a1.toNatClampNeg a2) (fun μ5 => some μ5) else none)
set_option maxHeartbeats 4000000 in
set_option maxRecDepth 100000 in
theorem mX5_replace {l : Launch} {D : va_G} {cI cH cT : ClassId} {ad : Nat → Nat → Nat} {Z : va_W} {μ : Mu} {μ' : Mu} (k : Nat) (hk : k < 8) (a1 : Int32) (a2 : Int32) (h : jX5_replace μ k a1 a2 = some μ') : CT (gC l D cI cH cT ad Z) yX5_replace (.code yX5_replace cX5_replace 3 none :: wsL_law) rmX5_replace [.ref (ad 14 k), .int a1, .int a2] μ none μ' := by
  refine ct_of (own := RX5) (by decide) ⟨rfl, rfl⟩ (Nat.le_of_ble_eq_true rfl) rfl (fun X hX hQ => ?_)
  have hX : HX (gC l D cI cH cT ad Z) X cX5_replace 3 RX5 rmX5_replace none := hX
  show V (gC l D cI cH cT ad Z) X 3 μ 0 [(0, .ref (ad 14 k)), (1, .int a1), (2, .int a2)] []
  unfold jX5_replace at h
  refine r_aload_n hX dX5_replace_0 0 rfl ?_
  refine r_iload_n hX dX5_replace_1 1 rfl ?_
  obtain ⟨r2, hq1, h⟩ := bind_ex h
  refine r_callV hX 14 k (As := [.int a1]) (rest := []) (st' := [.int r2]) (res := (some (.int r2))) (μ' := μ) (mX5_hasPlace k hk a1 hq1) ckV_X5_19 ⟨rfl, rfl, by decide, by decide⟩ (kyC14 hk) rfl rfl rfl rfl (Nat.le_of_ble_eq_true rfl) dX5_replace_2 rfl ?_
  refine r_if_eq hX (tgt := 15) dX5_replace_5 (by decide) (fun hc3 => ?_) (fun hc3 => ?_)
  · have h := ite_t hc3 h
    exact r_vret hX hQ (Option.some.inj h) dX5_replace_15
  · have h := ite_f hc3 h
    refine r_aload_n hX dX5_replace_8 0 rfl ?_
    refine r_get hX 14 k (kyC14 hk) rfl rfl inlX5 0 (by decide) tw1_156 (v := .ref (ad 15 k)) rfl dX5_replace_9 ?_
    refine r_iload_n hX dX5_replace_12 1 rfl ?_
    refine r_iload_n hX dX5_replace_13 2 rfl ?_
    obtain ⟨hb4, h⟩ := ite_some h
    refine r_iast hX 15 k (kyC15 hk) (fun _ => rfl) (t0 := 0) rfl hb4 dX5_replace_14 (fun μ5 eμ5 => ?_)
    have h := mst_at eμ5 h
    exact r_vret hX hQ (Option.some.inj h) dX5_replace_15
abbrev rmX5_swap : Room := { frames := 2, cells := 0, slots := 0, locals := 43 }
noncomputable def jX5_swap (μ : Mu) (k : Nat) (a1 : Int32) (a2 : Int32) : Option (Mu) := (jX5_cardAt μ k a1).bind (fun r2 => (jX5_cardAt μ k a2).bind (fun r4 => (jX5_replace μ k a1 r4).bind (fun μ6 => (jX5_replace μ6 k a2 r2).bind (fun μ8 => some μ8))))
set_option maxHeartbeats 4000000 in
set_option maxRecDepth 100000 in
theorem mX5_swap {l : Launch} {D : va_G} {cI cH cT : ClassId} {ad : Nat → Nat → Nat} {Z : va_W} {μ : Mu} {μ' : Mu} (k : Nat) (hk : k < 8) (a1 : Int32) (a2 : Int32) (h : jX5_swap μ k a1 a2 = some μ') : CT (gC l D cI cH cT ad Z) yX5_swap (.code yX5_swap cX5_swap 4 none :: wsL_law) rmX5_swap [.ref (ad 14 k), .int a1, .int a2] μ none μ' := by
  refine ct_of (own := RX5) (by decide) ⟨rfl, rfl⟩ (Nat.le_of_ble_eq_true rfl) rfl (fun X hX hQ => ?_)
  have hX : HX (gC l D cI cH cT ad Z) X cX5_swap 4 RX5 rmX5_swap none := hX
  show V (gC l D cI cH cT ad Z) X 4 μ 0 [(0, .ref (ad 14 k)), (1, .int a1), (2, .int a2)] []
  unfold jX5_swap at h
  refine r_aload_n hX dX5_swap_0 0 rfl ?_
  refine r_iload_n hX dX5_swap_1 1 rfl ?_
  obtain ⟨r2, hq1, h⟩ := bind_ex h
  refine r_callV hX 14 k (As := [.int a1]) (rest := []) (st' := [.int r2]) (res := (some (.int r2))) (μ' := μ) (mX5_cardAt k hk a1 hq1) ckV_X5_30 ⟨rfl, rfl, by decide, by decide⟩ (kyC14 hk) rfl rfl rfl rfl (Nat.le_of_ble_eq_true rfl) dX5_swap_2 rfl ?_
  refine r_istore_n hX dX5_swap_5 (lv' := [(3, .int r2), (0, .ref (ad 14 k)), (1, .int a1), (2, .int a2)]) (by decide) rfl ?_
  refine r_aload_n hX dX5_swap_6 1 rfl ?_
  refine r_iload_n hX dX5_swap_7 2 rfl ?_
  refine r_aload_n hX dX5_swap_8 1 rfl ?_
  refine r_iload_n hX dX5_swap_9 3 rfl ?_
  obtain ⟨r4, hq3, h⟩ := bind_ex h
  refine r_callV hX 14 k (As := [.int a2]) (rest := [.int a1, .ref (ad 14 k)]) (st' := [.int r4, .int a1, .ref (ad 14 k)]) (res := (some (.int r4))) (μ' := μ) (mX5_cardAt k hk a2 hq3) ckV_X5_30 ⟨rfl, rfl, by decide, by decide⟩ (kyC14 hk) rfl rfl rfl rfl (Nat.le_of_ble_eq_true rfl) dX5_swap_10 rfl ?_
  obtain ⟨μ6, hq5, h⟩ := bind_ex h
  refine r_callV hX 14 k (As := [.int a1, .int r4]) (rest := []) (st' := []) (res := none) (μ' := μ6) (mX5_replace k hk a1 r4 hq5) ckV_X5_38 ⟨rfl, rfl, by decide, by decide⟩ (kyC14 hk) rfl rfl rfl rfl (Nat.le_of_ble_eq_true rfl) dX5_swap_13 rfl ?_
  refine r_aload_n hX dX5_swap_16 1 rfl ?_
  refine r_iload_n hX dX5_swap_17 3 rfl ?_
  refine r_iload_n hX dX5_swap_18 0 rfl ?_
  obtain ⟨μ8, hq7, h⟩ := bind_ex h
  refine r_callV hX 14 k (As := [.int a2, .int r2]) (rest := []) (st' := []) (res := none) (μ' := μ8) (mX5_replace k hk a2 r2 hq7) ckV_X5_38 ⟨rfl, rfl, by decide, by decide⟩ (kyC14 hk) rfl rfl rfl rfl (Nat.le_of_ble_eq_true rfl) dX5_swap_19 rfl ?_
  exact r_vret hX hQ (Option.some.inj h) dX5_swap_22
abbrev rmX5_insert : Room := { frames := 3, cells := 0, slots := 0, locals := 66 }
noncomputable def jX5_insert_L12 (k0 : Nat) (x1 : Int32) (x2 : Int32) : Nat → Mu → Int32 → Option (Mu)
  | 0, _, _ => none
  | n3 + 1, μ, x3 => if x3 ≤ x1 then some μ else (jX5_swap μ k0 x3 (x3 - 1)).bind (fun μ6 => jX5_insert_L12 k0 x1 x2 n3 μ6 (x3 + (-1)))
set_option maxHeartbeats 4000000 in
set_option maxRecDepth 100000 in
theorem mX5_insert_L12 {l : Launch} {D : va_G} {cI cH cT : ClassId} {ad : Nat → Nat → Nat} {Z : va_W} {X : Cx} (hX : HX (gC l D cI cH cT ad Z) X cX5_insert 4 RX5 rmX5_insert none) {μ' : Mu} (hQ : HQ (gC l D cI cH cT ad Z) X none μ') (k0 : Nat) (hk0 : k0 < 8) (x1 : Int32) (x2 : Int32) : ∀ (n3 : Nat) (μ : Mu) (x3 : Int32), jX5_insert_L12 k0 x1 x2 n3 μ x3 = some μ' → V (gC l D cI cH cT ad Z) X 4 μ 12 [(0, .ref (ad 14 k0)), (1, .int x1), (2, .int x2), (3, .int x3)] [] := by
  intro n3
  induction n3 with
  | zero => intro μ x3 h; exact none_no h
  | succ n3 ih =>
    intro μ x3 h
    rw [jX5_insert_L12] at h
    refine r_iload_n hX dX5_insert_12 3 rfl ?_
    refine r_iload_n hX dX5_insert_13 1 rfl ?_
    refine r_icmp_le hX (tgt := 31) dX5_insert_14 (by decide) (fun hc4 => ?_) (fun hc4 => ?_)
    · have h := ite_t hc4 h
      exact r_vret hX hQ (Option.some.inj h) dX5_insert_31
    · have h := ite_f hc4 h
      refine r_aload_n hX dX5_insert_17 0 rfl ?_
      refine r_iload_n hX dX5_insert_18 3 rfl ?_
      refine r_iload_n hX dX5_insert_19 3 rfl ?_
      refine r_iconst hX dX5_insert_20 (v := 1) (by decide) ?_
      refine r_isub hX dX5_insert_21 ?_
      obtain ⟨μ6, hq5, h⟩ := bind_ex h
      refine r_callV hX 14 k0 (As := [.int x3, .int (x3 - 1)]) (rest := []) (st' := []) (res := none) (μ' := μ6) (mX5_swap k0 hk0 x3 (x3 - 1) hq5) ckV_X5_42 ⟨rfl, rfl, by decide, by decide⟩ (kyC14 hk0) rfl rfl rfl rfl (Nat.le_of_ble_eq_true rfl) dX5_insert_22 rfl ?_
      refine r_iinc hX dX5_insert_25 (j := 3) (v := x3 + (-1)) (lv' := [(3, .int (x3 + (-1))), (0, .ref (ad 14 k0)), (1, .int x1), (2, .int x2)]) rfl (congrArg (x3 + ·) (by decide)) (by decide) rfl ?_
      refine r_goto hX (tgt := 12) dX5_insert_28 (by decide) ?_
      refine r_sub [1, 2, 3, 0] rfl ?_
      exact ih μ6 (x3 + (-1)) h
noncomputable def jX5_insert (μ : Mu) (k : Nat) (a1 : Int32) (a2 : Int32) : Option (Mu) := (jX5_append μ k a2).bind (fun μ2 => jX5_insert_L12 k a1 a2 fuel μ2 ((μ2 14 k 1) - 1))
set_option maxHeartbeats 4000000 in
set_option maxRecDepth 100000 in
theorem mX5_insert {l : Launch} {D : va_G} {cI cH cT : ClassId} {ad : Nat → Nat → Nat} {Z : va_W} {μ : Mu} {μ' : Mu} (k : Nat) (hk : k < 8) (a1 : Int32) (a2 : Int32) (h : jX5_insert μ k a1 a2 = some μ') : CT (gC l D cI cH cT ad Z) yX5_insert (.code yX5_insert cX5_insert 4 none :: wsL_law) rmX5_insert [.ref (ad 14 k), .int a1, .int a2] μ none μ' := by
  refine ct_of (own := RX5) (by decide) ⟨rfl, rfl⟩ (Nat.le_of_ble_eq_true rfl) rfl (fun X hX hQ => ?_)
  have hX : HX (gC l D cI cH cT ad Z) X cX5_insert 4 RX5 rmX5_insert none := hX
  show V (gC l D cI cH cT ad Z) X 4 μ 0 [(0, .ref (ad 14 k)), (1, .int a1), (2, .int a2)] []
  unfold jX5_insert at h
  refine r_aload_n hX dX5_insert_0 0 rfl ?_
  refine r_iload_n hX dX5_insert_1 2 rfl ?_
  obtain ⟨μ2, hq1, h⟩ := bind_ex h
  refine r_callV hX 14 k (As := [.int a2]) (rest := []) (st' := []) (res := none) (μ' := μ2) (mX5_append k hk a2 hq1) ckV_X5_34 ⟨rfl, rfl, by decide, by decide⟩ (kyC14 hk) rfl rfl rfl rfl (Nat.le_of_ble_eq_true rfl) dX5_insert_2 rfl ?_
  refine r_aload_n hX dX5_insert_5 0 rfl ?_
  refine r_get hX 14 k (kyC14 hk) rfl rfl inlX5 1 (by decide) tw1_157 (v := .int (μ2 14 k 1)) rfl dX5_insert_6 ?_
  refine r_iconst hX dX5_insert_9 (v := 1) (by decide) ?_
  refine r_isub hX dX5_insert_10 ?_
  refine r_istore_n hX dX5_insert_11 (lv' := [(3, .int ((μ2 14 k 1) - 1)), (0, .ref (ad 14 k)), (1, .int a1), (2, .int a2)]) (by decide) rfl ?_
  refine r_sub [1, 2, 3, 0] rfl ?_
  exact mX5_insert_L12 hX hQ k hk a1 a2 fuel μ2 ((μ2 14 k 1) - 1) h
abbrev rmX5_remove : Room := { frames := 1, cells := 0, slots := 0, locals := 21 }
noncomputable def jX5_remove_L11 (k0 : Nat) (x1 : Int32) : Nat → Mu → Int32 → Option (Mu)
  | 0, _, _ => none
  | n4 + 1, μ, x2 => if ((μ 14 k0 1) - 1) ≤ x2 then mst (mu_st μ 14 k0 1 ((μ 14 k0 1) - 1)) (fun μ6 => some μ6) else if inb (x2 + 1) 40 = true then if inb x2 40 = true then mst (mu_st μ 15 k0 x2.toNatClampNeg (μ 15 k0 (x2 + 1).toNatClampNeg)) (fun μ9 => jX5_remove_L11 k0 x1 n4 μ9 (x2 + 1)) else none else none
set_option maxHeartbeats 4000000 in
set_option maxRecDepth 100000 in
theorem mX5_remove_L11 {l : Launch} {D : va_G} {cI cH cT : ClassId} {ad : Nat → Nat → Nat} {Z : va_W} {X : Cx} (hX : HX (gC l D cI cH cT ad Z) X cX5_remove 3 RX5 rmX5_remove none) {μ' : Mu} (hQ : HQ (gC l D cI cH cT ad Z) X none μ') (k0 : Nat) (hk0 : k0 < 8) (x1 : Int32) : ∀ (n4 : Nat) (μ : Mu) (x2 : Int32), jX5_remove_L11 k0 x1 n4 μ x2 = some μ' → V (gC l D cI cH cT ad Z) X 3 μ 11 [(0, .ref (ad 14 k0)), (1, .int x1), (2, .int x2)] [] := by
  intro n4
  induction n4 with
  | zero => intro μ x2 h; exact none_no h
  | succ n4 ih =>
    intro μ x2 h
    rw [jX5_remove_L11] at h
    refine r_iload_n hX dX5_remove_11 2 rfl ?_
    refine r_aload_n hX dX5_remove_12 0 rfl ?_
    refine r_get hX 14 k0 (kyC14 hk0) rfl rfl inlX5 1 (by decide) tw1_157 (v := .int (μ 14 k0 1)) rfl dX5_remove_13 ?_
    refine r_iconst hX dX5_remove_16 (v := 1) (by decide) ?_
    refine r_isub hX dX5_remove_17 ?_
    refine r_icmp_ge hX (tgt := 41) dX5_remove_18 (by decide) (fun hc5 => ?_) (fun hc5 => ?_)
    · have h := ite_t hc5 h
      refine r_aload_n hX dX5_remove_41 0 rfl ?_
      refine r_dup hX dX5_remove_42 rfl ?_
      refine r_get hX 14 k0 (kyC14 hk0) rfl rfl inlX5 1 (by decide) tw1_157 (v := .int (μ 14 k0 1)) rfl dX5_remove_43 ?_
      refine r_iconst hX dX5_remove_46 (v := 1) (by decide) ?_
      refine r_isub hX dX5_remove_47 ?_
      refine r_put hX 14 k0 (kyC14 hk0) rfl rfl inlX5 tyX5 tyX5_ok nmX5 1 (by decide) tw1_157 rfl (tyX5_ok 1 (by decide)) rfl rfl (Nat.le_of_ble_eq_true rfl) rfl dX5_remove_48 (fun μ6 eμ6 => ?_)
      have h := mst_at eμ6 h
      exact r_vret hX hQ (Option.some.inj h) dX5_remove_51
    · have h := ite_f hc5 h
      refine r_aload_n hX dX5_remove_21 0 rfl ?_
      refine r_get hX 14 k0 (kyC14 hk0) rfl rfl inlX5 0 (by decide) tw1_156 (v := .ref (ad 15 k0)) rfl dX5_remove_22 ?_
      refine r_iload_n hX dX5_remove_25 2 rfl ?_
      refine r_aload_n hX dX5_remove_26 0 rfl ?_
      refine r_get hX 14 k0 (kyC14 hk0) rfl rfl inlX5 0 (by decide) tw1_156 (v := .ref (ad 15 k0)) rfl dX5_remove_27 ?_
      refine r_iload_n hX dX5_remove_30 2 rfl ?_
      refine r_iconst hX dX5_remove_31 (v := 1) (by decide) ?_
      refine r_iadd hX dX5_remove_32 ?_
      obtain ⟨hb7, h⟩ := ite_some h
      refine r_iald hX 15 k0 (kyC15 hk0) rfl (t0 := 0) rfl hb7 dX5_remove_33 ?_
      obtain ⟨hb8, h⟩ := ite_some h
      refine r_iast hX 15 k0 (kyC15 hk0) (fun _ => rfl) (t0 := 0) rfl hb8 dX5_remove_34 (fun μ9 eμ9 => ?_)
      have h := mst_at eμ9 h
      refine r_iinc hX dX5_remove_35 (j := 2) (v := x2 + 1) (lv' := [(2, .int (x2 + 1)), (0, .ref (ad 14 k0)), (1, .int x1)]) rfl (congrArg (x2 + ·) (by decide)) (by decide) rfl ?_
      refine r_goto hX (tgt := 11) dX5_remove_38 (by decide) ?_
      refine r_sub [1, 2, 0] rfl ?_
      exact ih μ9 (x2 + 1) h
noncomputable def jX5_remove (μ : Mu) (k : Nat) (a1 : Int32) : Option (Mu) := (jX5_hasPlace μ k a1).bind (fun r2 => if r2 = 0 then some μ else jX5_remove_L11 k a1 fuel μ a1)
set_option maxHeartbeats 4000000 in
set_option maxRecDepth 100000 in
theorem mX5_remove {l : Launch} {D : va_G} {cI cH cT : ClassId} {ad : Nat → Nat → Nat} {Z : va_W} {μ : Mu} {μ' : Mu} (k : Nat) (hk : k < 8) (a1 : Int32) (h : jX5_remove μ k a1 = some μ') : CT (gC l D cI cH cT ad Z) yX5_remove (.code yX5_remove cX5_remove 3 none :: wsL_law) rmX5_remove [.ref (ad 14 k), .int a1] μ none μ' := by
  refine ct_of (own := RX5) (by decide) ⟨rfl, rfl⟩ (Nat.le_of_ble_eq_true rfl) rfl (fun X hX hQ => ?_)
  have hX : HX (gC l D cI cH cT ad Z) X cX5_remove 3 RX5 rmX5_remove none := hX
  show V (gC l D cI cH cT ad Z) X 3 μ 0 [(0, .ref (ad 14 k)), (1, .int a1)] []
  unfold jX5_remove at h
  refine r_aload_n hX dX5_remove_0 0 rfl ?_
  refine r_iload_n hX dX5_remove_1 1 rfl ?_
  obtain ⟨r2, hq1, h⟩ := bind_ex h
  refine r_callV hX 14 k (As := [.int a1]) (rest := []) (st' := [.int r2]) (res := (some (.int r2))) (μ' := μ) (mX5_hasPlace k hk a1 hq1) ckV_X5_19 ⟨rfl, rfl, by decide, by decide⟩ (kyC14 hk) rfl rfl rfl rfl (Nat.le_of_ble_eq_true rfl) dX5_remove_2 rfl ?_
  refine r_if_ne hX (tgt := 9) dX5_remove_5 (by decide) (fun hc3 => ?_) (fun hc3 => ?_)
  · have h := ite_f hc3 h
    refine r_iload_n hX dX5_remove_9 1 rfl ?_
    refine r_istore_n hX dX5_remove_10 (lv' := [(2, .int a1), (0, .ref (ad 14 k)), (1, .int a1)]) (by decide) rfl ?_
    refine r_sub [1, 2, 0] rfl ?_
    exact mX5_remove_L11 hX hQ k hk a1 fuel μ a1 h
  · have h := ite_t hc3 h
    exact r_vret hX hQ (Option.some.inj h) dX5_remove_8
abbrev rmX5_placeFor : Room := { frames := 3, cells := 0, slots := 0, locals := 72 }
noncomputable def jX5_placeFor_L9 (k0 : Nat) (x1 : Int32) (x3 : Int32) : Nat → Mu → Int32 → Int32 → Option (Int32 × Mu)
  | 0, _, _, _ => none
  | n1 + 1, μ, x4, x5 => if x5 ≤ x4 then some (x4, μ) else (jX5_cardAt μ k0 ((x4 + x5) / 2)).bind (fun r4 => (jX1_askComparing μ x3 x1 r4).bind (fun q6 => if q6.1 = (-11) then some ((-11), q6.2) else if 0 ≤ q6.1 then jX5_placeFor_L9 k0 x1 x3 n1 q6.2 (((x4 + x5) / 2) + 1) x5 else jX5_placeFor_L9 k0 x1 x3 n1 q6.2 x4 ((x4 + x5) / 2)))
set_option maxHeartbeats 4000000 in
set_option maxRecDepth 100000 in
theorem mX5_placeFor_L9 {l : Launch} {D : va_G} {cI cH cT : ClassId} {ad : Nat → Nat → Nat} {Z : va_W} {X : Cx} (hX : HX (gC l D cI cH cT ad Z) X cX5_placeFor 8 RX5 rmX5_placeFor (some .int)) {r : Int32} {μ' : Mu} (hQ : HQ (gC l D cI cH cT ad Z) X (some (.int r)) μ') (k0 : Nat) (hk0 : k0 < 8) (x1 : Int32) (x3 : Int32) : ∀ (n1 : Nat) (μ : Mu) (x4 : Int32) (x5 : Int32), jX5_placeFor_L9 k0 x1 x3 n1 μ x4 x5 = some (r, μ') → V (gC l D cI cH cT ad Z) X 8 μ 9 [(0, .ref (ad 14 k0)), (1, .int x1), (2, .ref (ad 1 0)), (3, .int x3), (4, .int x4), (5, .int x5)] [] := by
  intro n1
  induction n1 with
  | zero => intro μ x4 x5 h; exact none_no h
  | succ n1 ih =>
    intro μ x4 x5 h
    rw [jX5_placeFor_L9] at h
    refine r_iload hX dX5_placeFor_9 4 rfl ?_
    refine r_iload hX dX5_placeFor_11 5 rfl ?_
    refine r_icmp_ge hX (tgt := 70) dX5_placeFor_13 (by decide) (fun hc2 => ?_) (fun hc2 => ?_)
    · have h := ite_t hc2 h
      refine r_iload hX dX5_placeFor_70 4 rfl ?_
      exact r_iret hX hQ (pr1 h) (pr2 h) dX5_placeFor_72
    · have h := ite_f hc2 h
      refine r_iload hX dX5_placeFor_16 4 rfl ?_
      refine r_iload hX dX5_placeFor_18 5 rfl ?_
      refine r_iadd hX dX5_placeFor_20 ?_
      refine r_iconst hX dX5_placeFor_21 (v := 2) (by decide) ?_
      refine r_idiv hX dX5_placeFor_22 (by decide) ?_
      refine r_istore hX dX5_placeFor_23 (lv' := [(6, .int ((x4 + x5) / 2)), (0, .ref (ad 14 k0)), (1, .int x1), (2, .ref (ad 1 0)), (3, .int x3), (4, .int x4), (5, .int x5)]) (by decide) rfl ?_
      refine r_aload_n hX dX5_placeFor_25 3 rfl ?_
      refine r_iload_n hX dX5_placeFor_26 4 rfl ?_
      refine r_iload_n hX dX5_placeFor_27 2 rfl ?_
      refine r_aload_n hX dX5_placeFor_28 1 rfl ?_
      refine r_iload hX dX5_placeFor_29 0 rfl ?_
      obtain ⟨r4, hq3, h⟩ := bind_ex h
      refine r_callV hX 14 k0 (As := [.int ((x4 + x5) / 2)]) (rest := [.int x1, .int x3, .ref (ad 1 0)]) (st' := [.int r4, .int x1, .int x3, .ref (ad 1 0)]) (res := (some (.int r4))) (μ' := μ) (mX5_cardAt k0 hk0 ((x4 + x5) / 2) hq3) ckV_X5_30 ⟨rfl, rfl, by decide, by decide⟩ (kyC14 hk0) rfl rfl rfl rfl (Nat.le_of_ble_eq_true rfl) dX5_placeFor_31 rfl ?_
      obtain ⟨q6, hq5, h⟩ := bind_ex h
      refine r_callV hX 1 0 (As := [.int x3, .int x1, .int r4]) (rest := []) (st' := [.int q6.1]) (res := (some (.int q6.1))) (μ' := q6.2) (mX1_askComparing x3 x1 r4 hq5) ckV_X5_45 ⟨rfl, rfl, by decide, by decide⟩ kyC1 rfl rfl rfl rfl (Nat.le_of_ble_eq_true rfl) dX5_placeFor_34 rfl ?_
      refine r_istore hX dX5_placeFor_37 (lv' := [(7, .int q6.1), (6, .int ((x4 + x5) / 2)), (0, .ref (ad 14 k0)), (1, .int x1), (2, .ref (ad 1 0)), (3, .int x3), (4, .int x4), (5, .int x5)]) (by decide) rfl ?_
      refine r_iload hX dX5_placeFor_39 0 rfl ?_
      refine r_bipush hX dX5_placeFor_41 (v := (-11)) (by decide) ?_
      refine r_icmp_ne hX (tgt := 49) dX5_placeFor_43 (by decide) (fun hc7 => ?_) (fun hc7 => ?_)
      · have h := ite_f hc7 h
        refine r_iload hX dX5_placeFor_49 0 rfl ?_
        refine r_if_ge hX (tgt := 61) dX5_placeFor_51 (by decide) (fun hc8 => ?_) (fun hc8 => ?_)
        · have h := ite_t hc8 h
          refine r_iload hX dX5_placeFor_61 1 rfl ?_
          refine r_iconst hX dX5_placeFor_63 (v := 1) (by decide) ?_
          refine r_iadd hX dX5_placeFor_64 ?_
          refine r_istore hX dX5_placeFor_65 (lv' := [(4, .int (((x4 + x5) / 2) + 1)), (7, .int q6.1), (6, .int ((x4 + x5) / 2)), (0, .ref (ad 14 k0)), (1, .int x1), (2, .ref (ad 1 0)), (3, .int x3), (5, .int x5)]) (by decide) rfl ?_
          refine r_goto hX (tgt := 9) dX5_placeFor_67 (by decide) ?_
          refine r_sub [3, 4, 5, 6, 0, 7] rfl ?_
          exact ih q6.2 (((x4 + x5) / 2) + 1) x5 h
        · have h := ite_f hc8 h
          refine r_iload hX dX5_placeFor_54 1 rfl ?_
          refine r_istore hX dX5_placeFor_56 (lv' := [(5, .int ((x4 + x5) / 2)), (7, .int q6.1), (6, .int ((x4 + x5) / 2)), (0, .ref (ad 14 k0)), (1, .int x1), (2, .ref (ad 1 0)), (3, .int x3), (4, .int x4)]) (by decide) rfl ?_
          refine r_goto hX (tgt := 67) dX5_placeFor_58 (by decide) ?_
          refine r_goto hX (tgt := 9) dX5_placeFor_67 (by decide) ?_
          refine r_sub [3, 4, 5, 6, 7, 0] rfl ?_
          exact ih q6.2 x4 ((x4 + x5) / 2) h
      · have h := ite_t hc7 h
        refine r_bipush hX dX5_placeFor_46 (v := (-11)) (by decide) ?_
        exact r_iret hX hQ (pr1 h) (pr2 h) dX5_placeFor_48
noncomputable def jX5_placeFor (μ : Mu) (k : Nat) (a1 : Int32) (a3 : Int32) : Option (Int32 × Mu) := jX5_placeFor_L9 k a1 a3 fuel μ 0 (μ 14 k 1)
set_option maxHeartbeats 4000000 in
set_option maxRecDepth 100000 in
theorem mX5_placeFor {l : Launch} {D : va_G} {cI cH cT : ClassId} {ad : Nat → Nat → Nat} {Z : va_W} {μ : Mu} {r : Int32} {μ' : Mu} (k : Nat) (hk : k < 8) (a1 : Int32) (a3 : Int32) (h : jX5_placeFor μ k a1 a3 = some (r, μ')) : CT (gC l D cI cH cT ad Z) yX5_placeFor (.code yX5_placeFor cX5_placeFor 8 (some .int) :: wsL_law) rmX5_placeFor [.ref (ad 14 k), .int a1, .ref (ad 1 0), .int a3] μ (some (.int r)) μ' := by
  refine ct_of (own := RX5) (by decide) ⟨rfl, rfl⟩ (Nat.le_of_ble_eq_true rfl) rfl (fun X hX hQ => ?_)
  have hX : HX (gC l D cI cH cT ad Z) X cX5_placeFor 8 RX5 rmX5_placeFor (some .int) := hX
  show V (gC l D cI cH cT ad Z) X 8 μ 0 [(0, .ref (ad 14 k)), (1, .int a1), (2, .ref (ad 1 0)), (3, .int a3)] []
  unfold jX5_placeFor at h
  refine r_iconst hX dX5_placeFor_0 (v := 0) (by decide) ?_
  refine r_istore hX dX5_placeFor_1 (lv' := [(4, .int 0), (0, .ref (ad 14 k)), (1, .int a1), (2, .ref (ad 1 0)), (3, .int a3)]) (by decide) rfl ?_
  refine r_aload_n hX dX5_placeFor_3 1 rfl ?_
  refine r_get hX 14 k (kyC14 hk) rfl rfl inlX5 1 (by decide) tw1_157 (v := .int (μ 14 k 1)) rfl dX5_placeFor_4 ?_
  refine r_istore hX dX5_placeFor_7 (lv' := [(5, .int (μ 14 k 1)), (4, .int 0), (0, .ref (ad 14 k)), (1, .int a1), (2, .ref (ad 1 0)), (3, .int a3)]) (by decide) rfl ?_
  refine r_sub [2, 3, 4, 5, 1, 0] rfl ?_
  exact mX5_placeFor_L9 hX hQ k hk a1 a3 fuel μ 0 (μ 14 k 1) h
abbrev rmX5_rise : Room := { frames := 3, cells := 0, slots := 0, locals := 72 }
noncomputable def jX5_rise_L3 (k0 : Nat) (x1 : Int32) (x3 : Int32) : Nat → Mu → Int32 → Option (Int32 × Mu)
  | 0, _, _ => none
  | n1 + 1, μ, x4 => if x4 ≤ 0 then some (x4, μ) else (jX5_cardAt μ k0 x4).bind (fun r4 => (jX5_cardAt μ k0 ((x4 - 1) / 2)).bind (fun r6 => (jX1_askComparing μ x3 r4 r6).bind (fun q8 => if q8.1 = (-11) then some ((-11), q8.2) else if q8.1 < 0 then (jX5_swap q8.2 k0 x4 ((x4 - 1) / 2)).bind (fun μ12 => jX5_rise_L3 k0 x1 x3 n1 μ12 ((x4 - 1) / 2)) else some (x4, q8.2))))
set_option maxHeartbeats 4000000 in
set_option maxRecDepth 100000 in
theorem mX5_rise_L3 {l : Launch} {D : va_G} {cI cH cT : ClassId} {ad : Nat → Nat → Nat} {Z : va_W} {X : Cx} (hX : HX (gC l D cI cH cT ad Z) X cX5_rise 7 RX5 rmX5_rise (some .int)) {r : Int32} {μ' : Mu} (hQ : HQ (gC l D cI cH cT ad Z) X (some (.int r)) μ') (k0 : Nat) (hk0 : k0 < 8) (x1 : Int32) (x3 : Int32) : ∀ (n1 : Nat) (μ : Mu) (x4 : Int32), jX5_rise_L3 k0 x1 x3 n1 μ x4 = some (r, μ') → V (gC l D cI cH cT ad Z) X 7 μ 3 [(0, .ref (ad 14 k0)), (1, .int x1), (2, .ref (ad 1 0)), (3, .int x3), (4, .int x4)] [] := by
  intro n1
  induction n1 with
  | zero => intro μ x4 h; exact none_no h
  | succ n1 ih =>
    intro μ x4 h
    rw [jX5_rise_L3] at h
    refine r_iload hX dX5_rise_3 4 rfl ?_
    refine r_if_le hX (tgt := 68) dX5_rise_5 (by decide) (fun hc2 => ?_) (fun hc2 => ?_)
    · have h := ite_t hc2 h
      refine r_iload hX dX5_rise_68 4 rfl ?_
      exact r_iret hX hQ (pr1 h) (pr2 h) dX5_rise_70
    · have h := ite_f hc2 h
      refine r_iload hX dX5_rise_8 4 rfl ?_
      refine r_iconst hX dX5_rise_10 (v := 1) (by decide) ?_
      refine r_isub hX dX5_rise_11 ?_
      refine r_iconst hX dX5_rise_12 (v := 2) (by decide) ?_
      refine r_idiv hX dX5_rise_13 (by decide) ?_
      refine r_istore hX dX5_rise_14 (lv' := [(5, .int ((x4 - 1) / 2)), (0, .ref (ad 14 k0)), (1, .int x1), (2, .ref (ad 1 0)), (3, .int x3), (4, .int x4)]) (by decide) rfl ?_
      refine r_aload_n hX dX5_rise_16 3 rfl ?_
      refine r_iload_n hX dX5_rise_17 4 rfl ?_
      refine r_aload_n hX dX5_rise_18 1 rfl ?_
      refine r_iload hX dX5_rise_19 5 rfl ?_
      obtain ⟨r4, hq3, h⟩ := bind_ex h
      refine r_callV hX 14 k0 (As := [.int x4]) (rest := [.int x3, .ref (ad 1 0)]) (st' := [.int r4, .int x3, .ref (ad 1 0)]) (res := (some (.int r4))) (μ' := μ) (mX5_cardAt k0 hk0 x4 hq3) ckV_X5_30 ⟨rfl, rfl, by decide, by decide⟩ (kyC14 hk0) rfl rfl rfl rfl (Nat.le_of_ble_eq_true rfl) dX5_rise_21 rfl ?_
      refine r_aload_n hX dX5_rise_24 1 rfl ?_
      refine r_iload hX dX5_rise_25 0 rfl ?_
      obtain ⟨r6, hq5, h⟩ := bind_ex h
      refine r_callV hX 14 k0 (As := [.int ((x4 - 1) / 2)]) (rest := [.int r4, .int x3, .ref (ad 1 0)]) (st' := [.int r6, .int r4, .int x3, .ref (ad 1 0)]) (res := (some (.int r6))) (μ' := μ) (mX5_cardAt k0 hk0 ((x4 - 1) / 2) hq5) ckV_X5_30 ⟨rfl, rfl, by decide, by decide⟩ (kyC14 hk0) rfl rfl rfl rfl (Nat.le_of_ble_eq_true rfl) dX5_rise_27 rfl ?_
      obtain ⟨q8, hq7, h⟩ := bind_ex h
      refine r_callV hX 1 0 (As := [.int x3, .int r4, .int r6]) (rest := []) (st' := [.int q8.1]) (res := (some (.int q8.1))) (μ' := q8.2) (mX1_askComparing x3 r4 r6 hq7) ckV_X5_45 ⟨rfl, rfl, by decide, by decide⟩ kyC1 rfl rfl rfl rfl (Nat.le_of_ble_eq_true rfl) dX5_rise_30 rfl ?_
      refine r_istore hX dX5_rise_33 (lv' := [(6, .int q8.1), (5, .int ((x4 - 1) / 2)), (0, .ref (ad 14 k0)), (1, .int x1), (2, .ref (ad 1 0)), (3, .int x3), (4, .int x4)]) (by decide) rfl ?_
      refine r_iload hX dX5_rise_35 0 rfl ?_
      refine r_bipush hX dX5_rise_37 (v := (-11)) (by decide) ?_
      refine r_icmp_ne hX (tgt := 45) dX5_rise_39 (by decide) (fun hc9 => ?_) (fun hc9 => ?_)
      · have h := ite_f hc9 h
        refine r_iload hX dX5_rise_45 0 rfl ?_
        refine r_if_lt hX (tgt := 53) dX5_rise_47 (by decide) (fun hc10 => ?_) (fun hc10 => ?_)
        · have h := ite_t hc10 h
          refine r_aload_n hX dX5_rise_53 2 rfl ?_
          refine r_iload hX dX5_rise_54 6 rfl ?_
          refine r_iload hX dX5_rise_56 1 rfl ?_
          obtain ⟨μ12, hq11, h⟩ := bind_ex h
          refine r_callV hX 14 k0 (As := [.int x4, .int ((x4 - 1) / 2)]) (rest := []) (st' := []) (res := none) (μ' := μ12) (mX5_swap k0 hk0 x4 ((x4 - 1) / 2) hq11) ckV_X5_42 ⟨rfl, rfl, by decide, by decide⟩ (kyC14 hk0) rfl rfl rfl rfl (Nat.le_of_ble_eq_true rfl) dX5_rise_58 rfl ?_
          refine r_iload hX dX5_rise_61 1 rfl ?_
          refine r_istore hX dX5_rise_63 (lv' := [(4, .int ((x4 - 1) / 2)), (6, .int q8.1), (5, .int ((x4 - 1) / 2)), (0, .ref (ad 14 k0)), (1, .int x1), (2, .ref (ad 1 0)), (3, .int x3)]) (by decide) rfl ?_
          refine r_goto hX (tgt := 3) dX5_rise_65 (by decide) ?_
          refine r_sub [3, 4, 5, 6, 0] rfl ?_
          exact ih μ12 ((x4 - 1) / 2) h
        · have h := ite_f hc10 h
          refine r_iload hX dX5_rise_50 6 rfl ?_
          exact r_iret hX hQ (pr1 h) (pr2 h) dX5_rise_52
      · have h := ite_t hc9 h
        refine r_bipush hX dX5_rise_42 (v := (-11)) (by decide) ?_
        exact r_iret hX hQ (pr1 h) (pr2 h) dX5_rise_44
noncomputable def jX5_rise (μ : Mu) (k : Nat) (a1 : Int32) (a3 : Int32) : Option (Int32 × Mu) := jX5_rise_L3 k a1 a3 fuel μ a1
set_option maxHeartbeats 4000000 in
set_option maxRecDepth 100000 in
theorem mX5_rise {l : Launch} {D : va_G} {cI cH cT : ClassId} {ad : Nat → Nat → Nat} {Z : va_W} {μ : Mu} {r : Int32} {μ' : Mu} (k : Nat) (hk : k < 8) (a1 : Int32) (a3 : Int32) (h : jX5_rise μ k a1 a3 = some (r, μ')) : CT (gC l D cI cH cT ad Z) yX5_rise (.code yX5_rise cX5_rise 7 (some .int) :: wsL_law) rmX5_rise [.ref (ad 14 k), .int a1, .ref (ad 1 0), .int a3] μ (some (.int r)) μ' := by
  refine ct_of (own := RX5) (by decide) ⟨rfl, rfl⟩ (Nat.le_of_ble_eq_true rfl) rfl (fun X hX hQ => ?_)
  have hX : HX (gC l D cI cH cT ad Z) X cX5_rise 7 RX5 rmX5_rise (some .int) := hX
  show V (gC l D cI cH cT ad Z) X 7 μ 0 [(0, .ref (ad 14 k)), (1, .int a1), (2, .ref (ad 1 0)), (3, .int a3)] []
  unfold jX5_rise at h
  refine r_iload_n hX dX5_rise_0 1 rfl ?_
  refine r_istore hX dX5_rise_1 (lv' := [(4, .int a1), (0, .ref (ad 14 k)), (1, .int a1), (2, .ref (ad 1 0)), (3, .int a3)]) (by decide) rfl ?_
  refine r_sub [1, 2, 3, 4, 0] rfl ?_
  exact mX5_rise_L3 hX hQ k hk a1 a3 fuel μ a1 h
abbrev rmX5_sink : Room := { frames := 3, cells := 0, slots := 0, locals := 72 }
noncomputable def jX5_sink_L11 (k0 : Nat) (x1 : Int32) (x3 : Int32) : Nat → Mu → Int32 → Int32 → Option (Int32 × Mu)
  | 0, _, _, _ => none
  | n1 + 1, μ, x4, x5 => if (μ 14 k0 1) ≤ x5 then some (x4, μ) else if (μ 14 k0 1) ≤ (x5 + 1) then (jX5_cardAt μ k0 x5).bind (fun r5 => (jX5_cardAt μ k0 x4).bind (fun r7 => (jX1_askComparing μ x3 r5 r7).bind (fun q9 => if q9.1 = (-11) then some ((-11), q9.2) else if q9.1 < 0 then (jX5_swap q9.2 k0 x5 x4).bind (fun μ13 => jX5_sink_L11 k0 x1 x3 n1 μ13 x5 ((2 * x5) + 1)) else some (x4, q9.2)))) else (jX5_cardAt μ k0 (x5 + 1)).bind (fun r15 => (jX5_cardAt μ k0 x5).bind (fun r17 => (jX1_askComparing μ x3 r15 r17).bind (fun q19 => if q19.1 = (-11) then some ((-11), q19.2) else if 0 ≤ q19.1 then (jX5_cardAt q19.2 k0 x5).bind (fun r23 => (jX5_cardAt q19.2 k0 x4).bind (fun r25 => (jX1_askComparing q19.2 x3 r23 r25).bind (fun q27 => if q27.1 = (-11) then some ((-11), q27.2) else if q27.1 < 0 then (jX5_swap q27.2 k0 x5 x4).bind (fun μ31 => jX5_sink_L11 k0 x1 x3 n1 μ31 x5 ((2 * x5) + 1)) else some (x4, q27.2)))) else (jX5_cardAt q19.2 k0 (x5 + 1)).bind (fun r33 => (jX5_cardAt q19.2 k0 x4).bind (fun r35 => (jX1_askComparing q19.2 x3 r33 r35).bind (fun q37 => if q37.1 = (-11) then some ((-11), q37.2) else if q37.1 < 0 then (jX5_swap q37.2 k0 (x5 + 1) x4).bind (fun μ41 => jX5_sink_L11 k0 x1 x3 n1 μ41 (x5 + 1) ((2 * (x5 + 1)) + 1)) else some (x4, q37.2)))))))
set_option maxHeartbeats 4000000 in
set_option maxRecDepth 100000 in
theorem mX5_sink_L11 {l : Launch} {D : va_G} {cI cH cT : ClassId} {ad : Nat → Nat → Nat} {Z : va_W} {X : Cx} (hX : HX (gC l D cI cH cT ad Z) X cX5_sink 7 RX5 rmX5_sink (some .int)) {r : Int32} {μ' : Mu} (hQ : HQ (gC l D cI cH cT ad Z) X (some (.int r)) μ') (k0 : Nat) (hk0 : k0 < 8) (x1 : Int32) (x3 : Int32) : ∀ (n1 : Nat) (μ : Mu) (x4 : Int32) (x5 : Int32), jX5_sink_L11 k0 x1 x3 n1 μ x4 x5 = some (r, μ') → V (gC l D cI cH cT ad Z) X 7 μ 11 [(0, .ref (ad 14 k0)), (1, .int x1), (2, .ref (ad 1 0)), (3, .int x3), (4, .int x4), (5, .int x5)] [] := by
  intro n1
  induction n1 with
  | zero => intro μ x4 x5 h; exact none_no h
  | succ n1 ih =>
    intro μ x4 x5 h
    rw [jX5_sink_L11] at h
    refine r_iload hX dX5_sink_11 5 rfl ?_
    refine r_aload_n hX dX5_sink_13 0 rfl ?_
    refine r_get hX 14 k0 (kyC14 hk0) rfl rfl inlX5 1 (by decide) tw1_157 (v := .int (μ 14 k0 1)) rfl dX5_sink_14 ?_
    refine r_icmp_ge hX (tgt := 130) dX5_sink_17 (by decide) (fun hc2 => ?_) (fun hc2 => ?_)
    · have h := ite_t hc2 h
      refine r_iload hX dX5_sink_130 4 rfl ?_
      exact r_iret hX hQ (pr1 h) (pr2 h) dX5_sink_132
    · have h := ite_f hc2 h
      refine r_iload hX dX5_sink_20 5 rfl ?_
      refine r_iconst hX dX5_sink_22 (v := 1) (by decide) ?_
      refine r_iadd hX dX5_sink_23 ?_
      refine r_aload_n hX dX5_sink_24 0 rfl ?_
      refine r_get hX 14 k0 (kyC14 hk0) rfl rfl inlX5 1 (by decide) tw1_157 (v := .int (μ 14 k0 1)) rfl dX5_sink_25 ?_
      refine r_icmp_ge hX (tgt := 70) dX5_sink_28 (by decide) (fun hc3 => ?_) (fun hc3 => ?_)
      · have h := ite_t hc3 h
        refine r_aload_n hX dX5_sink_70 2 rfl ?_
        refine r_iload_n hX dX5_sink_71 3 rfl ?_
        refine r_aload_n hX dX5_sink_72 0 rfl ?_
        refine r_iload hX dX5_sink_73 5 rfl ?_
        obtain ⟨r5, hq4, h⟩ := bind_ex h
        refine r_callV hX 14 k0 (As := [.int x5]) (rest := [.int x3, .ref (ad 1 0)]) (st' := [.int r5, .int x3, .ref (ad 1 0)]) (res := (some (.int r5))) (μ' := μ) (mX5_cardAt k0 hk0 x5 hq4) ckV_X5_30 ⟨rfl, rfl, by decide, by decide⟩ (kyC14 hk0) rfl rfl rfl rfl (Nat.le_of_ble_eq_true rfl) dX5_sink_75 rfl ?_
        refine r_aload_n hX dX5_sink_78 0 rfl ?_
        refine r_iload hX dX5_sink_79 4 rfl ?_
        obtain ⟨r7, hq6, h⟩ := bind_ex h
        refine r_callV hX 14 k0 (As := [.int x4]) (rest := [.int r5, .int x3, .ref (ad 1 0)]) (st' := [.int r7, .int r5, .int x3, .ref (ad 1 0)]) (res := (some (.int r7))) (μ' := μ) (mX5_cardAt k0 hk0 x4 hq6) ckV_X5_30 ⟨rfl, rfl, by decide, by decide⟩ (kyC14 hk0) rfl rfl rfl rfl (Nat.le_of_ble_eq_true rfl) dX5_sink_81 rfl ?_
        obtain ⟨q9, hq8, h⟩ := bind_ex h
        refine r_callV hX 1 0 (As := [.int x3, .int r5, .int r7]) (rest := []) (st' := [.int q9.1]) (res := (some (.int q9.1))) (μ' := q9.2) (mX1_askComparing x3 r5 r7 hq8) ckV_X5_45 ⟨rfl, rfl, by decide, by decide⟩ kyC1 rfl rfl rfl rfl (Nat.le_of_ble_eq_true rfl) dX5_sink_84 rfl ?_
        refine r_istore hX dX5_sink_87 (lv' := [(6, .int q9.1), (0, .ref (ad 14 k0)), (1, .int x1), (2, .ref (ad 1 0)), (3, .int x3), (4, .int x4), (5, .int x5)]) (by decide) rfl ?_
        refine r_iload hX dX5_sink_89 0 rfl ?_
        refine r_bipush hX dX5_sink_91 (v := (-11)) (by decide) ?_
        refine r_icmp_ne hX (tgt := 99) dX5_sink_93 (by decide) (fun hc10 => ?_) (fun hc10 => ?_)
        · have h := ite_f hc10 h
          refine r_iload hX dX5_sink_99 0 rfl ?_
          refine r_if_lt hX (tgt := 107) dX5_sink_101 (by decide) (fun hc11 => ?_) (fun hc11 => ?_)
          · have h := ite_t hc11 h
            refine r_aload_n hX dX5_sink_107 1 rfl ?_
            refine r_iload hX dX5_sink_108 6 rfl ?_
            refine r_iload hX dX5_sink_110 5 rfl ?_
            obtain ⟨μ13, hq12, h⟩ := bind_ex h
            refine r_callV hX 14 k0 (As := [.int x5, .int x4]) (rest := []) (st' := []) (res := none) (μ' := μ13) (mX5_swap k0 hk0 x5 x4 hq12) ckV_X5_42 ⟨rfl, rfl, by decide, by decide⟩ (kyC14 hk0) rfl rfl rfl rfl (Nat.le_of_ble_eq_true rfl) dX5_sink_112 rfl ?_
            refine r_iload hX dX5_sink_115 6 rfl ?_
            refine r_istore hX dX5_sink_117 (lv' := [(4, .int x5), (6, .int q9.1), (0, .ref (ad 14 k0)), (1, .int x1), (2, .ref (ad 1 0)), (3, .int x3), (5, .int x5)]) (by decide) rfl ?_
            refine r_iconst hX dX5_sink_119 (v := 2) (by decide) ?_
            refine r_iload hX dX5_sink_120 0 rfl ?_
            refine r_imul hX dX5_sink_122 ?_
            refine r_iconst hX dX5_sink_123 (v := 1) (by decide) ?_
            refine r_iadd hX dX5_sink_124 ?_
            refine r_istore hX dX5_sink_125 (lv' := [(5, .int ((2 * x5) + 1)), (4, .int x5), (6, .int q9.1), (0, .ref (ad 14 k0)), (1, .int x1), (2, .ref (ad 1 0)), (3, .int x3)]) (by decide) rfl ?_
            refine r_goto hX (tgt := 11) dX5_sink_127 (by decide) ?_
            refine r_sub [3, 4, 5, 6, 1, 0] rfl ?_
            exact ih μ13 x5 ((2 * x5) + 1) h
          · have h := ite_f hc11 h
            refine r_iload hX dX5_sink_104 5 rfl ?_
            exact r_iret hX hQ (pr1 h) (pr2 h) dX5_sink_106
        · have h := ite_t hc10 h
          refine r_bipush hX dX5_sink_96 (v := (-11)) (by decide) ?_
          exact r_iret hX hQ (pr1 h) (pr2 h) dX5_sink_98
      · have h := ite_f hc3 h
        refine r_aload_n hX dX5_sink_31 2 rfl ?_
        refine r_iload_n hX dX5_sink_32 3 rfl ?_
        refine r_aload_n hX dX5_sink_33 0 rfl ?_
        refine r_iload hX dX5_sink_34 5 rfl ?_
        refine r_iconst hX dX5_sink_36 (v := 1) (by decide) ?_
        refine r_iadd hX dX5_sink_37 ?_
        obtain ⟨r15, hq14, h⟩ := bind_ex h
        refine r_callV hX 14 k0 (As := [.int (x5 + 1)]) (rest := [.int x3, .ref (ad 1 0)]) (st' := [.int r15, .int x3, .ref (ad 1 0)]) (res := (some (.int r15))) (μ' := μ) (mX5_cardAt k0 hk0 (x5 + 1) hq14) ckV_X5_30 ⟨rfl, rfl, by decide, by decide⟩ (kyC14 hk0) rfl rfl rfl rfl (Nat.le_of_ble_eq_true rfl) dX5_sink_38 rfl ?_
        refine r_aload_n hX dX5_sink_41 0 rfl ?_
        refine r_iload hX dX5_sink_42 5 rfl ?_
        obtain ⟨r17, hq16, h⟩ := bind_ex h
        refine r_callV hX 14 k0 (As := [.int x5]) (rest := [.int r15, .int x3, .ref (ad 1 0)]) (st' := [.int r17, .int r15, .int x3, .ref (ad 1 0)]) (res := (some (.int r17))) (μ' := μ) (mX5_cardAt k0 hk0 x5 hq16) ckV_X5_30 ⟨rfl, rfl, by decide, by decide⟩ (kyC14 hk0) rfl rfl rfl rfl (Nat.le_of_ble_eq_true rfl) dX5_sink_44 rfl ?_
        obtain ⟨q19, hq18, h⟩ := bind_ex h
        refine r_callV hX 1 0 (As := [.int x3, .int r15, .int r17]) (rest := []) (st' := [.int q19.1]) (res := (some (.int q19.1))) (μ' := q19.2) (mX1_askComparing x3 r15 r17 hq18) ckV_X5_45 ⟨rfl, rfl, by decide, by decide⟩ kyC1 rfl rfl rfl rfl (Nat.le_of_ble_eq_true rfl) dX5_sink_47 rfl ?_
        refine r_istore hX dX5_sink_50 (lv' := [(6, .int q19.1), (0, .ref (ad 14 k0)), (1, .int x1), (2, .ref (ad 1 0)), (3, .int x3), (4, .int x4), (5, .int x5)]) (by decide) rfl ?_
        refine r_iload hX dX5_sink_52 0 rfl ?_
        refine r_bipush hX dX5_sink_54 (v := (-11)) (by decide) ?_
        refine r_icmp_ne hX (tgt := 62) dX5_sink_56 (by decide) (fun hc20 => ?_) (fun hc20 => ?_)
        · have h := ite_f hc20 h
          refine r_iload hX dX5_sink_62 0 rfl ?_
          refine r_if_ge hX (tgt := 70) dX5_sink_64 (by decide) (fun hc21 => ?_) (fun hc21 => ?_)
          · have h := ite_t hc21 h
            refine r_aload_n hX dX5_sink_70 3 rfl ?_
            refine r_iload_n hX dX5_sink_71 4 rfl ?_
            refine r_aload_n hX dX5_sink_72 1 rfl ?_
            refine r_iload hX dX5_sink_73 6 rfl ?_
            obtain ⟨r23, hq22, h⟩ := bind_ex h
            refine r_callV hX 14 k0 (As := [.int x5]) (rest := [.int x3, .ref (ad 1 0)]) (st' := [.int r23, .int x3, .ref (ad 1 0)]) (res := (some (.int r23))) (μ' := q19.2) (mX5_cardAt k0 hk0 x5 hq22) ckV_X5_30 ⟨rfl, rfl, by decide, by decide⟩ (kyC14 hk0) rfl rfl rfl rfl (Nat.le_of_ble_eq_true rfl) dX5_sink_75 rfl ?_
            refine r_aload_n hX dX5_sink_78 1 rfl ?_
            refine r_iload hX dX5_sink_79 5 rfl ?_
            obtain ⟨r25, hq24, h⟩ := bind_ex h
            refine r_callV hX 14 k0 (As := [.int x4]) (rest := [.int r23, .int x3, .ref (ad 1 0)]) (st' := [.int r25, .int r23, .int x3, .ref (ad 1 0)]) (res := (some (.int r25))) (μ' := q19.2) (mX5_cardAt k0 hk0 x4 hq24) ckV_X5_30 ⟨rfl, rfl, by decide, by decide⟩ (kyC14 hk0) rfl rfl rfl rfl (Nat.le_of_ble_eq_true rfl) dX5_sink_81 rfl ?_
            obtain ⟨q27, hq26, h⟩ := bind_ex h
            refine r_callV hX 1 0 (As := [.int x3, .int r23, .int r25]) (rest := []) (st' := [.int q27.1]) (res := (some (.int q27.1))) (μ' := q27.2) (mX1_askComparing x3 r23 r25 hq26) ckV_X5_45 ⟨rfl, rfl, by decide, by decide⟩ kyC1 rfl rfl rfl rfl (Nat.le_of_ble_eq_true rfl) dX5_sink_84 rfl ?_
            refine r_istore hX dX5_sink_87 (lv' := [(6, .int q27.1), (0, .ref (ad 14 k0)), (1, .int x1), (2, .ref (ad 1 0)), (3, .int x3), (4, .int x4), (5, .int x5)]) (by decide) rfl ?_
            refine r_iload hX dX5_sink_89 0 rfl ?_
            refine r_bipush hX dX5_sink_91 (v := (-11)) (by decide) ?_
            refine r_icmp_ne hX (tgt := 99) dX5_sink_93 (by decide) (fun hc28 => ?_) (fun hc28 => ?_)
            · have h := ite_f hc28 h
              refine r_iload hX dX5_sink_99 0 rfl ?_
              refine r_if_lt hX (tgt := 107) dX5_sink_101 (by decide) (fun hc29 => ?_) (fun hc29 => ?_)
              · have h := ite_t hc29 h
                refine r_aload_n hX dX5_sink_107 1 rfl ?_
                refine r_iload hX dX5_sink_108 6 rfl ?_
                refine r_iload hX dX5_sink_110 5 rfl ?_
                obtain ⟨μ31, hq30, h⟩ := bind_ex h
                refine r_callV hX 14 k0 (As := [.int x5, .int x4]) (rest := []) (st' := []) (res := none) (μ' := μ31) (mX5_swap k0 hk0 x5 x4 hq30) ckV_X5_42 ⟨rfl, rfl, by decide, by decide⟩ (kyC14 hk0) rfl rfl rfl rfl (Nat.le_of_ble_eq_true rfl) dX5_sink_112 rfl ?_
                refine r_iload hX dX5_sink_115 6 rfl ?_
                refine r_istore hX dX5_sink_117 (lv' := [(4, .int x5), (6, .int q27.1), (0, .ref (ad 14 k0)), (1, .int x1), (2, .ref (ad 1 0)), (3, .int x3), (5, .int x5)]) (by decide) rfl ?_
                refine r_iconst hX dX5_sink_119 (v := 2) (by decide) ?_
                refine r_iload hX dX5_sink_120 0 rfl ?_
                refine r_imul hX dX5_sink_122 ?_
                refine r_iconst hX dX5_sink_123 (v := 1) (by decide) ?_
                refine r_iadd hX dX5_sink_124 ?_
                refine r_istore hX dX5_sink_125 (lv' := [(5, .int ((2 * x5) + 1)), (4, .int x5), (6, .int q27.1), (0, .ref (ad 14 k0)), (1, .int x1), (2, .ref (ad 1 0)), (3, .int x3)]) (by decide) rfl ?_
                refine r_goto hX (tgt := 11) dX5_sink_127 (by decide) ?_
                refine r_sub [3, 4, 5, 6, 1, 0] rfl ?_
                exact ih μ31 x5 ((2 * x5) + 1) h
              · have h := ite_f hc29 h
                refine r_iload hX dX5_sink_104 5 rfl ?_
                exact r_iret hX hQ (pr1 h) (pr2 h) dX5_sink_106
            · have h := ite_t hc28 h
              refine r_bipush hX dX5_sink_96 (v := (-11)) (by decide) ?_
              exact r_iret hX hQ (pr1 h) (pr2 h) dX5_sink_98
          · have h := ite_f hc21 h
            refine r_iinc hX dX5_sink_67 (j := 6) (v := x5 + 1) (lv' := [(5, .int (x5 + 1)), (6, .int q19.1), (0, .ref (ad 14 k0)), (1, .int x1), (2, .ref (ad 1 0)), (3, .int x3), (4, .int x4)]) rfl (congrArg (x5 + ·) (by decide)) (by decide) rfl ?_
            refine r_aload_n hX dX5_sink_70 4 rfl ?_
            refine r_iload_n hX dX5_sink_71 5 rfl ?_
            refine r_aload_n hX dX5_sink_72 2 rfl ?_
            refine r_iload hX dX5_sink_73 0 rfl ?_
            obtain ⟨r33, hq32, h⟩ := bind_ex h
            refine r_callV hX 14 k0 (As := [.int (x5 + 1)]) (rest := [.int x3, .ref (ad 1 0)]) (st' := [.int r33, .int x3, .ref (ad 1 0)]) (res := (some (.int r33))) (μ' := q19.2) (mX5_cardAt k0 hk0 (x5 + 1) hq32) ckV_X5_30 ⟨rfl, rfl, by decide, by decide⟩ (kyC14 hk0) rfl rfl rfl rfl (Nat.le_of_ble_eq_true rfl) dX5_sink_75 rfl ?_
            refine r_aload_n hX dX5_sink_78 2 rfl ?_
            refine r_iload hX dX5_sink_79 6 rfl ?_
            obtain ⟨r35, hq34, h⟩ := bind_ex h
            refine r_callV hX 14 k0 (As := [.int x4]) (rest := [.int r33, .int x3, .ref (ad 1 0)]) (st' := [.int r35, .int r33, .int x3, .ref (ad 1 0)]) (res := (some (.int r35))) (μ' := q19.2) (mX5_cardAt k0 hk0 x4 hq34) ckV_X5_30 ⟨rfl, rfl, by decide, by decide⟩ (kyC14 hk0) rfl rfl rfl rfl (Nat.le_of_ble_eq_true rfl) dX5_sink_81 rfl ?_
            obtain ⟨q37, hq36, h⟩ := bind_ex h
            refine r_callV hX 1 0 (As := [.int x3, .int r33, .int r35]) (rest := []) (st' := [.int q37.1]) (res := (some (.int q37.1))) (μ' := q37.2) (mX1_askComparing x3 r33 r35 hq36) ckV_X5_45 ⟨rfl, rfl, by decide, by decide⟩ kyC1 rfl rfl rfl rfl (Nat.le_of_ble_eq_true rfl) dX5_sink_84 rfl ?_
            refine r_istore hX dX5_sink_87 (lv' := [(6, .int q37.1), (5, .int (x5 + 1)), (0, .ref (ad 14 k0)), (1, .int x1), (2, .ref (ad 1 0)), (3, .int x3), (4, .int x4)]) (by decide) rfl ?_
            refine r_iload hX dX5_sink_89 0 rfl ?_
            refine r_bipush hX dX5_sink_91 (v := (-11)) (by decide) ?_
            refine r_icmp_ne hX (tgt := 99) dX5_sink_93 (by decide) (fun hc38 => ?_) (fun hc38 => ?_)
            · have h := ite_f hc38 h
              refine r_iload hX dX5_sink_99 0 rfl ?_
              refine r_if_lt hX (tgt := 107) dX5_sink_101 (by decide) (fun hc39 => ?_) (fun hc39 => ?_)
              · have h := ite_t hc39 h
                refine r_aload_n hX dX5_sink_107 2 rfl ?_
                refine r_iload hX dX5_sink_108 1 rfl ?_
                refine r_iload hX dX5_sink_110 6 rfl ?_
                obtain ⟨μ41, hq40, h⟩ := bind_ex h
                refine r_callV hX 14 k0 (As := [.int (x5 + 1), .int x4]) (rest := []) (st' := []) (res := none) (μ' := μ41) (mX5_swap k0 hk0 (x5 + 1) x4 hq40) ckV_X5_42 ⟨rfl, rfl, by decide, by decide⟩ (kyC14 hk0) rfl rfl rfl rfl (Nat.le_of_ble_eq_true rfl) dX5_sink_112 rfl ?_
                refine r_iload hX dX5_sink_115 1 rfl ?_
                refine r_istore hX dX5_sink_117 (lv' := [(4, .int (x5 + 1)), (6, .int q37.1), (5, .int (x5 + 1)), (0, .ref (ad 14 k0)), (1, .int x1), (2, .ref (ad 1 0)), (3, .int x3)]) (by decide) rfl ?_
                refine r_iconst hX dX5_sink_119 (v := 2) (by decide) ?_
                refine r_iload hX dX5_sink_120 0 rfl ?_
                refine r_imul hX dX5_sink_122 ?_
                refine r_iconst hX dX5_sink_123 (v := 1) (by decide) ?_
                refine r_iadd hX dX5_sink_124 ?_
                refine r_istore hX dX5_sink_125 (lv' := [(5, .int ((2 * (x5 + 1)) + 1)), (4, .int (x5 + 1)), (6, .int q37.1), (0, .ref (ad 14 k0)), (1, .int x1), (2, .ref (ad 1 0)), (3, .int x3)]) (by decide) rfl ?_
                refine r_goto hX (tgt := 11) dX5_sink_127 (by decide) ?_
                refine r_sub [3, 4, 5, 6, 1, 0] rfl ?_
                exact ih μ41 (x5 + 1) ((2 * (x5 + 1)) + 1) h
              · have h := ite_f hc39 h
                refine r_iload hX dX5_sink_104 6 rfl ?_
                exact r_iret hX hQ (pr1 h) (pr2 h) dX5_sink_106
            · have h := ite_t hc38 h
              refine r_bipush hX dX5_sink_96 (v := (-11)) (by decide) ?_
              exact r_iret hX hQ (pr1 h) (pr2 h) dX5_sink_98
        · have h := ite_t hc20 h
          refine r_bipush hX dX5_sink_59 (v := (-11)) (by decide) ?_
          exact r_iret hX hQ (pr1 h) (pr2 h) dX5_sink_61
noncomputable def jX5_sink (μ : Mu) (k : Nat) (a1 : Int32) (a3 : Int32) : Option (Int32 × Mu) := jX5_sink_L11 k a1 a3 fuel μ a1 ((2 * a1) + 1)
set_option maxHeartbeats 4000000 in
set_option maxRecDepth 100000 in
theorem mX5_sink {l : Launch} {D : va_G} {cI cH cT : ClassId} {ad : Nat → Nat → Nat} {Z : va_W} {μ : Mu} {r : Int32} {μ' : Mu} (k : Nat) (hk : k < 8) (a1 : Int32) (a3 : Int32) (h : jX5_sink μ k a1 a3 = some (r, μ')) : CT (gC l D cI cH cT ad Z) yX5_sink (.code yX5_sink cX5_sink 7 (some .int) :: wsL_law) rmX5_sink [.ref (ad 14 k), .int a1, .ref (ad 1 0), .int a3] μ (some (.int r)) μ' := by
  refine ct_of (own := RX5) (by decide) ⟨rfl, rfl⟩ (Nat.le_of_ble_eq_true rfl) rfl (fun X hX hQ => ?_)
  have hX : HX (gC l D cI cH cT ad Z) X cX5_sink 7 RX5 rmX5_sink (some .int) := hX
  show V (gC l D cI cH cT ad Z) X 7 μ 0 [(0, .ref (ad 14 k)), (1, .int a1), (2, .ref (ad 1 0)), (3, .int a3)] []
  unfold jX5_sink at h
  refine r_iload_n hX dX5_sink_0 1 rfl ?_
  refine r_istore hX dX5_sink_1 (lv' := [(4, .int a1), (0, .ref (ad 14 k)), (1, .int a1), (2, .ref (ad 1 0)), (3, .int a3)]) (by decide) rfl ?_
  refine r_iconst hX dX5_sink_3 (v := 2) (by decide) ?_
  refine r_iload hX dX5_sink_4 0 rfl ?_
  refine r_imul hX dX5_sink_6 ?_
  refine r_iconst hX dX5_sink_7 (v := 1) (by decide) ?_
  refine r_iadd hX dX5_sink_8 ?_
  refine r_istore hX dX5_sink_9 (lv' := [(5, .int ((2 * a1) + 1)), (4, .int a1), (0, .ref (ad 14 k)), (1, .int a1), (2, .ref (ad 1 0)), (3, .int a3)]) (by decide) rfl ?_
  refine r_sub [2, 3, 4, 5, 1, 0] rfl ?_
  exact mX5_sink_L11 hX hQ k hk a1 a3 fuel μ a1 ((2 * a1) + 1) h
abbrev rmX5_appendMerged : Room := { frames := 3, cells := 0, slots := 0, locals := 72 }
noncomputable def jX5_appendMerged_L6 (k0 : Nat) (k1 : Nat) (x2 : Int32) (x3 : Int32) (x4 : Int32) (x6 : Int32) : Nat → Mu → Int32 → Int32 → Option (Int32 × Mu)
  | 0, _, _, _ => none
  | n1 + 1, μ, x7, x8 => if x3 ≤ x7 then (jX5_appendPart μ k0 k1 x7 x3).bind (fun μ4 => (jX5_appendPart μ4 k0 k1 x8 x4).bind (fun μ6 => some (1, μ6))) else if x4 ≤ x8 then (jX5_appendPart μ k0 k1 x7 x3).bind (fun μ9 => (jX5_appendPart μ9 k0 k1 x8 x4).bind (fun μ11 => some (1, μ11))) else (jX5_cardAt μ k1 x8).bind (fun r13 => (jX5_cardAt μ k1 x7).bind (fun r15 => (jX1_askComparing μ x6 r13 r15).bind (fun q17 => if q17.1 = (-11) then some (0, q17.2) else if 0 ≤ q17.1 then (jX5_cardAt q17.2 k1 x7).bind (fun r21 => (jX5_append q17.2 k0 r21).bind (fun μ23 => jX5_appendMerged_L6 k0 k1 x2 x3 x4 x6 n1 μ23 (x7 + 1) x8)) else (jX5_cardAt q17.2 k1 x8).bind (fun r25 => (jX5_append q17.2 k0 r25).bind (fun μ27 => jX5_appendMerged_L6 k0 k1 x2 x3 x4 x6 n1 μ27 x7 (x8 + 1))))))
set_option maxHeartbeats 4000000 in
set_option maxRecDepth 100000 in
theorem mX5_appendMerged_L6 {l : Launch} {D : va_G} {cI cH cT : ClassId} {ad : Nat → Nat → Nat} {Z : va_W} {X : Cx} (hX : HX (gC l D cI cH cT ad Z) X cX5_appendMerged 10 RX5 rmX5_appendMerged (some .boolean)) {r : Int32} {μ' : Mu} (hQ : HQ (gC l D cI cH cT ad Z) X (some (.int r)) μ') (k0 : Nat) (hk0 : k0 < 8) (k1 : Nat) (hk1 : k1 < 8) (x2 : Int32) (x3 : Int32) (x4 : Int32) (x6 : Int32) : ∀ (n1 : Nat) (μ : Mu) (x7 : Int32) (x8 : Int32), jX5_appendMerged_L6 k0 k1 x2 x3 x4 x6 n1 μ x7 x8 = some (r, μ') → V (gC l D cI cH cT ad Z) X 10 μ 6 [(0, .ref (ad 14 k0)), (1, .ref (ad 14 k1)), (2, .int x2), (3, .int x3), (4, .int x4), (5, .ref (ad 1 0)), (6, .int x6), (7, .int x7), (8, .int x8)] [] := by
  intro n1
  induction n1 with
  | zero => intro μ x7 x8 h; exact none_no h
  | succ n1 ih =>
    intro μ x7 x8 h
    rw [jX5_appendMerged_L6] at h
    refine r_iload hX dX5_appendMerged_6 7 rfl ?_
    refine r_iload_n hX dX5_appendMerged_8 3 rfl ?_
    refine r_icmp_ge hX (tgt := 86) dX5_appendMerged_9 (by decide) (fun hc2 => ?_) (fun hc2 => ?_)
    · have h := ite_t hc2 h
      refine r_aload_n hX dX5_appendMerged_86 0 rfl ?_
      refine r_aload_n hX dX5_appendMerged_87 1 rfl ?_
      refine r_iload hX dX5_appendMerged_88 7 rfl ?_
      refine r_iload_n hX dX5_appendMerged_90 3 rfl ?_
      obtain ⟨μ4, hq3, h⟩ := bind_ex h
      refine r_callV hX 14 k0 (As := [.ref (ad 14 k1), .int x7, .int x3]) (rest := []) (st' := []) (res := none) (μ' := μ4) (mX5_appendPart k0 hk0 k1 hk1 x7 x3 hq3) ckV_X5_26 ⟨rfl, rfl, by decide, by decide⟩ (kyC14 hk0) rfl rfl rfl rfl (Nat.le_of_ble_eq_true rfl) dX5_appendMerged_91 rfl ?_
      refine r_aload_n hX dX5_appendMerged_94 0 rfl ?_
      refine r_aload_n hX dX5_appendMerged_95 1 rfl ?_
      refine r_iload hX dX5_appendMerged_96 8 rfl ?_
      refine r_iload hX dX5_appendMerged_98 4 rfl ?_
      obtain ⟨μ6, hq5, h⟩ := bind_ex h
      refine r_callV hX 14 k0 (As := [.ref (ad 14 k1), .int x8, .int x4]) (rest := []) (st' := []) (res := none) (μ' := μ6) (mX5_appendPart k0 hk0 k1 hk1 x8 x4 hq5) ckV_X5_26 ⟨rfl, rfl, by decide, by decide⟩ (kyC14 hk0) rfl rfl rfl rfl (Nat.le_of_ble_eq_true rfl) dX5_appendMerged_100 rfl ?_
      refine r_iconst hX dX5_appendMerged_103 (v := 1) (by decide) ?_
      exact r_zret hX (Or.inr rfl) hQ (pr1 h) (pr2 h) dX5_appendMerged_104
    · have h := ite_f hc2 h
      refine r_iload hX dX5_appendMerged_12 8 rfl ?_
      refine r_iload hX dX5_appendMerged_14 4 rfl ?_
      refine r_icmp_ge hX (tgt := 86) dX5_appendMerged_16 (by decide) (fun hc7 => ?_) (fun hc7 => ?_)
      · have h := ite_t hc7 h
        refine r_aload_n hX dX5_appendMerged_86 0 rfl ?_
        refine r_aload_n hX dX5_appendMerged_87 1 rfl ?_
        refine r_iload hX dX5_appendMerged_88 7 rfl ?_
        refine r_iload_n hX dX5_appendMerged_90 3 rfl ?_
        obtain ⟨μ9, hq8, h⟩ := bind_ex h
        refine r_callV hX 14 k0 (As := [.ref (ad 14 k1), .int x7, .int x3]) (rest := []) (st' := []) (res := none) (μ' := μ9) (mX5_appendPart k0 hk0 k1 hk1 x7 x3 hq8) ckV_X5_26 ⟨rfl, rfl, by decide, by decide⟩ (kyC14 hk0) rfl rfl rfl rfl (Nat.le_of_ble_eq_true rfl) dX5_appendMerged_91 rfl ?_
        refine r_aload_n hX dX5_appendMerged_94 0 rfl ?_
        refine r_aload_n hX dX5_appendMerged_95 1 rfl ?_
        refine r_iload hX dX5_appendMerged_96 8 rfl ?_
        refine r_iload hX dX5_appendMerged_98 4 rfl ?_
        obtain ⟨μ11, hq10, h⟩ := bind_ex h
        refine r_callV hX 14 k0 (As := [.ref (ad 14 k1), .int x8, .int x4]) (rest := []) (st' := []) (res := none) (μ' := μ11) (mX5_appendPart k0 hk0 k1 hk1 x8 x4 hq10) ckV_X5_26 ⟨rfl, rfl, by decide, by decide⟩ (kyC14 hk0) rfl rfl rfl rfl (Nat.le_of_ble_eq_true rfl) dX5_appendMerged_100 rfl ?_
        refine r_iconst hX dX5_appendMerged_103 (v := 1) (by decide) ?_
        exact r_zret hX (Or.inr rfl) hQ (pr1 h) (pr2 h) dX5_appendMerged_104
      · have h := ite_f hc7 h
        refine r_aload hX dX5_appendMerged_19 5 rfl ?_
        refine r_iload hX dX5_appendMerged_21 6 rfl ?_
        refine r_aload_n hX dX5_appendMerged_23 1 rfl ?_
        refine r_iload hX dX5_appendMerged_24 8 rfl ?_
        obtain ⟨r13, hq12, h⟩ := bind_ex h
        refine r_callV hX 14 k1 (As := [.int x8]) (rest := [.int x6, .ref (ad 1 0)]) (st' := [.int r13, .int x6, .ref (ad 1 0)]) (res := (some (.int r13))) (μ' := μ) (mX5_cardAt k1 hk1 x8 hq12) ckV_X5_30 ⟨rfl, rfl, by decide, by decide⟩ (kyC14 hk1) rfl rfl rfl rfl (Nat.le_of_ble_eq_true rfl) dX5_appendMerged_26 rfl ?_
        refine r_aload_n hX dX5_appendMerged_29 1 rfl ?_
        refine r_iload hX dX5_appendMerged_30 7 rfl ?_
        obtain ⟨r15, hq14, h⟩ := bind_ex h
        refine r_callV hX 14 k1 (As := [.int x7]) (rest := [.int r13, .int x6, .ref (ad 1 0)]) (st' := [.int r15, .int r13, .int x6, .ref (ad 1 0)]) (res := (some (.int r15))) (μ' := μ) (mX5_cardAt k1 hk1 x7 hq14) ckV_X5_30 ⟨rfl, rfl, by decide, by decide⟩ (kyC14 hk1) rfl rfl rfl rfl (Nat.le_of_ble_eq_true rfl) dX5_appendMerged_32 rfl ?_
        obtain ⟨q17, hq16, h⟩ := bind_ex h
        refine r_callV hX 1 0 (As := [.int x6, .int r13, .int r15]) (rest := []) (st' := [.int q17.1]) (res := (some (.int q17.1))) (μ' := q17.2) (mX1_askComparing x6 r13 r15 hq16) ckV_X5_45 ⟨rfl, rfl, by decide, by decide⟩ kyC1 rfl rfl rfl rfl (Nat.le_of_ble_eq_true rfl) dX5_appendMerged_35 rfl ?_
        refine r_istore hX dX5_appendMerged_38 (lv' := [(9, .int q17.1), (0, .ref (ad 14 k0)), (1, .ref (ad 14 k1)), (2, .int x2), (3, .int x3), (4, .int x4), (5, .ref (ad 1 0)), (6, .int x6), (7, .int x7), (8, .int x8)]) (by decide) rfl ?_
        refine r_iload hX dX5_appendMerged_40 0 rfl ?_
        refine r_bipush hX dX5_appendMerged_42 (v := (-11)) (by decide) ?_
        refine r_icmp_ne hX (tgt := 49) dX5_appendMerged_44 (by decide) (fun hc18 => ?_) (fun hc18 => ?_)
        · have h := ite_f hc18 h
          refine r_iload hX dX5_appendMerged_49 0 rfl ?_
          refine r_if_ge hX (tgt := 70) dX5_appendMerged_51 (by decide) (fun hc19 => ?_) (fun hc19 => ?_)
          · have h := ite_t hc19 h
            refine r_aload_n hX dX5_appendMerged_70 1 rfl ?_
            refine r_aload_n hX dX5_appendMerged_71 2 rfl ?_
            refine r_iload hX dX5_appendMerged_72 8 rfl ?_
            obtain ⟨r21, hq20, h⟩ := bind_ex h
            refine r_callV hX 14 k1 (As := [.int x7]) (rest := [.ref (ad 14 k0)]) (st' := [.int r21, .ref (ad 14 k0)]) (res := (some (.int r21))) (μ' := q17.2) (mX5_cardAt k1 hk1 x7 hq20) ckV_X5_30 ⟨rfl, rfl, by decide, by decide⟩ (kyC14 hk1) rfl rfl rfl rfl (Nat.le_of_ble_eq_true rfl) dX5_appendMerged_74 rfl ?_
            obtain ⟨μ23, hq22, h⟩ := bind_ex h
            refine r_callV hX 14 k0 (As := [.int r21]) (rest := []) (st' := []) (res := none) (μ' := μ23) (mX5_append k0 hk0 r21 hq22) ckV_X5_34 ⟨rfl, rfl, by decide, by decide⟩ (kyC14 hk0) rfl rfl rfl rfl (Nat.le_of_ble_eq_true rfl) dX5_appendMerged_77 rfl ?_
            refine r_iinc hX dX5_appendMerged_80 (j := 8) (v := x7 + 1) (lv' := [(7, .int (x7 + 1)), (9, .int q17.1), (0, .ref (ad 14 k0)), (1, .ref (ad 14 k1)), (2, .int x2), (3, .int x3), (4, .int x4), (5, .ref (ad 1 0)), (6, .int x6), (8, .int x8)]) rfl (congrArg (x7 + ·) (by decide)) (by decide) rfl ?_
            refine r_goto hX (tgt := 6) dX5_appendMerged_83 (by decide) ?_
            refine r_sub [2, 3, 4, 5, 6, 7, 8, 0, 9] rfl ?_
            exact ih μ23 (x7 + 1) x8 h
          · have h := ite_f hc19 h
            refine r_aload_n hX dX5_appendMerged_54 1 rfl ?_
            refine r_aload_n hX dX5_appendMerged_55 2 rfl ?_
            refine r_iload hX dX5_appendMerged_56 9 rfl ?_
            obtain ⟨r25, hq24, h⟩ := bind_ex h
            refine r_callV hX 14 k1 (As := [.int x8]) (rest := [.ref (ad 14 k0)]) (st' := [.int r25, .ref (ad 14 k0)]) (res := (some (.int r25))) (μ' := q17.2) (mX5_cardAt k1 hk1 x8 hq24) ckV_X5_30 ⟨rfl, rfl, by decide, by decide⟩ (kyC14 hk1) rfl rfl rfl rfl (Nat.le_of_ble_eq_true rfl) dX5_appendMerged_58 rfl ?_
            obtain ⟨μ27, hq26, h⟩ := bind_ex h
            refine r_callV hX 14 k0 (As := [.int r25]) (rest := []) (st' := []) (res := none) (μ' := μ27) (mX5_append k0 hk0 r25 hq26) ckV_X5_34 ⟨rfl, rfl, by decide, by decide⟩ (kyC14 hk0) rfl rfl rfl rfl (Nat.le_of_ble_eq_true rfl) dX5_appendMerged_61 rfl ?_
            refine r_iinc hX dX5_appendMerged_64 (j := 9) (v := x8 + 1) (lv' := [(8, .int (x8 + 1)), (9, .int q17.1), (0, .ref (ad 14 k0)), (1, .ref (ad 14 k1)), (2, .int x2), (3, .int x3), (4, .int x4), (5, .ref (ad 1 0)), (6, .int x6), (7, .int x7)]) rfl (congrArg (x8 + ·) (by decide)) (by decide) rfl ?_
            refine r_goto hX (tgt := 83) dX5_appendMerged_67 (by decide) ?_
            refine r_goto hX (tgt := 6) dX5_appendMerged_83 (by decide) ?_
            refine r_sub [2, 3, 4, 5, 6, 7, 8, 9, 0] rfl ?_
            exact ih μ27 x7 (x8 + 1) h
        · have h := ite_t hc18 h
          refine r_iconst hX dX5_appendMerged_47 (v := 0) (by decide) ?_
          exact r_zret hX (Or.inl rfl) hQ (pr1 h) (pr2 h) dX5_appendMerged_48
noncomputable def jX5_appendMerged (μ : Mu) (k : Nat) (b1 : Nat) (a2 : Int32) (a3 : Int32) (a4 : Int32) (a6 : Int32) : Option (Int32 × Mu) := jX5_appendMerged_L6 k b1 a2 a3 a4 a6 fuel μ a2 a3
set_option maxHeartbeats 4000000 in
set_option maxRecDepth 100000 in
theorem mX5_appendMerged {l : Launch} {D : va_G} {cI cH cT : ClassId} {ad : Nat → Nat → Nat} {Z : va_W} {μ : Mu} {r : Int32} {μ' : Mu} (k : Nat) (hk : k < 8) (b1 : Nat) (hb1 : b1 < 8) (a2 : Int32) (a3 : Int32) (a4 : Int32) (a6 : Int32) (h : jX5_appendMerged μ k b1 a2 a3 a4 a6 = some (r, μ')) : CT (gC l D cI cH cT ad Z) yX5_appendMerged (.code yX5_appendMerged cX5_appendMerged 10 (some .boolean) :: wsL_law) rmX5_appendMerged [.ref (ad 14 k), .ref (ad 14 b1), .int a2, .int a3, .int a4, .ref (ad 1 0), .int a6] μ (some (.int r)) μ' := by
  refine ct_of (own := RX5) (by decide) ⟨rfl, rfl⟩ (Nat.le_of_ble_eq_true rfl) rfl (fun X hX hQ => ?_)
  have hX : HX (gC l D cI cH cT ad Z) X cX5_appendMerged 10 RX5 rmX5_appendMerged (some .boolean) := hX
  show V (gC l D cI cH cT ad Z) X 10 μ 0 [(0, .ref (ad 14 k)), (1, .ref (ad 14 b1)), (2, .int a2), (3, .int a3), (4, .int a4), (5, .ref (ad 1 0)), (6, .int a6)] []
  unfold jX5_appendMerged at h
  refine r_iload_n hX dX5_appendMerged_0 2 rfl ?_
  refine r_istore hX dX5_appendMerged_1 (lv' := [(7, .int a2), (0, .ref (ad 14 k)), (1, .ref (ad 14 b1)), (2, .int a2), (3, .int a3), (4, .int a4), (5, .ref (ad 1 0)), (6, .int a6)]) (by decide) rfl ?_
  refine r_iload_n hX dX5_appendMerged_3 4 rfl ?_
  refine r_istore hX dX5_appendMerged_4 (lv' := [(8, .int a3), (7, .int a2), (0, .ref (ad 14 k)), (1, .ref (ad 14 b1)), (2, .int a2), (3, .int a3), (4, .int a4), (5, .ref (ad 1 0)), (6, .int a6)]) (by decide) rfl ?_
  refine r_sub [2, 3, 4, 5, 6, 7, 8, 1, 0] rfl ?_
  exact mX5_appendMerged_L6 hX hQ k hk b1 hb1 a2 a3 a4 a6 fuel μ a2 a3 h
abbrev rmX6_become : Room := { frames := 0, cells := 0, slots := 0, locals := 0 }
noncomputable def jX6_become (μ : Mu) (k : Nat) (a1 : Int32) (a2 : Int32) : Option (Mu) := mst (mu_st μ 13 k 1 a1) (fun μ1 => mst (mu_st μ1 13 k 2 a2) (fun μ2 => some μ2))
set_option maxHeartbeats 4000000 in
set_option maxRecDepth 100000 in
theorem mX6_become {l : Launch} {D : va_G} {cI cH cT : ClassId} {ad : Nat → Nat → Nat} {Z : va_W} {μ : Mu} {μ' : Mu} (k : Nat) (hk : k < 6) (a1 : Int32) (a2 : Int32) (h : jX6_become μ k a1 a2 = some μ') : CT (gC l D cI cH cT ad Z) yX6_become (.code yX6_become cX6_become 3 none :: wsL_law) rmX6_become [.ref (ad 13 k), .int a1, .int a2] μ none μ' := by
  refine ct_of (own := RX6) (by decide) ⟨rfl, rfl⟩ (Nat.le_of_ble_eq_true rfl) rfl (fun X hX hQ => ?_)
  have hX : HX (gC l D cI cH cT ad Z) X cX6_become 3 RX6 rmX6_become none := hX
  show V (gC l D cI cH cT ad Z) X 3 μ 0 [(0, .ref (ad 13 k)), (1, .int a1), (2, .int a2)] []
  unfold jX6_become at h
  refine r_aload_n hX dX6_become_0 0 rfl ?_
  refine r_iload_n hX dX6_become_1 1 rfl ?_
  refine r_put hX 13 k (kyC13 hk) rfl rfl inlX6 tyX6 tyX6_ok nmX6 1 (by decide) tw1_166 rfl (tyX6_ok 1 (by decide)) rfl rfl (Nat.le_of_ble_eq_true rfl) rfl dX6_become_2 (fun μ1 eμ1 => ?_)
  have h := mst_at eμ1 h
  refine r_aload_n hX dX6_become_5 0 rfl ?_
  refine r_iload_n hX dX6_become_6 2 rfl ?_
  refine r_put hX 13 k (kyC13 hk) rfl rfl inlX6 tyX6 tyX6_ok nmX6 2 (by decide) tw1_168 rfl (tyX6_ok 2 (by decide)) rfl rfl (Nat.le_of_ble_eq_true rfl) rfl dX6_become_7 (fun μ2 eμ2 => ?_)
  have h := mst_at eμ2 h
  exact r_vret hX hQ (Option.some.inj h) dX6_become_10
