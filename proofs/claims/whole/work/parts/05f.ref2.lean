abbrev rmX8_insert : Room := { frames := 0, cells := 0, slots := 0, locals := 0 }
noncomputable def jX8_insert_L5 (x1 : Int32) (x2 : Int32) : Nat → Mu → Int32 → Option (Mu)
  | 0, _, _ => none
  | n1 + 1, μ, x3 => if x3 ≤ x1 then if inb x1 41 = true then mst (mu_st μ 27 0 x1.toNatClampNeg x2) (fun μ4 => mst (mu_st μ4 0 0 26 ((μ4 0 0 26) + 1)) (fun μ5 => some μ5)) else none else if inb (x3 - 1) 41 = true then if inb x3 41 = true then mst (mu_st μ 27 0 x3.toNatClampNeg (μ 27 0 (x3 - 1).toNatClampNeg)) (fun μ8 => jX8_insert_L5 x1 x2 n1 μ8 (x3 + (-1))) else none else none
set_option maxHeartbeats 4000000 in
set_option maxRecDepth 100000 in
theorem mX8_insert_L5 {l : Launch} {D : va_G} {cI cH cT : ClassId} {ad : Nat → Nat → Nat} {Z : va_W} {X : Cx} (hX : HX (gR l D cI cH cT ad Z) X cX8_insert 4 RX8 rmX8_insert none) {μ' : Mu} (hQ : HQ (gR l D cI cH cT ad Z) X none μ') (x1 : Int32) (x2 : Int32) : ∀ (n1 : Nat) (μ : Mu) (x3 : Int32), jX8_insert_L5 x1 x2 n1 μ x3 = some μ' → V (gR l D cI cH cT ad Z) X 4 μ 5 [(0, .ref (ad 0 0)), (1, .int x1), (2, .int x2), (3, .int x3)] [] := by
  intro n1
  induction n1 with
  | zero => intro μ x3 h; exact none_no h
  | succ n1 ih =>
    intro μ x3 h
    rw [jX8_insert_L5] at h
    refine r_iload_n hX dX8_insert_5 3 rfl ?_
    refine r_iload_n hX dX8_insert_6 1 rfl ?_
    refine r_icmp_le hX (tgt := 30) dX8_insert_7 (by decide) (fun hc2 => ?_) (fun hc2 => ?_)
    · have h := ite_t hc2 h
      refine r_aload_n hX dX8_insert_30 0 rfl ?_
      refine r_get hX 0 0 kyR0 rfl rfl inlX8 27 (by decide) tw3_67 (v := .ref (ad 27 0)) rfl dX8_insert_31 ?_
      refine r_iload_n hX dX8_insert_34 1 rfl ?_
      refine r_iload_n hX dX8_insert_35 2 rfl ?_
      obtain ⟨hb3, h⟩ := ite_some h
      refine r_iast hX 27 0 kyR27 (fun _ => rfl) (t0 := 0) rfl hb3 dX8_insert_36 (fun μ4 eμ4 => ?_)
      have h := mst_at eμ4 h
      refine r_aload_n hX dX8_insert_37 0 rfl ?_
      refine r_dup hX dX8_insert_38 rfl ?_
      refine r_get hX 0 0 kyR0 rfl rfl inlX8 26 (by decide) tw3_66 (v := .int (μ4 0 0 26)) rfl dX8_insert_39 ?_
      refine r_iconst hX dX8_insert_42 (v := 1) (by decide) ?_
      refine r_iadd hX dX8_insert_43 ?_
      refine r_put hX 0 0 kyR0 rfl rfl inlX8 tyX8 tyX8_ok nmX8 26 (by decide) tw3_66 rfl (tyX8_ok 26 (by decide)) rfl rfl (Nat.le_of_ble_eq_true rfl) rfl dX8_insert_44 (fun μ5 eμ5 => ?_)
      have h := mst_at eμ5 h
      exact r_vret hX hQ (Option.some.inj h) dX8_insert_47
    · have h := ite_f hc2 h
      refine r_aload_n hX dX8_insert_10 0 rfl ?_
      refine r_get hX 0 0 kyR0 rfl rfl inlX8 27 (by decide) tw3_67 (v := .ref (ad 27 0)) rfl dX8_insert_11 ?_
      refine r_iload_n hX dX8_insert_14 3 rfl ?_
      refine r_aload_n hX dX8_insert_15 0 rfl ?_
      refine r_get hX 0 0 kyR0 rfl rfl inlX8 27 (by decide) tw3_67 (v := .ref (ad 27 0)) rfl dX8_insert_16 ?_
      refine r_iload_n hX dX8_insert_19 3 rfl ?_
      refine r_iconst hX dX8_insert_20 (v := 1) (by decide) ?_
      refine r_isub hX dX8_insert_21 ?_
      obtain ⟨hb6, h⟩ := ite_some h
      refine r_iald hX 27 0 kyR27 rfl (t0 := 0) rfl hb6 dX8_insert_22 ?_
      obtain ⟨hb7, h⟩ := ite_some h
      refine r_iast hX 27 0 kyR27 (fun _ => rfl) (t0 := 0) rfl hb7 dX8_insert_23 (fun μ8 eμ8 => ?_)
      have h := mst_at eμ8 h
      refine r_iinc hX dX8_insert_24 (j := 3) (v := x3 + (-1)) (lv' := [(3, .int (x3 + (-1))), (0, .ref (ad 0 0)), (1, .int x1), (2, .int x2)]) rfl (congrArg (x3 + ·) (by decide)) (by decide) rfl ?_
      refine r_goto hX (tgt := 5) dX8_insert_27 (by decide) ?_
      refine r_sub [1, 2, 3, 0] rfl ?_
      exact ih μ8 (x3 + (-1)) h
noncomputable def jX8_insert (μ : Mu) (a1 : Int32) (a2 : Int32) : Option (Mu) := jX8_insert_L5 a1 a2 fuel μ (μ 0 0 26)
set_option maxHeartbeats 4000000 in
set_option maxRecDepth 100000 in
theorem mX8_insert {l : Launch} {D : va_G} {cI cH cT : ClassId} {ad : Nat → Nat → Nat} {Z : va_W} {μ : Mu} {μ' : Mu} (a1 : Int32) (a2 : Int32) (h : jX8_insert μ a1 a2 = some μ') : CT (gR l D cI cH cT ad Z) yX8_insert (.code yX8_insert cX8_insert 4 none :: wsL_law) rmX8_insert [.ref (ad 0 0), .int a1, .int a2] μ none μ' := by
  refine ct_of (own := RX8) (by decide) ⟨rfl, rfl⟩ (Nat.le_of_ble_eq_true rfl) rfl (fun X hX hQ => ?_)
  have hX : HX (gR l D cI cH cT ad Z) X cX8_insert 4 RX8 rmX8_insert none := hX
  show V (gR l D cI cH cT ad Z) X 4 μ 0 [(0, .ref (ad 0 0)), (1, .int a1), (2, .int a2)] []
  unfold jX8_insert at h
  refine r_aload_n hX dX8_insert_0 0 rfl ?_
  refine r_get hX 0 0 kyR0 rfl rfl inlX8 26 (by decide) tw3_66 (v := .int (μ 0 0 26)) rfl dX8_insert_1 ?_
  refine r_istore_n hX dX8_insert_4 (lv' := [(3, .int (μ 0 0 26)), (0, .ref (ad 0 0)), (1, .int a1), (2, .int a2)]) (by decide) rfl ?_
  refine r_sub [1, 2, 3, 0] rfl ?_
  exact mX8_insert_L5 hX hQ a1 a2 fuel μ (μ 0 0 26) h
abbrev rmX8_remove : Room := { frames := 0, cells := 0, slots := 0, locals := 0 }
noncomputable def jX8_remove_L12 (x1 : Int32) : Nat → Mu → Int32 → Option (Mu)
  | 0, _, _ => none
  | n2 + 1, μ, x2 => if (μ 0 0 26) ≤ x2 then some μ else if inb (x2 + 1) 41 = true then if inb x2 41 = true then mst (mu_st μ 27 0 x2.toNatClampNeg (μ 27 0 (x2 + 1).toNatClampNeg)) (fun μ6 => jX8_remove_L12 x1 n2 μ6 (x2 + 1)) else none else none
set_option maxHeartbeats 4000000 in
set_option maxRecDepth 100000 in
theorem mX8_remove_L12 {l : Launch} {D : va_G} {cI cH cT : ClassId} {ad : Nat → Nat → Nat} {Z : va_W} {X : Cx} (hX : HX (gR l D cI cH cT ad Z) X cX8_remove 3 RX8 rmX8_remove none) {μ' : Mu} (hQ : HQ (gR l D cI cH cT ad Z) X none μ') (x1 : Int32) : ∀ (n2 : Nat) (μ : Mu) (x2 : Int32), jX8_remove_L12 x1 n2 μ x2 = some μ' → V (gR l D cI cH cT ad Z) X 3 μ 12 [(0, .ref (ad 0 0)), (1, .int x1), (2, .int x2)] [] := by
  intro n2
  induction n2 with
  | zero => intro μ x2 h; exact none_no h
  | succ n2 ih =>
    intro μ x2 h
    rw [jX8_remove_L12] at h
    refine r_iload_n hX dX8_remove_12 2 rfl ?_
    refine r_aload_n hX dX8_remove_13 0 rfl ?_
    refine r_get hX 0 0 kyR0 rfl rfl inlX8 26 (by decide) tw3_66 (v := .int (μ 0 0 26)) rfl dX8_remove_14 ?_
    refine r_icmp_ge hX (tgt := 40) dX8_remove_17 (by decide) (fun hc3 => ?_) (fun hc3 => ?_)
    · have h := ite_t hc3 h
      exact r_vret hX hQ (Option.some.inj h) dX8_remove_40
    · have h := ite_f hc3 h
      refine r_aload_n hX dX8_remove_20 0 rfl ?_
      refine r_get hX 0 0 kyR0 rfl rfl inlX8 27 (by decide) tw3_67 (v := .ref (ad 27 0)) rfl dX8_remove_21 ?_
      refine r_iload_n hX dX8_remove_24 2 rfl ?_
      refine r_aload_n hX dX8_remove_25 0 rfl ?_
      refine r_get hX 0 0 kyR0 rfl rfl inlX8 27 (by decide) tw3_67 (v := .ref (ad 27 0)) rfl dX8_remove_26 ?_
      refine r_iload_n hX dX8_remove_29 2 rfl ?_
      refine r_iconst hX dX8_remove_30 (v := 1) (by decide) ?_
      refine r_iadd hX dX8_remove_31 ?_
      obtain ⟨hb4, h⟩ := ite_some h
      refine r_iald hX 27 0 kyR27 rfl (t0 := 0) rfl hb4 dX8_remove_32 ?_
      obtain ⟨hb5, h⟩ := ite_some h
      refine r_iast hX 27 0 kyR27 (fun _ => rfl) (t0 := 0) rfl hb5 dX8_remove_33 (fun μ6 eμ6 => ?_)
      have h := mst_at eμ6 h
      refine r_iinc hX dX8_remove_34 (j := 2) (v := x2 + 1) (lv' := [(2, .int (x2 + 1)), (0, .ref (ad 0 0)), (1, .int x1)]) rfl (congrArg (x2 + ·) (by decide)) (by decide) rfl ?_
      refine r_goto hX (tgt := 12) dX8_remove_37 (by decide) ?_
      refine r_sub [1, 2, 0] rfl ?_
      exact ih μ6 (x2 + 1) h
noncomputable def jX8_remove (μ : Mu) (a1 : Int32) : Option (Mu) := mst (mu_st μ 0 0 26 ((μ 0 0 26) - 1)) (fun μ1 => jX8_remove_L12 a1 fuel μ1 a1)
set_option maxHeartbeats 4000000 in
set_option maxRecDepth 100000 in
theorem mX8_remove {l : Launch} {D : va_G} {cI cH cT : ClassId} {ad : Nat → Nat → Nat} {Z : va_W} {μ : Mu} {μ' : Mu} (a1 : Int32) (h : jX8_remove μ a1 = some μ') : CT (gR l D cI cH cT ad Z) yX8_remove (.code yX8_remove cX8_remove 3 none :: wsL_law) rmX8_remove [.ref (ad 0 0), .int a1] μ none μ' := by
  refine ct_of (own := RX8) (by decide) ⟨rfl, rfl⟩ (Nat.le_of_ble_eq_true rfl) rfl (fun X hX hQ => ?_)
  have hX : HX (gR l D cI cH cT ad Z) X cX8_remove 3 RX8 rmX8_remove none := hX
  show V (gR l D cI cH cT ad Z) X 3 μ 0 [(0, .ref (ad 0 0)), (1, .int a1)] []
  unfold jX8_remove at h
  refine r_aload_n hX dX8_remove_0 0 rfl ?_
  refine r_dup hX dX8_remove_1 rfl ?_
  refine r_get hX 0 0 kyR0 rfl rfl inlX8 26 (by decide) tw3_66 (v := .int (μ 0 0 26)) rfl dX8_remove_2 ?_
  refine r_iconst hX dX8_remove_5 (v := 1) (by decide) ?_
  refine r_isub hX dX8_remove_6 ?_
  refine r_put hX 0 0 kyR0 rfl rfl inlX8 tyX8 tyX8_ok nmX8 26 (by decide) tw3_66 rfl (tyX8_ok 26 (by decide)) rfl rfl (Nat.le_of_ble_eq_true rfl) rfl dX8_remove_7 (fun μ1 eμ1 => ?_)
  have h := mst_at eμ1 h
  refine r_iload_n hX dX8_remove_10 1 rfl ?_
  refine r_istore_n hX dX8_remove_11 (lv' := [(2, .int a1), (0, .ref (ad 0 0)), (1, .int a1)]) (by decide) rfl ?_
  refine r_sub [1, 2, 0] rfl ?_
  exact mX8_remove_L12 hX hQ a1 fuel μ1 a1 h
abbrev rmX8_halving : Room := { frames := 3, cells := 0, slots := 0, locals := 73 }
noncomputable def jX8_halving_L8 (x1 : Int32) (x2 : Int32) : Nat → Mu → Int32 → Int32 → Option (Int32 × Mu)
  | 0, _, _, _ => none
  | n1 + 1, μ, x3, x4 => if x4 ≤ x3 then some (x3, μ) else if (μ 0 0 21) = 0 then if inb ((x3 + x4) / 2) 41 = true then (jX8_isAhead μ x1 x2 (μ 27 0 ((x3 + x4) / 2).toNatClampNeg)).bind (fun q6 => if q6.1 = 0 then jX8_halving_L8 x1 x2 n1 q6.2 (((x3 + x4) / 2) + 1) x4 else jX8_halving_L8 x1 x2 n1 q6.2 x3 ((x3 + x4) / 2)) else none else some (x3, μ)
set_option maxHeartbeats 4000000 in
set_option maxRecDepth 100000 in
theorem mX8_halving_L8 {l : Launch} {D : va_G} {cI cH cT : ClassId} {ad : Nat → Nat → Nat} {Z : va_W} {X : Cx} (hX : HX (gR l D cI cH cT ad Z) X cX8_halving 6 RX8 rmX8_halving (some .int)) {r : Int32} {μ' : Mu} (hQ : HQ (gR l D cI cH cT ad Z) X (some (.int r)) μ') (x1 : Int32) (x2 : Int32) : ∀ (n1 : Nat) (μ : Mu) (x3 : Int32) (x4 : Int32), jX8_halving_L8 x1 x2 n1 μ x3 x4 = some (r, μ') → V (gR l D cI cH cT ad Z) X 6 μ 8 [(0, .ref (ad 0 0)), (1, .int x1), (2, .int x2), (3, .int x3), (4, .int x4)] [] := by
  intro n1
  induction n1 with
  | zero => intro μ x3 x4 h; exact none_no h
  | succ n1 ih =>
    intro μ x3 x4 h
    rw [jX8_halving_L8] at h
    refine r_iload_n hX dX8_halving_8 3 rfl ?_
    refine r_iload hX dX8_halving_9 4 rfl ?_
    refine r_icmp_ge hX (tgt := 60) dX8_halving_11 (by decide) (fun hc2 => ?_) (fun hc2 => ?_)
    · have h := ite_t hc2 h
      refine r_iload_n hX dX8_halving_60 3 rfl ?_
      exact r_iret hX hQ (pr1 h) (pr2 h) dX8_halving_61
    · have h := ite_f hc2 h
      refine r_aload_n hX dX8_halving_14 0 rfl ?_
      refine r_get hX 0 0 kyR0 rfl rfl inlX8 21 (by decide) tw3_61 (v := .int (μ 0 0 21)) rfl dX8_halving_15 ?_
      refine r_if_ne hX (tgt := 60) dX8_halving_18 (by decide) (fun hc3 => ?_) (fun hc3 => ?_)
      · have h := ite_f hc3 h
        refine r_iload_n hX dX8_halving_60 3 rfl ?_
        exact r_iret hX hQ (pr1 h) (pr2 h) dX8_halving_61
      · have h := ite_t hc3 h
        refine r_iload_n hX dX8_halving_21 3 rfl ?_
        refine r_iload hX dX8_halving_22 4 rfl ?_
        refine r_iadd hX dX8_halving_24 ?_
        refine r_iconst hX dX8_halving_25 (v := 2) (by decide) ?_
        refine r_idiv hX dX8_halving_26 (by decide) ?_
        refine r_istore hX dX8_halving_27 (lv' := [(5, .int ((x3 + x4) / 2)), (0, .ref (ad 0 0)), (1, .int x1), (2, .int x2), (3, .int x3), (4, .int x4)]) (by decide) rfl ?_
        refine r_aload_n hX dX8_halving_29 1 rfl ?_
        refine r_iload_n hX dX8_halving_30 2 rfl ?_
        refine r_iload_n hX dX8_halving_31 3 rfl ?_
        refine r_aload_n hX dX8_halving_32 1 rfl ?_
        refine r_get hX 0 0 kyR0 rfl rfl inlX8 27 (by decide) tw3_67 (v := .ref (ad 27 0)) rfl dX8_halving_33 ?_
        refine r_iload hX dX8_halving_36 0 rfl ?_
        obtain ⟨hb4, h⟩ := ite_some h
        refine r_iald hX 27 0 kyR27 rfl (t0 := 0) rfl hb4 dX8_halving_38 ?_
        obtain ⟨q6, hq5, h⟩ := bind_ex h
        refine r_callV hX 0 0 (As := [.int x1, .int x2, .int (μ 27 0 ((x3 + x4) / 2).toNatClampNeg)]) (rest := []) (st' := [.int q6.1]) (res := (some (.int q6.1))) (μ' := q6.2) (mX8_isAhead x1 x2 (μ 27 0 ((x3 + x4) / 2).toNatClampNeg) hq5) ckV_X8_144 ⟨rfl, rfl, by decide, by decide⟩ kyR0 rfl rfl rfl rfl (Nat.le_of_ble_eq_true rfl) dX8_halving_39 rfl ?_
        refine r_if_eq hX (tgt := 52) dX8_halving_42 (by decide) (fun hc7 => ?_) (fun hc7 => ?_)
        · have h := ite_t hc7 h
          refine r_iload hX dX8_halving_52 0 rfl ?_
          refine r_iconst hX dX8_halving_54 (v := 1) (by decide) ?_
          refine r_iadd hX dX8_halving_55 ?_
          refine r_istore_n hX dX8_halving_56 (lv' := [(3, .int (((x3 + x4) / 2) + 1)), (5, .int ((x3 + x4) / 2)), (0, .ref (ad 0 0)), (1, .int x1), (2, .int x2), (4, .int x4)]) (by decide) rfl ?_
          refine r_goto hX (tgt := 8) dX8_halving_57 (by decide) ?_
          refine r_sub [2, 3, 4, 0, 5] rfl ?_
          exact ih q6.2 (((x3 + x4) / 2) + 1) x4 h
        · have h := ite_f hc7 h
          refine r_iload hX dX8_halving_45 0 rfl ?_
          refine r_istore hX dX8_halving_47 (lv' := [(4, .int ((x3 + x4) / 2)), (5, .int ((x3 + x4) / 2)), (0, .ref (ad 0 0)), (1, .int x1), (2, .int x2), (3, .int x3)]) (by decide) rfl ?_
          refine r_goto hX (tgt := 57) dX8_halving_49 (by decide) ?_
          refine r_goto hX (tgt := 8) dX8_halving_57 (by decide) ?_
          refine r_sub [2, 3, 4, 5, 0] rfl ?_
          exact ih q6.2 x3 ((x3 + x4) / 2) h
noncomputable def jX8_halving (μ : Mu) (a1 : Int32) (a2 : Int32) : Option (Int32 × Mu) := jX8_halving_L8 a1 a2 fuel μ 0 (μ 0 0 26)
set_option maxHeartbeats 4000000 in
set_option maxRecDepth 100000 in
theorem mX8_halving {l : Launch} {D : va_G} {cI cH cT : ClassId} {ad : Nat → Nat → Nat} {Z : va_W} {μ : Mu} {r : Int32} {μ' : Mu} (a1 : Int32) (a2 : Int32) (h : jX8_halving μ a1 a2 = some (r, μ')) : CT (gR l D cI cH cT ad Z) yX8_halving (.code yX8_halving cX8_halving 6 (some .int) :: wsL_law) rmX8_halving [.ref (ad 0 0), .int a1, .int a2] μ (some (.int r)) μ' := by
  refine ct_of (own := RX8) (by decide) ⟨rfl, rfl⟩ (Nat.le_of_ble_eq_true rfl) rfl (fun X hX hQ => ?_)
  have hX : HX (gR l D cI cH cT ad Z) X cX8_halving 6 RX8 rmX8_halving (some .int) := hX
  show V (gR l D cI cH cT ad Z) X 6 μ 0 [(0, .ref (ad 0 0)), (1, .int a1), (2, .int a2)] []
  unfold jX8_halving at h
  refine r_iconst hX dX8_halving_0 (v := 0) (by decide) ?_
  refine r_istore_n hX dX8_halving_1 (lv' := [(3, .int 0), (0, .ref (ad 0 0)), (1, .int a1), (2, .int a2)]) (by decide) rfl ?_
  refine r_aload_n hX dX8_halving_2 1 rfl ?_
  refine r_get hX 0 0 kyR0 rfl rfl inlX8 26 (by decide) tw3_66 (v := .int (μ 0 0 26)) rfl dX8_halving_3 ?_
  refine r_istore hX dX8_halving_6 (lv' := [(4, .int (μ 0 0 26)), (3, .int 0), (0, .ref (ad 0 0)), (1, .int a1), (2, .int a2)]) (by decide) rfl ?_
  refine r_sub [2, 3, 4, 1, 0] rfl ?_
  exact mX8_halving_L8 hX hQ a1 a2 fuel μ 0 (μ 0 0 26) h
abbrev rmX8_turn : Room := { frames := 0, cells := 0, slots := 0, locals := 0 }
noncomputable def jX8_turn (μ : Mu) (a1 : Int32) (a2 : Int32) : Option (Mu) := if inb a1 41 = true then if inb a2 41 = true then if inb a1 41 = true then mst (mu_st μ 27 0 a1.toNatClampNeg (μ 27 0 a2.toNatClampNeg)) (fun μ4 => if inb a2 41 = true then mst (mu_st μ4 27 0 a2.toNatClampNeg (μ 27 0 a1.toNatClampNeg)) (fun μ6 => some μ6) else none) else none else none else none
set_option maxHeartbeats 4000000 in
set_option maxRecDepth 100000 in
theorem mX8_turn {l : Launch} {D : va_G} {cI cH cT : ClassId} {ad : Nat → Nat → Nat} {Z : va_W} {μ : Mu} {μ' : Mu} (a1 : Int32) (a2 : Int32) (h : jX8_turn μ a1 a2 = some μ') : CT (gR l D cI cH cT ad Z) yX8_turn (.code yX8_turn cX8_turn 4 none :: wsL_law) rmX8_turn [.ref (ad 0 0), .int a1, .int a2] μ none μ' := by
  refine ct_of (own := RX8) (by decide) ⟨rfl, rfl⟩ (Nat.le_of_ble_eq_true rfl) rfl (fun X hX hQ => ?_)
  have hX : HX (gR l D cI cH cT ad Z) X cX8_turn 4 RX8 rmX8_turn none := hX
  show V (gR l D cI cH cT ad Z) X 4 μ 0 [(0, .ref (ad 0 0)), (1, .int a1), (2, .int a2)] []
  unfold jX8_turn at h
  refine r_aload_n hX dX8_turn_0 0 rfl ?_
  refine r_get hX 0 0 kyR0 rfl rfl inlX8 27 (by decide) tw3_67 (v := .ref (ad 27 0)) rfl dX8_turn_1 ?_
  refine r_iload_n hX dX8_turn_4 1 rfl ?_
  obtain ⟨hb1, h⟩ := ite_some h
  refine r_iald hX 27 0 kyR27 rfl (t0 := 0) rfl hb1 dX8_turn_5 ?_
  refine r_istore_n hX dX8_turn_6 (lv' := [(3, .int (μ 27 0 a1.toNatClampNeg)), (0, .ref (ad 0 0)), (1, .int a1), (2, .int a2)]) (by decide) rfl ?_
  refine r_aload_n hX dX8_turn_7 1 rfl ?_
  refine r_get hX 0 0 kyR0 rfl rfl inlX8 27 (by decide) tw3_67 (v := .ref (ad 27 0)) rfl dX8_turn_8 ?_
  refine r_iload_n hX dX8_turn_11 2 rfl ?_
  refine r_aload_n hX dX8_turn_12 1 rfl ?_
  refine r_get hX 0 0 kyR0 rfl rfl inlX8 27 (by decide) tw3_67 (v := .ref (ad 27 0)) rfl dX8_turn_13 ?_
  refine r_iload_n hX dX8_turn_16 3 rfl ?_
  obtain ⟨hb2, h⟩ := ite_some h
  refine r_iald hX 27 0 kyR27 rfl (t0 := 0) rfl hb2 dX8_turn_17 ?_
  obtain ⟨hb3, h⟩ := ite_some h
  refine r_iast hX 27 0 kyR27 (fun _ => rfl) (t0 := 0) rfl hb3 dX8_turn_18 (fun μ4 eμ4 => ?_)
  have h := mst_at eμ4 h
  refine r_aload_n hX dX8_turn_19 1 rfl ?_
  refine r_get hX 0 0 kyR0 rfl rfl inlX8 27 (by decide) tw3_67 (v := .ref (ad 27 0)) rfl dX8_turn_20 ?_
  refine r_iload_n hX dX8_turn_23 3 rfl ?_
  refine r_iload_n hX dX8_turn_24 0 rfl ?_
  obtain ⟨hb5, h⟩ := ite_some h
  refine r_iast hX 27 0 kyR27 (fun _ => rfl) (t0 := 0) rfl hb5 dX8_turn_25 (fun μ6 eμ6 => ?_)
  have h := mst_at eμ6 h
  exact r_vret hX hQ (Option.some.inj h) dX8_turn_26
abbrev rmX8_up : Room := { frames := 3, cells := 0, slots := 0, locals := 73 }
noncomputable def jX8_up_L13 (x1 : Int32) (x2 : Int32) : Nat → Mu → Int32 → Int32 → Option (Int32 × Mu)
  | 0, _, _, _ => none
  | n2 + 1, μ, x3, x4 => if x4 = 0 then if x3 = x2 then some (0, μ) else some (1, μ) else if inb x3 41 = true then if inb ((x3 - 1) / 2) 41 = true then (jX8_isAhead μ x1 (μ 27 0 x3.toNatClampNeg) (μ 27 0 ((x3 - 1) / 2).toNatClampNeg)).bind (fun q8 => if q8.1 = 0 then jX8_up_L13 x1 x2 n2 q8.2 x3 q8.1 else (jX8_turn q8.2 x3 ((x3 - 1) / 2)).bind (fun μ11 => if ((x3 - 1) / 2) ≤ 0 then jX8_up_L13 x1 x2 n2 μ11 ((x3 - 1) / 2) 0 else jX8_up_L13 x1 x2 n2 μ11 ((x3 - 1) / 2) 1)) else none else none
set_option maxHeartbeats 4000000 in
set_option maxRecDepth 100000 in
theorem mX8_up_L13 {l : Launch} {D : va_G} {cI cH cT : ClassId} {ad : Nat → Nat → Nat} {Z : va_W} {X : Cx} (hX : HX (gR l D cI cH cT ad Z) X cX8_up 6 RX8 rmX8_up (some .boolean)) {r : Int32} {μ' : Mu} (hQ : HQ (gR l D cI cH cT ad Z) X (some (.int r)) μ') (x1 : Int32) (x2 : Int32) : ∀ (n2 : Nat) (μ : Mu) (x3 : Int32) (x4 : Int32), jX8_up_L13 x1 x2 n2 μ x3 x4 = some (r, μ') → V (gR l D cI cH cT ad Z) X 6 μ 13 [(0, .ref (ad 0 0)), (1, .int x1), (2, .int x2), (3, .int x3), (4, .int x4)] [] := by
  intro n2
  induction n2 with
  | zero => intro μ x3 x4 h; exact none_no h
  | succ n2 ih =>
    intro μ x3 x4 h
    rw [jX8_up_L13] at h
    refine r_iload hX dX8_up_13 4 rfl ?_
    refine r_if_eq hX (tgt := 74) dX8_up_15 (by decide) (fun hc3 => ?_) (fun hc3 => ?_)
    · have h := ite_t hc3 h
      refine r_iload_n hX dX8_up_74 3 rfl ?_
      refine r_iload_n hX dX8_up_75 2 rfl ?_
      refine r_icmp_eq hX (tgt := 83) dX8_up_76 (by decide) (fun hc4 => ?_) (fun hc4 => ?_)
      · have h := ite_t hc4 h
        refine r_iconst hX dX8_up_83 (v := 0) (by decide) ?_
        exact r_zret hX (Or.inl rfl) hQ (pr1 h) (pr2 h) dX8_up_84
      · have h := ite_f hc4 h
        refine r_iconst hX dX8_up_79 (v := 1) (by decide) ?_
        refine r_goto hX (tgt := 84) dX8_up_80 (by decide) ?_
        exact r_zret hX (Or.inr rfl) hQ (pr1 h) (pr2 h) dX8_up_84
    · have h := ite_f hc3 h
      refine r_iload_n hX dX8_up_18 3 rfl ?_
      refine r_iconst hX dX8_up_19 (v := 1) (by decide) ?_
      refine r_isub hX dX8_up_20 ?_
      refine r_iconst hX dX8_up_21 (v := 2) (by decide) ?_
      refine r_idiv hX dX8_up_22 (by decide) ?_
      refine r_istore hX dX8_up_23 (lv' := [(5, .int ((x3 - 1) / 2)), (0, .ref (ad 0 0)), (1, .int x1), (2, .int x2), (3, .int x3), (4, .int x4)]) (by decide) rfl ?_
      refine r_aload_n hX dX8_up_25 1 rfl ?_
      refine r_iload_n hX dX8_up_26 2 rfl ?_
      refine r_aload_n hX dX8_up_27 1 rfl ?_
      refine r_get hX 0 0 kyR0 rfl rfl inlX8 27 (by decide) tw3_67 (v := .ref (ad 27 0)) rfl dX8_up_28 ?_
      refine r_iload_n hX dX8_up_31 4 rfl ?_
      obtain ⟨hb5, h⟩ := ite_some h
      refine r_iald hX 27 0 kyR27 rfl (t0 := 0) rfl hb5 dX8_up_32 ?_
      refine r_aload_n hX dX8_up_33 1 rfl ?_
      refine r_get hX 0 0 kyR0 rfl rfl inlX8 27 (by decide) tw3_67 (v := .ref (ad 27 0)) rfl dX8_up_34 ?_
      refine r_iload hX dX8_up_37 0 rfl ?_
      obtain ⟨hb6, h⟩ := ite_some h
      refine r_iald hX 27 0 kyR27 rfl (t0 := 0) rfl hb6 dX8_up_39 ?_
      obtain ⟨q8, hq7, h⟩ := bind_ex h
      refine r_callV hX 0 0 (As := [.int x1, .int (μ 27 0 x3.toNatClampNeg), .int (μ 27 0 ((x3 - 1) / 2).toNatClampNeg)]) (rest := []) (st' := [.int q8.1]) (res := (some (.int q8.1))) (μ' := q8.2) (mX8_isAhead x1 (μ 27 0 x3.toNatClampNeg) (μ 27 0 ((x3 - 1) / 2).toNatClampNeg) hq7) ckV_X8_144 ⟨rfl, rfl, by decide, by decide⟩ kyR0 rfl rfl rfl rfl (Nat.le_of_ble_eq_true rfl) dX8_up_40 rfl ?_
      refine r_istore hX dX8_up_43 (lv' := [(4, .int q8.1), (5, .int ((x3 - 1) / 2)), (0, .ref (ad 0 0)), (1, .int x1), (2, .int x2), (3, .int x3)]) (by decide) rfl ?_
      refine r_iload hX dX8_up_45 0 rfl ?_
      refine r_if_eq hX (tgt := 71) dX8_up_47 (by decide) (fun hc9 => ?_) (fun hc9 => ?_)
      · have h := ite_t hc9 h
        refine r_goto hX (tgt := 13) dX8_up_71 (by decide) ?_
        refine r_sub [2, 3, 4, 5, 0] rfl ?_
        exact ih q8.2 x3 q8.1 h
      · have h := ite_f hc9 h
        refine r_aload_n hX dX8_up_50 2 rfl ?_
        refine r_iload_n hX dX8_up_51 5 rfl ?_
        refine r_iload hX dX8_up_52 1 rfl ?_
        obtain ⟨μ11, hq10, h⟩ := bind_ex h
        refine r_callV hX 0 0 (As := [.int x3, .int ((x3 - 1) / 2)]) (rest := []) (st' := []) (res := none) (μ' := μ11) (mX8_turn x3 ((x3 - 1) / 2) hq10) ckV_X8_148 ⟨rfl, rfl, by decide, by decide⟩ kyR0 rfl rfl rfl rfl (Nat.le_of_ble_eq_true rfl) dX8_up_54 rfl ?_
        refine r_iload hX dX8_up_57 1 rfl ?_
        refine r_istore_n hX dX8_up_59 (lv' := [(3, .int ((x3 - 1) / 2)), (4, .int q8.1), (5, .int ((x3 - 1) / 2)), (0, .ref (ad 0 0)), (1, .int x1), (2, .int x2)]) (by decide) rfl ?_
        refine r_iload_n hX dX8_up_60 0 rfl ?_
        refine r_if_le hX (tgt := 68) dX8_up_61 (by decide) (fun hc12 => ?_) (fun hc12 => ?_)
        · have h := ite_t hc12 h
          refine r_iconst hX dX8_up_68 (v := 0) (by decide) ?_
          refine r_istore hX dX8_up_69 (lv' := [(4, .int 0), (3, .int ((x3 - 1) / 2)), (5, .int ((x3 - 1) / 2)), (0, .ref (ad 0 0)), (1, .int x1), (2, .int x2)]) (by decide) rfl ?_
          refine r_goto hX (tgt := 13) dX8_up_71 (by decide) ?_
          refine r_sub [3, 4, 5, 1, 0] rfl ?_
          exact ih μ11 ((x3 - 1) / 2) 0 h
        · have h := ite_f hc12 h
          refine r_iconst hX dX8_up_64 (v := 1) (by decide) ?_
          refine r_goto hX (tgt := 69) dX8_up_65 (by decide) ?_
          refine r_istore hX dX8_up_69 (lv' := [(4, .int 1), (3, .int ((x3 - 1) / 2)), (5, .int ((x3 - 1) / 2)), (0, .ref (ad 0 0)), (1, .int x1), (2, .int x2)]) (by decide) rfl ?_
          refine r_goto hX (tgt := 13) dX8_up_71 (by decide) ?_
          refine r_sub [3, 4, 5, 1, 0] rfl ?_
          exact ih μ11 ((x3 - 1) / 2) 1 h
noncomputable def jX8_up (μ : Mu) (a1 : Int32) (a2 : Int32) : Option (Int32 × Mu) := if a2 ≤ 0 then jX8_up_L13 a1 a2 fuel μ a2 0 else jX8_up_L13 a1 a2 fuel μ a2 1
set_option maxHeartbeats 4000000 in
set_option maxRecDepth 100000 in
theorem mX8_up {l : Launch} {D : va_G} {cI cH cT : ClassId} {ad : Nat → Nat → Nat} {Z : va_W} {μ : Mu} {r : Int32} {μ' : Mu} (a1 : Int32) (a2 : Int32) (h : jX8_up μ a1 a2 = some (r, μ')) : CT (gR l D cI cH cT ad Z) yX8_up (.code yX8_up cX8_up 6 (some .boolean) :: wsL_law) rmX8_up [.ref (ad 0 0), .int a1, .int a2] μ (some (.int r)) μ' := by
  refine ct_of (own := RX8) (by decide) ⟨rfl, rfl⟩ (Nat.le_of_ble_eq_true rfl) rfl (fun X hX hQ => ?_)
  have hX : HX (gR l D cI cH cT ad Z) X cX8_up 6 RX8 rmX8_up (some .boolean) := hX
  show V (gR l D cI cH cT ad Z) X 6 μ 0 [(0, .ref (ad 0 0)), (1, .int a1), (2, .int a2)] []
  unfold jX8_up at h
  refine r_iload_n hX dX8_up_0 2 rfl ?_
  refine r_istore_n hX dX8_up_1 (lv' := [(3, .int a2), (0, .ref (ad 0 0)), (1, .int a1), (2, .int a2)]) (by decide) rfl ?_
  refine r_iload_n hX dX8_up_2 0 rfl ?_
  refine r_if_le hX (tgt := 10) dX8_up_3 (by decide) (fun hc1 => ?_) (fun hc1 => ?_)
  · have h := ite_t hc1 h
    refine r_iconst hX dX8_up_10 (v := 0) (by decide) ?_
    refine r_istore hX dX8_up_11 (lv' := [(4, .int 0), (3, .int a2), (0, .ref (ad 0 0)), (1, .int a1), (2, .int a2)]) (by decide) rfl ?_
    refine r_sub [2, 3, 4, 1, 0] rfl ?_
    exact mX8_up_L13 hX hQ a1 a2 fuel μ a2 0 h
  · have h := ite_f hc1 h
    refine r_iconst hX dX8_up_6 (v := 1) (by decide) ?_
    refine r_goto hX (tgt := 11) dX8_up_7 (by decide) ?_
    refine r_istore hX dX8_up_11 (lv' := [(4, .int 1), (3, .int a2), (0, .ref (ad 0 0)), (1, .int a1), (2, .int a2)]) (by decide) rfl ?_
    refine r_sub [2, 3, 4, 1, 0] rfl ?_
    exact mX8_up_L13 hX hQ a1 a2 fuel μ a2 1 h
abbrev rmX8_down : Room := { frames := 3, cells := 0, slots := 0, locals := 73 }
noncomputable def jX8_down_L21 (x1 : Int32) (x2 : Int32) : Nat → Mu → Int32 → Int32 → Option (Mu)
  | 0, _, _, _ => none
  | n2 + 1, μ, x3, x4 => if x4 = 0 then some μ else if (μ 0 0 26) ≤ (((2 * x3) + 1) + 1) then if (μ 0 0 21) = 0 then if inb ((2 * x3) + 1) 41 = true then if inb x3 41 = true then (jX8_isAhead μ x1 (μ 27 0 ((2 * x3) + 1).toNatClampNeg) (μ 27 0 x3.toNatClampNeg)).bind (fun q9 => if q9.1 = 0 then jX8_down_L21 x1 x2 n2 q9.2 x3 0 else (jX8_turn q9.2 x3 ((2 * x3) + 1)).bind (fun μ12 => if (μ12 0 0 26) ≤ ((2 * ((2 * x3) + 1)) + 1) then jX8_down_L21 x1 x2 n2 μ12 ((2 * x3) + 1) 0 else jX8_down_L21 x1 x2 n2 μ12 ((2 * x3) + 1) 1)) else none else none else jX8_down_L21 x1 x2 n2 μ x3 0 else if inb (((2 * x3) + 1) + 1) 41 = true then if inb ((2 * x3) + 1) 41 = true then (jX8_isAhead μ x1 (μ 27 0 (((2 * x3) + 1) + 1).toNatClampNeg) (μ 27 0 ((2 * x3) + 1).toNatClampNeg)).bind (fun q17 => if q17.1 = 0 then if (q17.2 0 0 21) = 0 then if inb ((2 * x3) + 1) 41 = true then if inb x3 41 = true then (jX8_isAhead q17.2 x1 (q17.2 27 0 ((2 * x3) + 1).toNatClampNeg) (q17.2 27 0 x3.toNatClampNeg)).bind (fun q23 => if q23.1 = 0 then jX8_down_L21 x1 x2 n2 q23.2 x3 0 else (jX8_turn q23.2 x3 ((2 * x3) + 1)).bind (fun μ26 => if (μ26 0 0 26) ≤ ((2 * ((2 * x3) + 1)) + 1) then jX8_down_L21 x1 x2 n2 μ26 ((2 * x3) + 1) 0 else jX8_down_L21 x1 x2 n2 μ26 ((2 * x3) + 1) 1)) else none else none else jX8_down_L21 x1 x2 n2 q17.2 x3 0 else if (q17.2 0 0 21) = 0 then if inb (((2 * x3) + 1) + 1) 41 = true then if inb x3 41 = true then (jX8_isAhead q17.2 x1 (q17.2 27 0 (((2 * x3) + 1) + 1).toNatClampNeg) (q17.2 27 0 x3.toNatClampNeg)).bind (fun q32 => if q32.1 = 0 then jX8_down_L21 x1 x2 n2 q32.2 x3 0 else (jX8_turn q32.2 x3 (((2 * x3) + 1) + 1)).bind (fun μ35 => if (μ35 0 0 26) ≤ ((2 * (((2 * x3) + 1) + 1)) + 1) then jX8_down_L21 x1 x2 n2 μ35 (((2 * x3) + 1) + 1) 0 else jX8_down_L21 x1 x2 n2 μ35 (((2 * x3) + 1) + 1) 1)) else none else none else jX8_down_L21 x1 x2 n2 q17.2 x3 0) else none else none
set_option maxHeartbeats 4000000 in
set_option maxRecDepth 100000 in
theorem mX8_down_L21 {l : Launch} {D : va_G} {cI cH cT : ClassId} {ad : Nat → Nat → Nat} {Z : va_W} {X : Cx} (hX : HX (gR l D cI cH cT ad Z) X cX8_down 6 RX8 rmX8_down none) {μ' : Mu} (hQ : HQ (gR l D cI cH cT ad Z) X none μ') (x1 : Int32) (x2 : Int32) : ∀ (n2 : Nat) (μ : Mu) (x3 : Int32) (x4 : Int32), jX8_down_L21 x1 x2 n2 μ x3 x4 = some μ' → V (gR l D cI cH cT ad Z) X 6 μ 21 [(0, .ref (ad 0 0)), (1, .int x1), (2, .int x2), (3, .int x3), (4, .int x4)] [] := by
  intro n2
  induction n2 with
  | zero => intro μ x3 x4 h; exact none_no h
  | succ n2 ih =>
    intro μ x3 x4 h
    rw [jX8_down_L21] at h
    refine r_iload hX dX8_down_21 4 rfl ?_
    refine r_if_eq hX (tgt := 143) dX8_down_23 (by decide) (fun hc3 => ?_) (fun hc3 => ?_)
    · have h := ite_t hc3 h
      exact r_vret hX hQ (Option.some.inj h) dX8_down_143
    · have h := ite_f hc3 h
      refine r_iconst hX dX8_down_26 (v := 2) (by decide) ?_
      refine r_iload_n hX dX8_down_27 3 rfl ?_
      refine r_imul hX dX8_down_28 ?_
      refine r_iconst hX dX8_down_29 (v := 1) (by decide) ?_
      refine r_iadd hX dX8_down_30 ?_
      refine r_istore hX dX8_down_31 (lv' := [(5, .int ((2 * x3) + 1)), (0, .ref (ad 0 0)), (1, .int x1), (2, .int x2), (3, .int x3), (4, .int x4)]) (by decide) rfl ?_
      refine r_iload hX dX8_down_33 0 rfl ?_
      refine r_iconst hX dX8_down_35 (v := 1) (by decide) ?_
      refine r_iadd hX dX8_down_36 ?_
      refine r_aload_n hX dX8_down_37 1 rfl ?_
      refine r_get hX 0 0 kyR0 rfl rfl inlX8 26 (by decide) tw3_66 (v := .int (μ 0 0 26)) rfl dX8_down_38 ?_
      refine r_icmp_ge hX (tgt := 71) dX8_down_41 (by decide) (fun hc4 => ?_) (fun hc4 => ?_)
      · have h := ite_t hc4 h
        refine r_aload_n hX dX8_down_71 1 rfl ?_
        refine r_get hX 0 0 kyR0 rfl rfl inlX8 21 (by decide) tw3_61 (v := .int (μ 0 0 21)) rfl dX8_down_72 ?_
        refine r_if_ne hX (tgt := 103) dX8_down_75 (by decide) (fun hc5 => ?_) (fun hc5 => ?_)
        · have h := ite_f hc5 h
          refine r_iconst hX dX8_down_103 (v := 0) (by decide) ?_
          refine r_istore hX dX8_down_104 (lv' := [(4, .int 0), (5, .int ((2 * x3) + 1)), (0, .ref (ad 0 0)), (1, .int x1), (2, .int x2), (3, .int x3)]) (by decide) rfl ?_
          refine r_iload hX dX8_down_106 0 rfl ?_
          refine r_if_eq hX (tgt := 140) dX8_down_108 (by decide) (fun _ => ?_) (fun hc => absurd (by decide) hc)
          refine r_goto hX (tgt := 21) dX8_down_140 (by decide) ?_
          refine r_sub [2, 3, 4, 5, 0] rfl ?_
          exact ih μ x3 0 h
        · have h := ite_t hc5 h
          refine r_aload_n hX dX8_down_78 1 rfl ?_
          refine r_iload_n hX dX8_down_79 2 rfl ?_
          refine r_aload_n hX dX8_down_80 1 rfl ?_
          refine r_get hX 0 0 kyR0 rfl rfl inlX8 27 (by decide) tw3_67 (v := .ref (ad 27 0)) rfl dX8_down_81 ?_
          refine r_iload hX dX8_down_84 0 rfl ?_
          obtain ⟨hb6, h⟩ := ite_some h
          refine r_iald hX 27 0 kyR27 rfl (t0 := 0) rfl hb6 dX8_down_86 ?_
          refine r_aload_n hX dX8_down_87 1 rfl ?_
          refine r_get hX 0 0 kyR0 rfl rfl inlX8 27 (by decide) tw3_67 (v := .ref (ad 27 0)) rfl dX8_down_88 ?_
          refine r_iload_n hX dX8_down_91 4 rfl ?_
          obtain ⟨hb7, h⟩ := ite_some h
          refine r_iald hX 27 0 kyR27 rfl (t0 := 0) rfl hb7 dX8_down_92 ?_
          obtain ⟨q9, hq8, h⟩ := bind_ex h
          refine r_callV hX 0 0 (As := [.int x1, .int (μ 27 0 ((2 * x3) + 1).toNatClampNeg), .int (μ 27 0 x3.toNatClampNeg)]) (rest := []) (st' := [.int q9.1]) (res := (some (.int q9.1))) (μ' := q9.2) (mX8_isAhead x1 (μ 27 0 ((2 * x3) + 1).toNatClampNeg) (μ 27 0 x3.toNatClampNeg) hq8) ckV_X8_144 ⟨rfl, rfl, by decide, by decide⟩ kyR0 rfl rfl rfl rfl (Nat.le_of_ble_eq_true rfl) dX8_down_93 rfl ?_
          refine r_if_eq hX (tgt := 103) dX8_down_96 (by decide) (fun hc10 => ?_) (fun hc10 => ?_)
          · have h := ite_t hc10 h
            refine r_iconst hX dX8_down_103 (v := 0) (by decide) ?_
            refine r_istore hX dX8_down_104 (lv' := [(4, .int 0), (5, .int ((2 * x3) + 1)), (0, .ref (ad 0 0)), (1, .int x1), (2, .int x2), (3, .int x3)]) (by decide) rfl ?_
            refine r_iload hX dX8_down_106 0 rfl ?_
            refine r_if_eq hX (tgt := 140) dX8_down_108 (by decide) (fun _ => ?_) (fun hc => absurd (by decide) hc)
            refine r_goto hX (tgt := 21) dX8_down_140 (by decide) ?_
            refine r_sub [2, 3, 4, 5, 0] rfl ?_
            exact ih q9.2 x3 0 h
          · have h := ite_f hc10 h
            refine r_iconst hX dX8_down_99 (v := 1) (by decide) ?_
            refine r_goto hX (tgt := 104) dX8_down_100 (by decide) ?_
            refine r_istore hX dX8_down_104 (lv' := [(4, .int 1), (5, .int ((2 * x3) + 1)), (0, .ref (ad 0 0)), (1, .int x1), (2, .int x2), (3, .int x3)]) (by decide) rfl ?_
            refine r_iload hX dX8_down_106 0 rfl ?_
            refine r_if_eq hX (tgt := 140) dX8_down_108 (by decide) (fun hc => absurd hc (by decide)) (fun _ => ?_)
            refine r_aload_n hX dX8_down_111 2 rfl ?_
            refine r_iload_n hX dX8_down_112 5 rfl ?_
            refine r_iload hX dX8_down_113 1 rfl ?_
            obtain ⟨μ12, hq11, h⟩ := bind_ex h
            refine r_callV hX 0 0 (As := [.int x3, .int ((2 * x3) + 1)]) (rest := []) (st' := []) (res := none) (μ' := μ12) (mX8_turn x3 ((2 * x3) + 1) hq11) ckV_X8_148 ⟨rfl, rfl, by decide, by decide⟩ kyR0 rfl rfl rfl rfl (Nat.le_of_ble_eq_true rfl) dX8_down_115 rfl ?_
            refine r_iload hX dX8_down_118 1 rfl ?_
            refine r_istore_n hX dX8_down_120 (lv' := [(3, .int ((2 * x3) + 1)), (4, .int 1), (5, .int ((2 * x3) + 1)), (0, .ref (ad 0 0)), (1, .int x1), (2, .int x2)]) (by decide) rfl ?_
            refine r_iconst hX dX8_down_121 (v := 2) (by decide) ?_
            refine r_iload_n hX dX8_down_122 0 rfl ?_
            refine r_imul hX dX8_down_123 ?_
            refine r_iconst hX dX8_down_124 (v := 1) (by decide) ?_
            refine r_iadd hX dX8_down_125 ?_
            refine r_aload_n hX dX8_down_126 3 rfl ?_
            refine r_get hX 0 0 kyR0 rfl rfl inlX8 26 (by decide) tw3_66 (v := .int (μ12 0 0 26)) rfl dX8_down_127 ?_
            refine r_icmp_ge hX (tgt := 137) dX8_down_130 (by decide) (fun hc13 => ?_) (fun hc13 => ?_)
            · have h := ite_t hc13 h
              refine r_iconst hX dX8_down_137 (v := 0) (by decide) ?_
              refine r_istore hX dX8_down_138 (lv' := [(4, .int 0), (3, .int ((2 * x3) + 1)), (5, .int ((2 * x3) + 1)), (0, .ref (ad 0 0)), (1, .int x1), (2, .int x2)]) (by decide) rfl ?_
              refine r_goto hX (tgt := 21) dX8_down_140 (by decide) ?_
              refine r_sub [3, 4, 5, 1, 0] rfl ?_
              exact ih μ12 ((2 * x3) + 1) 0 h
            · have h := ite_f hc13 h
              refine r_iconst hX dX8_down_133 (v := 1) (by decide) ?_
              refine r_goto hX (tgt := 138) dX8_down_134 (by decide) ?_
              refine r_istore hX dX8_down_138 (lv' := [(4, .int 1), (3, .int ((2 * x3) + 1)), (5, .int ((2 * x3) + 1)), (0, .ref (ad 0 0)), (1, .int x1), (2, .int x2)]) (by decide) rfl ?_
              refine r_goto hX (tgt := 21) dX8_down_140 (by decide) ?_
              refine r_sub [3, 4, 5, 1, 0] rfl ?_
              exact ih μ12 ((2 * x3) + 1) 1 h
      · have h := ite_f hc4 h
        refine r_aload_n hX dX8_down_44 1 rfl ?_
        refine r_iload_n hX dX8_down_45 2 rfl ?_
        refine r_aload_n hX dX8_down_46 1 rfl ?_
        refine r_get hX 0 0 kyR0 rfl rfl inlX8 27 (by decide) tw3_67 (v := .ref (ad 27 0)) rfl dX8_down_47 ?_
        refine r_iload hX dX8_down_50 0 rfl ?_
        refine r_iconst hX dX8_down_52 (v := 1) (by decide) ?_
        refine r_iadd hX dX8_down_53 ?_
        obtain ⟨hb14, h⟩ := ite_some h
        refine r_iald hX 27 0 kyR27 rfl (t0 := 0) rfl hb14 dX8_down_54 ?_
        refine r_aload_n hX dX8_down_55 1 rfl ?_
        refine r_get hX 0 0 kyR0 rfl rfl inlX8 27 (by decide) tw3_67 (v := .ref (ad 27 0)) rfl dX8_down_56 ?_
        refine r_iload hX dX8_down_59 0 rfl ?_
        obtain ⟨hb15, h⟩ := ite_some h
        refine r_iald hX 27 0 kyR27 rfl (t0 := 0) rfl hb15 dX8_down_61 ?_
        obtain ⟨q17, hq16, h⟩ := bind_ex h
        refine r_callV hX 0 0 (As := [.int x1, .int (μ 27 0 (((2 * x3) + 1) + 1).toNatClampNeg), .int (μ 27 0 ((2 * x3) + 1).toNatClampNeg)]) (rest := []) (st' := [.int q17.1]) (res := (some (.int q17.1))) (μ' := q17.2) (mX8_isAhead x1 (μ 27 0 (((2 * x3) + 1) + 1).toNatClampNeg) (μ 27 0 ((2 * x3) + 1).toNatClampNeg) hq16) ckV_X8_144 ⟨rfl, rfl, by decide, by decide⟩ kyR0 rfl rfl rfl rfl (Nat.le_of_ble_eq_true rfl) dX8_down_62 rfl ?_
        refine r_if_eq hX (tgt := 71) dX8_down_65 (by decide) (fun hc18 => ?_) (fun hc18 => ?_)
        · have h := ite_t hc18 h
          refine r_aload_n hX dX8_down_71 1 rfl ?_
          refine r_get hX 0 0 kyR0 rfl rfl inlX8 21 (by decide) tw3_61 (v := .int (q17.2 0 0 21)) rfl dX8_down_72 ?_
          refine r_if_ne hX (tgt := 103) dX8_down_75 (by decide) (fun hc19 => ?_) (fun hc19 => ?_)
          · have h := ite_f hc19 h
            refine r_iconst hX dX8_down_103 (v := 0) (by decide) ?_
            refine r_istore hX dX8_down_104 (lv' := [(4, .int 0), (5, .int ((2 * x3) + 1)), (0, .ref (ad 0 0)), (1, .int x1), (2, .int x2), (3, .int x3)]) (by decide) rfl ?_
            refine r_iload hX dX8_down_106 0 rfl ?_
            refine r_if_eq hX (tgt := 140) dX8_down_108 (by decide) (fun _ => ?_) (fun hc => absurd (by decide) hc)
            refine r_goto hX (tgt := 21) dX8_down_140 (by decide) ?_
            refine r_sub [2, 3, 4, 5, 0] rfl ?_
            exact ih q17.2 x3 0 h
          · have h := ite_t hc19 h
            refine r_aload_n hX dX8_down_78 1 rfl ?_
            refine r_iload_n hX dX8_down_79 2 rfl ?_
            refine r_aload_n hX dX8_down_80 1 rfl ?_
            refine r_get hX 0 0 kyR0 rfl rfl inlX8 27 (by decide) tw3_67 (v := .ref (ad 27 0)) rfl dX8_down_81 ?_
            refine r_iload hX dX8_down_84 0 rfl ?_
            obtain ⟨hb20, h⟩ := ite_some h
            refine r_iald hX 27 0 kyR27 rfl (t0 := 0) rfl hb20 dX8_down_86 ?_
            refine r_aload_n hX dX8_down_87 1 rfl ?_
            refine r_get hX 0 0 kyR0 rfl rfl inlX8 27 (by decide) tw3_67 (v := .ref (ad 27 0)) rfl dX8_down_88 ?_
            refine r_iload_n hX dX8_down_91 4 rfl ?_
            obtain ⟨hb21, h⟩ := ite_some h
            refine r_iald hX 27 0 kyR27 rfl (t0 := 0) rfl hb21 dX8_down_92 ?_
            obtain ⟨q23, hq22, h⟩ := bind_ex h
            refine r_callV hX 0 0 (As := [.int x1, .int (q17.2 27 0 ((2 * x3) + 1).toNatClampNeg), .int (q17.2 27 0 x3.toNatClampNeg)]) (rest := []) (st' := [.int q23.1]) (res := (some (.int q23.1))) (μ' := q23.2) (mX8_isAhead x1 (q17.2 27 0 ((2 * x3) + 1).toNatClampNeg) (q17.2 27 0 x3.toNatClampNeg) hq22) ckV_X8_144 ⟨rfl, rfl, by decide, by decide⟩ kyR0 rfl rfl rfl rfl (Nat.le_of_ble_eq_true rfl) dX8_down_93 rfl ?_
            refine r_if_eq hX (tgt := 103) dX8_down_96 (by decide) (fun hc24 => ?_) (fun hc24 => ?_)
            · have h := ite_t hc24 h
              refine r_iconst hX dX8_down_103 (v := 0) (by decide) ?_
              refine r_istore hX dX8_down_104 (lv' := [(4, .int 0), (5, .int ((2 * x3) + 1)), (0, .ref (ad 0 0)), (1, .int x1), (2, .int x2), (3, .int x3)]) (by decide) rfl ?_
              refine r_iload hX dX8_down_106 0 rfl ?_
              refine r_if_eq hX (tgt := 140) dX8_down_108 (by decide) (fun _ => ?_) (fun hc => absurd (by decide) hc)
              refine r_goto hX (tgt := 21) dX8_down_140 (by decide) ?_
              refine r_sub [2, 3, 4, 5, 0] rfl ?_
              exact ih q23.2 x3 0 h
            · have h := ite_f hc24 h
              refine r_iconst hX dX8_down_99 (v := 1) (by decide) ?_
              refine r_goto hX (tgt := 104) dX8_down_100 (by decide) ?_
              refine r_istore hX dX8_down_104 (lv' := [(4, .int 1), (5, .int ((2 * x3) + 1)), (0, .ref (ad 0 0)), (1, .int x1), (2, .int x2), (3, .int x3)]) (by decide) rfl ?_
              refine r_iload hX dX8_down_106 0 rfl ?_
              refine r_if_eq hX (tgt := 140) dX8_down_108 (by decide) (fun hc => absurd hc (by decide)) (fun _ => ?_)
              refine r_aload_n hX dX8_down_111 2 rfl ?_
              refine r_iload_n hX dX8_down_112 5 rfl ?_
              refine r_iload hX dX8_down_113 1 rfl ?_
              obtain ⟨μ26, hq25, h⟩ := bind_ex h
              refine r_callV hX 0 0 (As := [.int x3, .int ((2 * x3) + 1)]) (rest := []) (st' := []) (res := none) (μ' := μ26) (mX8_turn x3 ((2 * x3) + 1) hq25) ckV_X8_148 ⟨rfl, rfl, by decide, by decide⟩ kyR0 rfl rfl rfl rfl (Nat.le_of_ble_eq_true rfl) dX8_down_115 rfl ?_
              refine r_iload hX dX8_down_118 1 rfl ?_
              refine r_istore_n hX dX8_down_120 (lv' := [(3, .int ((2 * x3) + 1)), (4, .int 1), (5, .int ((2 * x3) + 1)), (0, .ref (ad 0 0)), (1, .int x1), (2, .int x2)]) (by decide) rfl ?_
              refine r_iconst hX dX8_down_121 (v := 2) (by decide) ?_
              refine r_iload_n hX dX8_down_122 0 rfl ?_
              refine r_imul hX dX8_down_123 ?_
              refine r_iconst hX dX8_down_124 (v := 1) (by decide) ?_
              refine r_iadd hX dX8_down_125 ?_
              refine r_aload_n hX dX8_down_126 3 rfl ?_
              refine r_get hX 0 0 kyR0 rfl rfl inlX8 26 (by decide) tw3_66 (v := .int (μ26 0 0 26)) rfl dX8_down_127 ?_
              refine r_icmp_ge hX (tgt := 137) dX8_down_130 (by decide) (fun hc27 => ?_) (fun hc27 => ?_)
              · have h := ite_t hc27 h
                refine r_iconst hX dX8_down_137 (v := 0) (by decide) ?_
                refine r_istore hX dX8_down_138 (lv' := [(4, .int 0), (3, .int ((2 * x3) + 1)), (5, .int ((2 * x3) + 1)), (0, .ref (ad 0 0)), (1, .int x1), (2, .int x2)]) (by decide) rfl ?_
                refine r_goto hX (tgt := 21) dX8_down_140 (by decide) ?_
                refine r_sub [3, 4, 5, 1, 0] rfl ?_
                exact ih μ26 ((2 * x3) + 1) 0 h
              · have h := ite_f hc27 h
                refine r_iconst hX dX8_down_133 (v := 1) (by decide) ?_
                refine r_goto hX (tgt := 138) dX8_down_134 (by decide) ?_
                refine r_istore hX dX8_down_138 (lv' := [(4, .int 1), (3, .int ((2 * x3) + 1)), (5, .int ((2 * x3) + 1)), (0, .ref (ad 0 0)), (1, .int x1), (2, .int x2)]) (by decide) rfl ?_
                refine r_goto hX (tgt := 21) dX8_down_140 (by decide) ?_
                refine r_sub [3, 4, 5, 1, 0] rfl ?_
                exact ih μ26 ((2 * x3) + 1) 1 h
        · have h := ite_f hc18 h
          refine r_iinc hX dX8_down_68 (j := 0) (v := ((2 * x3) + 1) + 1) (lv' := [(5, .int (((2 * x3) + 1) + 1)), (0, .ref (ad 0 0)), (1, .int x1), (2, .int x2), (3, .int x3), (4, .int x4)]) rfl (congrArg ((2 * x3) + 1 + ·) (by decide)) (by decide) rfl ?_
          refine r_aload_n hX dX8_down_71 1 rfl ?_
          refine r_get hX 0 0 kyR0 rfl rfl inlX8 21 (by decide) tw3_61 (v := .int (q17.2 0 0 21)) rfl dX8_down_72 ?_
          refine r_if_ne hX (tgt := 103) dX8_down_75 (by decide) (fun hc28 => ?_) (fun hc28 => ?_)
          · have h := ite_f hc28 h
            refine r_iconst hX dX8_down_103 (v := 0) (by decide) ?_
            refine r_istore hX dX8_down_104 (lv' := [(4, .int 0), (5, .int (((2 * x3) + 1) + 1)), (0, .ref (ad 0 0)), (1, .int x1), (2, .int x2), (3, .int x3)]) (by decide) rfl ?_
            refine r_iload hX dX8_down_106 0 rfl ?_
            refine r_if_eq hX (tgt := 140) dX8_down_108 (by decide) (fun _ => ?_) (fun hc => absurd (by decide) hc)
            refine r_goto hX (tgt := 21) dX8_down_140 (by decide) ?_
            refine r_sub [2, 3, 4, 5, 0] rfl ?_
            exact ih q17.2 x3 0 h
          · have h := ite_t hc28 h
            refine r_aload_n hX dX8_down_78 1 rfl ?_
            refine r_iload_n hX dX8_down_79 2 rfl ?_
            refine r_aload_n hX dX8_down_80 1 rfl ?_
            refine r_get hX 0 0 kyR0 rfl rfl inlX8 27 (by decide) tw3_67 (v := .ref (ad 27 0)) rfl dX8_down_81 ?_
            refine r_iload hX dX8_down_84 0 rfl ?_
            obtain ⟨hb29, h⟩ := ite_some h
            refine r_iald hX 27 0 kyR27 rfl (t0 := 0) rfl hb29 dX8_down_86 ?_
            refine r_aload_n hX dX8_down_87 1 rfl ?_
            refine r_get hX 0 0 kyR0 rfl rfl inlX8 27 (by decide) tw3_67 (v := .ref (ad 27 0)) rfl dX8_down_88 ?_
            refine r_iload_n hX dX8_down_91 4 rfl ?_
            obtain ⟨hb30, h⟩ := ite_some h
            refine r_iald hX 27 0 kyR27 rfl (t0 := 0) rfl hb30 dX8_down_92 ?_
            obtain ⟨q32, hq31, h⟩ := bind_ex h
            refine r_callV hX 0 0 (As := [.int x1, .int (q17.2 27 0 (((2 * x3) + 1) + 1).toNatClampNeg), .int (q17.2 27 0 x3.toNatClampNeg)]) (rest := []) (st' := [.int q32.1]) (res := (some (.int q32.1))) (μ' := q32.2) (mX8_isAhead x1 (q17.2 27 0 (((2 * x3) + 1) + 1).toNatClampNeg) (q17.2 27 0 x3.toNatClampNeg) hq31) ckV_X8_144 ⟨rfl, rfl, by decide, by decide⟩ kyR0 rfl rfl rfl rfl (Nat.le_of_ble_eq_true rfl) dX8_down_93 rfl ?_
            refine r_if_eq hX (tgt := 103) dX8_down_96 (by decide) (fun hc33 => ?_) (fun hc33 => ?_)
            · have h := ite_t hc33 h
              refine r_iconst hX dX8_down_103 (v := 0) (by decide) ?_
              refine r_istore hX dX8_down_104 (lv' := [(4, .int 0), (5, .int (((2 * x3) + 1) + 1)), (0, .ref (ad 0 0)), (1, .int x1), (2, .int x2), (3, .int x3)]) (by decide) rfl ?_
              refine r_iload hX dX8_down_106 0 rfl ?_
              refine r_if_eq hX (tgt := 140) dX8_down_108 (by decide) (fun _ => ?_) (fun hc => absurd (by decide) hc)
              refine r_goto hX (tgt := 21) dX8_down_140 (by decide) ?_
              refine r_sub [2, 3, 4, 5, 0] rfl ?_
              exact ih q32.2 x3 0 h
            · have h := ite_f hc33 h
              refine r_iconst hX dX8_down_99 (v := 1) (by decide) ?_
              refine r_goto hX (tgt := 104) dX8_down_100 (by decide) ?_
              refine r_istore hX dX8_down_104 (lv' := [(4, .int 1), (5, .int (((2 * x3) + 1) + 1)), (0, .ref (ad 0 0)), (1, .int x1), (2, .int x2), (3, .int x3)]) (by decide) rfl ?_
              refine r_iload hX dX8_down_106 0 rfl ?_
              refine r_if_eq hX (tgt := 140) dX8_down_108 (by decide) (fun hc => absurd hc (by decide)) (fun _ => ?_)
              refine r_aload_n hX dX8_down_111 2 rfl ?_
              refine r_iload_n hX dX8_down_112 5 rfl ?_
              refine r_iload hX dX8_down_113 1 rfl ?_
              obtain ⟨μ35, hq34, h⟩ := bind_ex h
              refine r_callV hX 0 0 (As := [.int x3, .int (((2 * x3) + 1) + 1)]) (rest := []) (st' := []) (res := none) (μ' := μ35) (mX8_turn x3 (((2 * x3) + 1) + 1) hq34) ckV_X8_148 ⟨rfl, rfl, by decide, by decide⟩ kyR0 rfl rfl rfl rfl (Nat.le_of_ble_eq_true rfl) dX8_down_115 rfl ?_
              refine r_iload hX dX8_down_118 1 rfl ?_
              refine r_istore_n hX dX8_down_120 (lv' := [(3, .int (((2 * x3) + 1) + 1)), (4, .int 1), (5, .int (((2 * x3) + 1) + 1)), (0, .ref (ad 0 0)), (1, .int x1), (2, .int x2)]) (by decide) rfl ?_
              refine r_iconst hX dX8_down_121 (v := 2) (by decide) ?_
              refine r_iload_n hX dX8_down_122 0 rfl ?_
              refine r_imul hX dX8_down_123 ?_
              refine r_iconst hX dX8_down_124 (v := 1) (by decide) ?_
              refine r_iadd hX dX8_down_125 ?_
              refine r_aload_n hX dX8_down_126 3 rfl ?_
              refine r_get hX 0 0 kyR0 rfl rfl inlX8 26 (by decide) tw3_66 (v := .int (μ35 0 0 26)) rfl dX8_down_127 ?_
              refine r_icmp_ge hX (tgt := 137) dX8_down_130 (by decide) (fun hc36 => ?_) (fun hc36 => ?_)
              · have h := ite_t hc36 h
                refine r_iconst hX dX8_down_137 (v := 0) (by decide) ?_
                refine r_istore hX dX8_down_138 (lv' := [(4, .int 0), (3, .int (((2 * x3) + 1) + 1)), (5, .int (((2 * x3) + 1) + 1)), (0, .ref (ad 0 0)), (1, .int x1), (2, .int x2)]) (by decide) rfl ?_
                refine r_goto hX (tgt := 21) dX8_down_140 (by decide) ?_
                refine r_sub [3, 4, 5, 1, 0] rfl ?_
                exact ih μ35 (((2 * x3) + 1) + 1) 0 h
              · have h := ite_f hc36 h
                refine r_iconst hX dX8_down_133 (v := 1) (by decide) ?_
                refine r_goto hX (tgt := 138) dX8_down_134 (by decide) ?_
                refine r_istore hX dX8_down_138 (lv' := [(4, .int 1), (3, .int (((2 * x3) + 1) + 1)), (5, .int (((2 * x3) + 1) + 1)), (0, .ref (ad 0 0)), (1, .int x1), (2, .int x2)]) (by decide) rfl ?_
                refine r_goto hX (tgt := 21) dX8_down_140 (by decide) ?_
                refine r_sub [3, 4, 5, 1, 0] rfl ?_
                exact ih μ35 (((2 * x3) + 1) + 1) 1 h
noncomputable def jX8_down (μ : Mu) (a1 : Int32) (a2 : Int32) : Option (Mu) := if (μ 0 0 26) ≤ ((2 * a2) + 1) then jX8_down_L21 a1 a2 fuel μ a2 0 else jX8_down_L21 a1 a2 fuel μ a2 1
set_option maxHeartbeats 4000000 in
set_option maxRecDepth 100000 in
theorem mX8_down {l : Launch} {D : va_G} {cI cH cT : ClassId} {ad : Nat → Nat → Nat} {Z : va_W} {μ : Mu} {μ' : Mu} (a1 : Int32) (a2 : Int32) (h : jX8_down μ a1 a2 = some μ') : CT (gR l D cI cH cT ad Z) yX8_down (.code yX8_down cX8_down 6 none :: wsL_law) rmX8_down [.ref (ad 0 0), .int a1, .int a2] μ none μ' := by
  refine ct_of (own := RX8) (by decide) ⟨rfl, rfl⟩ (Nat.le_of_ble_eq_true rfl) rfl (fun X hX hQ => ?_)
  have hX : HX (gR l D cI cH cT ad Z) X cX8_down 6 RX8 rmX8_down none := hX
  show V (gR l D cI cH cT ad Z) X 6 μ 0 [(0, .ref (ad 0 0)), (1, .int a1), (2, .int a2)] []
  unfold jX8_down at h
  refine r_iload_n hX dX8_down_0 2 rfl ?_
  refine r_istore_n hX dX8_down_1 (lv' := [(3, .int a2), (0, .ref (ad 0 0)), (1, .int a1), (2, .int a2)]) (by decide) rfl ?_
  refine r_iconst hX dX8_down_2 (v := 2) (by decide) ?_
  refine r_iload_n hX dX8_down_3 0 rfl ?_
  refine r_imul hX dX8_down_4 ?_
  refine r_iconst hX dX8_down_5 (v := 1) (by decide) ?_
  refine r_iadd hX dX8_down_6 ?_
  refine r_aload_n hX dX8_down_7 1 rfl ?_
  refine r_get hX 0 0 kyR0 rfl rfl inlX8 26 (by decide) tw3_66 (v := .int (μ 0 0 26)) rfl dX8_down_8 ?_
  refine r_icmp_ge hX (tgt := 18) dX8_down_11 (by decide) (fun hc1 => ?_) (fun hc1 => ?_)
  · have h := ite_t hc1 h
    refine r_iconst hX dX8_down_18 (v := 0) (by decide) ?_
    refine r_istore hX dX8_down_19 (lv' := [(4, .int 0), (3, .int a2), (0, .ref (ad 0 0)), (1, .int a1), (2, .int a2)]) (by decide) rfl ?_
    refine r_sub [2, 3, 4, 1, 0] rfl ?_
    exact mX8_down_L21 hX hQ a1 a2 fuel μ a2 0 h
  · have h := ite_f hc1 h
    refine r_iconst hX dX8_down_14 (v := 1) (by decide) ?_
    refine r_goto hX (tgt := 19) dX8_down_15 (by decide) ?_
    refine r_istore hX dX8_down_19 (lv' := [(4, .int 1), (3, .int a2), (0, .ref (ad 0 0)), (1, .int a1), (2, .int a2)]) (by decide) rfl ?_
    refine r_sub [2, 3, 4, 1, 0] rfl ?_
    exact mX8_down_L21 hX hQ a1 a2 fuel μ a2 1 h
abbrev rmX8_comes : Room := { frames := 4, cells := 0, slots := 0, locals := 98 }
noncomputable def jX8_comes (μ : Mu) (a1 : Int32) (a2 : Int32) (a3 : Int32) : Option (Mu) := if a1 = 1 then (jX8_halving μ a2 a3).bind (fun q9 => (jX8_insert q9.2 q9.1 a3).bind (fun μ11 => some μ11)) else if inb (μ 0 0 26) 41 = true then mst (mu_st μ 27 0 (μ 0 0 26).toNatClampNeg a3) (fun μ3 => mst (mu_st μ3 0 0 26 ((μ3 0 0 26) + 1)) (fun μ4 => if a1 = 2 then (jX8_up μ4 a2 ((μ4 0 0 26) - 1)).bind (fun q7 => some q7.2) else some μ4)) else none
set_option maxHeartbeats 4000000 in
set_option maxRecDepth 100000 in
theorem mX8_comes {l : Launch} {D : va_G} {cI cH cT : ClassId} {ad : Nat → Nat → Nat} {Z : va_W} {μ : Mu} {μ' : Mu} (a1 : Int32) (a2 : Int32) (a3 : Int32) (h : jX8_comes μ a1 a2 a3 = some μ') : CT (gR l D cI cH cT ad Z) yX8_comes (.code yX8_comes cX8_comes 5 none :: wsL_law) rmX8_comes [.ref (ad 0 0), .int a1, .int a2, .int a3] μ none μ' := by
  refine ct_of (own := RX8) (by decide) ⟨rfl, rfl⟩ (Nat.le_of_ble_eq_true rfl) rfl (fun X hX hQ => ?_)
  have hX : HX (gR l D cI cH cT ad Z) X cX8_comes 5 RX8 rmX8_comes none := hX
  show V (gR l D cI cH cT ad Z) X 5 μ 0 [(0, .ref (ad 0 0)), (1, .int a1), (2, .int a2), (3, .int a3)] []
  unfold jX8_comes at h
  refine r_iload_n hX dX8_comes_0 1 rfl ?_
  refine r_iconst hX dX8_comes_1 (v := 1) (by decide) ?_
  refine r_icmp_ne hX (tgt := 23) dX8_comes_2 (by decide) (fun hc1 => ?_) (fun hc1 => ?_)
  · have h := ite_f hc1 h
    refine r_aload_n hX dX8_comes_23 0 rfl ?_
    refine r_get hX 0 0 kyR0 rfl rfl inlX8 27 (by decide) tw3_67 (v := .ref (ad 27 0)) rfl dX8_comes_24 ?_
    refine r_aload_n hX dX8_comes_27 0 rfl ?_
    refine r_get hX 0 0 kyR0 rfl rfl inlX8 26 (by decide) tw3_66 (v := .int (μ 0 0 26)) rfl dX8_comes_28 ?_
    refine r_iload_n hX dX8_comes_31 3 rfl ?_
    obtain ⟨hb2, h⟩ := ite_some h
    refine r_iast hX 27 0 kyR27 (fun _ => rfl) (t0 := 0) rfl hb2 dX8_comes_32 (fun μ3 eμ3 => ?_)
    have h := mst_at eμ3 h
    refine r_aload_n hX dX8_comes_33 0 rfl ?_
    refine r_dup hX dX8_comes_34 rfl ?_
    refine r_get hX 0 0 kyR0 rfl rfl inlX8 26 (by decide) tw3_66 (v := .int (μ3 0 0 26)) rfl dX8_comes_35 ?_
    refine r_iconst hX dX8_comes_38 (v := 1) (by decide) ?_
    refine r_iadd hX dX8_comes_39 ?_
    refine r_put hX 0 0 kyR0 rfl rfl inlX8 tyX8 tyX8_ok nmX8 26 (by decide) tw3_66 rfl (tyX8_ok 26 (by decide)) rfl rfl (Nat.le_of_ble_eq_true rfl) rfl dX8_comes_40 (fun μ4 eμ4 => ?_)
    have h := mst_at eμ4 h
    refine r_iload_n hX dX8_comes_43 1 rfl ?_
    refine r_iconst hX dX8_comes_44 (v := 2) (by decide) ?_
    refine r_icmp_ne hX (tgt := 61) dX8_comes_45 (by decide) (fun hc5 => ?_) (fun hc5 => ?_)
    · have h := ite_f hc5 h
      exact r_vret hX hQ (Option.some.inj h) dX8_comes_61
    · have h := ite_t hc5 h
      refine r_aload_n hX dX8_comes_48 0 rfl ?_
      refine r_iload_n hX dX8_comes_49 2 rfl ?_
      refine r_aload_n hX dX8_comes_50 0 rfl ?_
      refine r_get hX 0 0 kyR0 rfl rfl inlX8 26 (by decide) tw3_66 (v := .int (μ4 0 0 26)) rfl dX8_comes_51 ?_
      refine r_iconst hX dX8_comes_54 (v := 1) (by decide) ?_
      refine r_isub hX dX8_comes_55 ?_
      obtain ⟨q7, hq6, h⟩ := bind_ex h
      refine r_callV hX 0 0 (As := [.int a2, .int ((μ4 0 0 26) - 1)]) (rest := []) (st' := [.int q7.1]) (res := (some (.int q7.1))) (μ' := q7.2) (mX8_up a2 ((μ4 0 0 26) - 1) hq6) ckV_X8_158 ⟨rfl, rfl, by decide, by decide⟩ kyR0 rfl rfl rfl rfl (Nat.le_of_ble_eq_true rfl) dX8_comes_56 rfl ?_
      refine r_istore hX dX8_comes_59 (lv' := [(4, .int q7.1), (0, .ref (ad 0 0)), (1, .int a1), (2, .int a2), (3, .int a3)]) (by decide) rfl ?_
      exact r_vret hX hQ (Option.some.inj h) dX8_comes_61
  · have h := ite_t hc1 h
    refine r_aload_n hX dX8_comes_5 0 rfl ?_
    refine r_iload_n hX dX8_comes_6 2 rfl ?_
    refine r_iload_n hX dX8_comes_7 3 rfl ?_
    obtain ⟨q9, hq8, h⟩ := bind_ex h
    refine r_callV hX 0 0 (As := [.int a2, .int a3]) (rest := []) (st' := [.int q9.1]) (res := (some (.int q9.1))) (μ' := q9.2) (mX8_halving a2 a3 hq8) ckV_X8_152 ⟨rfl, rfl, by decide, by decide⟩ kyR0 rfl rfl rfl rfl (Nat.le_of_ble_eq_true rfl) dX8_comes_8 rfl ?_
    refine r_istore hX dX8_comes_11 (lv' := [(4, .int q9.1), (0, .ref (ad 0 0)), (1, .int a1), (2, .int a2), (3, .int a3)]) (by decide) rfl ?_
    refine r_aload_n hX dX8_comes_13 1 rfl ?_
    refine r_iload hX dX8_comes_14 0 rfl ?_
    refine r_iload_n hX dX8_comes_16 4 rfl ?_
    obtain ⟨μ11, hq10, h⟩ := bind_ex h
    refine r_callV hX 0 0 (As := [.int q9.1, .int a3]) (rest := []) (st' := []) (res := none) (μ' := μ11) (mX8_insert q9.1 a3 hq10) ckV_X8_155 ⟨rfl, rfl, by decide, by decide⟩ kyR0 rfl rfl rfl rfl (Nat.le_of_ble_eq_true rfl) dX8_comes_17 rfl ?_
    refine r_goto hX (tgt := 61) dX8_comes_20 (by decide) ?_
    exact r_vret hX hQ (Option.some.inj h) dX8_comes_61
abbrev rmX8_put : Room := { frames := 5, cells := 0, slots := 0, locals := 122 }
noncomputable def jX8_put (μ : Mu) (a1 : Int32) (a2 : Int32) : Option (Int32 × Mu) := (jX8_isTray μ a1).bind (fun r2 => if r2 = 0 then some ((-1), μ) else (jX8_isCard μ a2).bind (fun r5 => if r5 = 0 then some ((-1), μ) else if inb a1 6 = true then if (μ 17 0 a1.toNatClampNeg) = 40 then some ((-3), μ) else (jX8_beginAct μ).bind (fun μ10 => (jX8_load μ10 a1).bind (fun μ12 => if inb a1 6 = true then if inb a1 6 = true then (jX8_comes μ12 (μ12 15 0 a1.toNatClampNeg) (μ12 16 0 a1.toNatClampNeg) a2).bind (fun μ16 => (jX8_ends μ16 a1).bind (fun q18 => some (q18.1, q18.2))) else none else none)) else none))
set_option maxHeartbeats 4000000 in
set_option maxRecDepth 100000 in
theorem mX8_put {l : Launch} {D : va_G} {cI cH cT : ClassId} {ad : Nat → Nat → Nat} {Z : va_W} {μ : Mu} {r : Int32} {μ' : Mu} (a1 : Int32) (a2 : Int32) (h : jX8_put μ a1 a2 = some (r, μ')) : CT (gR l D cI cH cT ad Z) yX8_put (.code yX8_put cX8_put 3 (some .int) :: wsL_law) rmX8_put [.ref (ad 0 0), .int a1, .int a2] μ (some (.int r)) μ' := by
  refine ct_of (own := RX8) (by decide) ⟨rfl, rfl⟩ (Nat.le_of_ble_eq_true rfl) rfl (fun X hX hQ => ?_)
  have hX : HX (gR l D cI cH cT ad Z) X cX8_put 3 RX8 rmX8_put (some .int) := hX
  show V (gR l D cI cH cT ad Z) X 3 μ 0 [(0, .ref (ad 0 0)), (1, .int a1), (2, .int a2)] []
  unfold jX8_put at h
  refine r_aload_n hX dX8_put_0 0 rfl ?_
  refine r_iload_n hX dX8_put_1 1 rfl ?_
  obtain ⟨r2, hq1, h⟩ := bind_ex h
  refine r_callV hX 0 0 (As := [.int a1]) (rest := []) (st' := [.int r2]) (res := (some (.int r2))) (μ' := μ) (mX8_isTray a1 hq1) ckV_X8_162 ⟨rfl, rfl, by decide, by decide⟩ kyR0 rfl rfl rfl rfl (Nat.le_of_ble_eq_true rfl) dX8_put_2 rfl ?_
  refine r_if_eq hX (tgt := 16) dX8_put_5 (by decide) (fun hc3 => ?_) (fun hc3 => ?_)
  · have h := ite_t hc3 h
    refine r_iconst hX dX8_put_16 (v := (-1)) (by decide) ?_
    exact r_iret hX hQ (pr1 h) (pr2 h) dX8_put_17
  · have h := ite_f hc3 h
    refine r_aload_n hX dX8_put_8 0 rfl ?_
    refine r_iload_n hX dX8_put_9 2 rfl ?_
    obtain ⟨r5, hq4, h⟩ := bind_ex h
    refine r_callV hX 0 0 (As := [.int a2]) (rest := []) (st' := [.int r5]) (res := (some (.int r5))) (μ' := μ) (mX8_isCard a2 hq4) ckV_X8_80 ⟨rfl, rfl, by decide, by decide⟩ kyR0 rfl rfl rfl rfl (Nat.le_of_ble_eq_true rfl) dX8_put_10 rfl ?_
    refine r_if_ne hX (tgt := 18) dX8_put_13 (by decide) (fun hc6 => ?_) (fun hc6 => ?_)
    · have h := ite_f hc6 h
      refine r_aload_n hX dX8_put_18 0 rfl ?_
      refine r_get hX 0 0 kyR0 rfl rfl inlX8 17 (by decide) tw3_57 (v := .ref (ad 17 0)) rfl dX8_put_19 ?_
      refine r_iload_n hX dX8_put_22 1 rfl ?_
      obtain ⟨hb7, h⟩ := ite_some h
      refine r_iald hX 17 0 kyR17 rfl (t0 := 0) rfl hb7 dX8_put_23 ?_
      refine r_bipush hX dX8_put_24 (v := 40) (by decide) ?_
      refine r_icmp_ne hX (tgt := 32) dX8_put_26 (by decide) (fun hc8 => ?_) (fun hc8 => ?_)
      · have h := ite_f hc8 h
        refine r_aload_n hX dX8_put_32 0 rfl ?_
        obtain ⟨μ10, hq9, h⟩ := bind_ex h
        refine r_callV hX 0 0 (As := []) (rest := []) (st' := []) (res := none) (μ' := μ10) (mX8_beginAct  hq9) ckV_X8_165 ⟨rfl, rfl, by decide, by decide⟩ kyR0 rfl rfl rfl rfl (Nat.le_of_ble_eq_true rfl) dX8_put_33 rfl ?_
        refine r_aload_n hX dX8_put_36 0 rfl ?_
        refine r_iload_n hX dX8_put_37 1 rfl ?_
        obtain ⟨μ12, hq11, h⟩ := bind_ex h
        refine r_callV hX 0 0 (As := [.int a1]) (rest := []) (st' := []) (res := none) (μ' := μ12) (mX8_load a1 hq11) ckV_X8_168 ⟨rfl, rfl, by decide, by decide⟩ kyR0 rfl rfl rfl rfl (Nat.le_of_ble_eq_true rfl) dX8_put_38 rfl ?_
        refine r_aload_n hX dX8_put_41 0 rfl ?_
        refine r_aload_n hX dX8_put_42 0 rfl ?_
        refine r_get hX 0 0 kyR0 rfl rfl inlX8 15 (by decide) tw3_55 (v := .ref (ad 15 0)) rfl dX8_put_43 ?_
        refine r_iload_n hX dX8_put_46 1 rfl ?_
        obtain ⟨hb13, h⟩ := ite_some h
        refine r_iald hX 15 0 kyR15 rfl (t0 := 0) rfl hb13 dX8_put_47 ?_
        refine r_aload_n hX dX8_put_48 0 rfl ?_
        refine r_get hX 0 0 kyR0 rfl rfl inlX8 16 (by decide) tw3_56 (v := .ref (ad 16 0)) rfl dX8_put_49 ?_
        refine r_iload_n hX dX8_put_52 1 rfl ?_
        obtain ⟨hb14, h⟩ := ite_some h
        refine r_iald hX 16 0 kyR16 rfl (t0 := 0) rfl hb14 dX8_put_53 ?_
        refine r_iload_n hX dX8_put_54 2 rfl ?_
        obtain ⟨μ16, hq15, h⟩ := bind_ex h
        refine r_callV hX 0 0 (As := [.int (μ12 15 0 a1.toNatClampNeg), .int (μ12 16 0 a1.toNatClampNeg), .int a2]) (rest := []) (st' := []) (res := none) (μ' := μ16) (mX8_comes (μ12 15 0 a1.toNatClampNeg) (μ12 16 0 a1.toNatClampNeg) a2 hq15) ckV_X8_171 ⟨rfl, rfl, by decide, by decide⟩ kyR0 rfl rfl rfl rfl (Nat.le_of_ble_eq_true rfl) dX8_put_55 rfl ?_
        refine r_aload_n hX dX8_put_58 0 rfl ?_
        refine r_iload_n hX dX8_put_59 1 rfl ?_
        obtain ⟨q18, hq17, h⟩ := bind_ex h
        refine r_callV hX 0 0 (As := [.int a1]) (rest := []) (st' := [.int q18.1]) (res := (some (.int q18.1))) (μ' := q18.2) (mX8_ends a1 hq17) ckV_X8_175 ⟨rfl, rfl, by decide, by decide⟩ kyR0 rfl rfl rfl rfl (Nat.le_of_ble_eq_true rfl) dX8_put_60 rfl ?_
        exact r_iret hX hQ (pr1 h) (pr2 h) dX8_put_63
      · have h := ite_t hc8 h
        refine r_bipush hX dX8_put_29 (v := (-3)) (by decide) ?_
        exact r_iret hX hQ (pr1 h) (pr2 h) dX8_put_31
    · have h := ite_t hc6 h
      refine r_iconst hX dX8_put_16 (v := (-1)) (by decide) ?_
      exact r_iret hX hQ (pr1 h) (pr2 h) dX8_put_17
abbrev rmX8_goes : Room := { frames := 4, cells := 0, slots := 0, locals := 98 }
noncomputable def jX8_goes (μ : Mu) (a1 : Int32) (a2 : Int32) : Option (Mu) := if inb a1 6 = true then if (μ 15 0 a1.toNatClampNeg) = 2 then mst (mu_st μ 0 0 26 ((μ 0 0 26) - 1)) (fun μ3 => if (μ3 0 0 26) ≤ a2 then some μ3 else if inb (μ3 0 0 26) 41 = true then if inb a2 41 = true then mst (mu_st μ3 27 0 a2.toNatClampNeg (μ3 27 0 (μ3 0 0 26).toNatClampNeg)) (fun μ7 => if inb a1 6 = true then (jX8_up μ7 (μ7 16 0 a1.toNatClampNeg) a2).bind (fun q10 => if q10.1 = 0 then if (q10.2 0 0 21) = 0 then if inb a1 6 = true then (jX8_down q10.2 (q10.2 16 0 a1.toNatClampNeg) a2).bind (fun μ15 => some μ15) else none else some q10.2 else some q10.2) else none) else none else none) else (jX8_remove μ a2).bind (fun μ17 => some μ17) else none
set_option maxHeartbeats 4000000 in
set_option maxRecDepth 100000 in
theorem mX8_goes {l : Launch} {D : va_G} {cI cH cT : ClassId} {ad : Nat → Nat → Nat} {Z : va_W} {μ : Mu} {μ' : Mu} (a1 : Int32) (a2 : Int32) (h : jX8_goes μ a1 a2 = some μ') : CT (gR l D cI cH cT ad Z) yX8_goes (.code yX8_goes cX8_goes 3 none :: wsL_law) rmX8_goes [.ref (ad 0 0), .int a1, .int a2] μ none μ' := by
  refine ct_of (own := RX8) (by decide) ⟨rfl, rfl⟩ (Nat.le_of_ble_eq_true rfl) rfl (fun X hX hQ => ?_)
  have hX : HX (gR l D cI cH cT ad Z) X cX8_goes 3 RX8 rmX8_goes none := hX
  show V (gR l D cI cH cT ad Z) X 3 μ 0 [(0, .ref (ad 0 0)), (1, .int a1), (2, .int a2)] []
  unfold jX8_goes at h
  refine r_aload_n hX dX8_goes_0 0 rfl ?_
  refine r_get hX 0 0 kyR0 rfl rfl inlX8 15 (by decide) tw3_55 (v := .ref (ad 15 0)) rfl dX8_goes_1 ?_
  refine r_iload_n hX dX8_goes_4 1 rfl ?_
  obtain ⟨hb1, h⟩ := ite_some h
  refine r_iald hX 15 0 kyR15 rfl (t0 := 0) rfl hb1 dX8_goes_5 ?_
  refine r_iconst hX dX8_goes_6 (v := 2) (by decide) ?_
  refine r_icmp_eq hX (tgt := 16) dX8_goes_7 (by decide) (fun hc2 => ?_) (fun hc2 => ?_)
  · have h := ite_t hc2 h
    refine r_aload_n hX dX8_goes_16 0 rfl ?_
    refine r_dup hX dX8_goes_17 rfl ?_
    refine r_get hX 0 0 kyR0 rfl rfl inlX8 26 (by decide) tw3_66 (v := .int (μ 0 0 26)) rfl dX8_goes_18 ?_
    refine r_iconst hX dX8_goes_21 (v := 1) (by decide) ?_
    refine r_isub hX dX8_goes_22 ?_
    refine r_put hX 0 0 kyR0 rfl rfl inlX8 tyX8 tyX8_ok nmX8 26 (by decide) tw3_66 rfl (tyX8_ok 26 (by decide)) rfl rfl (Nat.le_of_ble_eq_true rfl) rfl dX8_goes_23 (fun μ3 eμ3 => ?_)
    have h := mst_at eμ3 h
    refine r_iload_n hX dX8_goes_26 2 rfl ?_
    refine r_aload_n hX dX8_goes_27 0 rfl ?_
    refine r_get hX 0 0 kyR0 rfl rfl inlX8 26 (by decide) tw3_66 (v := .int (μ3 0 0 26)) rfl dX8_goes_28 ?_
    refine r_icmp_ge hX (tgt := 81) dX8_goes_31 (by decide) (fun hc4 => ?_) (fun hc4 => ?_)
    · have h := ite_t hc4 h
      exact r_vret hX hQ (Option.some.inj h) dX8_goes_81
    · have h := ite_f hc4 h
      refine r_aload_n hX dX8_goes_34 0 rfl ?_
      refine r_get hX 0 0 kyR0 rfl rfl inlX8 27 (by decide) tw3_67 (v := .ref (ad 27 0)) rfl dX8_goes_35 ?_
      refine r_iload_n hX dX8_goes_38 2 rfl ?_
      refine r_aload_n hX dX8_goes_39 0 rfl ?_
      refine r_get hX 0 0 kyR0 rfl rfl inlX8 27 (by decide) tw3_67 (v := .ref (ad 27 0)) rfl dX8_goes_40 ?_
      refine r_aload_n hX dX8_goes_43 0 rfl ?_
      refine r_get hX 0 0 kyR0 rfl rfl inlX8 26 (by decide) tw3_66 (v := .int (μ3 0 0 26)) rfl dX8_goes_44 ?_
      obtain ⟨hb5, h⟩ := ite_some h
      refine r_iald hX 27 0 kyR27 rfl (t0 := 0) rfl hb5 dX8_goes_47 ?_
      obtain ⟨hb6, h⟩ := ite_some h
      refine r_iast hX 27 0 kyR27 (fun _ => rfl) (t0 := 0) rfl hb6 dX8_goes_48 (fun μ7 eμ7 => ?_)
      have h := mst_at eμ7 h
      refine r_aload_n hX dX8_goes_49 0 rfl ?_
      refine r_aload_n hX dX8_goes_50 0 rfl ?_
      refine r_get hX 0 0 kyR0 rfl rfl inlX8 16 (by decide) tw3_56 (v := .ref (ad 16 0)) rfl dX8_goes_51 ?_
      refine r_iload_n hX dX8_goes_54 1 rfl ?_
      obtain ⟨hb8, h⟩ := ite_some h
      refine r_iald hX 16 0 kyR16 rfl (t0 := 0) rfl hb8 dX8_goes_55 ?_
      refine r_iload_n hX dX8_goes_56 2 rfl ?_
      obtain ⟨q10, hq9, h⟩ := bind_ex h
      refine r_callV hX 0 0 (As := [.int (μ7 16 0 a1.toNatClampNeg), .int a2]) (rest := []) (st' := [.int q10.1]) (res := (some (.int q10.1))) (μ' := q10.2) (mX8_up (μ7 16 0 a1.toNatClampNeg) a2 hq9) ckV_X8_158 ⟨rfl, rfl, by decide, by decide⟩ kyR0 rfl rfl rfl rfl (Nat.le_of_ble_eq_true rfl) dX8_goes_57 rfl ?_
      refine r_if_ne hX (tgt := 81) dX8_goes_60 (by decide) (fun hc11 => ?_) (fun hc11 => ?_)
      · have h := ite_f hc11 h
        exact r_vret hX hQ (Option.some.inj h) dX8_goes_81
      · have h := ite_t hc11 h
        refine r_aload_n hX dX8_goes_63 0 rfl ?_
        refine r_get hX 0 0 kyR0 rfl rfl inlX8 21 (by decide) tw3_61 (v := .int (q10.2 0 0 21)) rfl dX8_goes_64 ?_
        refine r_if_ne hX (tgt := 81) dX8_goes_67 (by decide) (fun hc12 => ?_) (fun hc12 => ?_)
        · have h := ite_f hc12 h
          exact r_vret hX hQ (Option.some.inj h) dX8_goes_81
        · have h := ite_t hc12 h
          refine r_aload_n hX dX8_goes_70 0 rfl ?_
          refine r_aload_n hX dX8_goes_71 0 rfl ?_
          refine r_get hX 0 0 kyR0 rfl rfl inlX8 16 (by decide) tw3_56 (v := .ref (ad 16 0)) rfl dX8_goes_72 ?_
          refine r_iload_n hX dX8_goes_75 1 rfl ?_
          obtain ⟨hb13, h⟩ := ite_some h
          refine r_iald hX 16 0 kyR16 rfl (t0 := 0) rfl hb13 dX8_goes_76 ?_
          refine r_iload_n hX dX8_goes_77 2 rfl ?_
          obtain ⟨μ15, hq14, h⟩ := bind_ex h
          refine r_callV hX 0 0 (As := [.int (q10.2 16 0 a1.toNatClampNeg), .int a2]) (rest := []) (st' := []) (res := none) (μ' := μ15) (mX8_down (q10.2 16 0 a1.toNatClampNeg) a2 hq14) ckV_X8_182 ⟨rfl, rfl, by decide, by decide⟩ kyR0 rfl rfl rfl rfl (Nat.le_of_ble_eq_true rfl) dX8_goes_78 rfl ?_
          exact r_vret hX hQ (Option.some.inj h) dX8_goes_81
  · have h := ite_f hc2 h
    refine r_aload_n hX dX8_goes_10 0 rfl ?_
    refine r_iload_n hX dX8_goes_11 2 rfl ?_
    obtain ⟨μ17, hq16, h⟩ := bind_ex h
    refine r_callV hX 0 0 (As := [.int a2]) (rest := []) (st' := []) (res := none) (μ' := μ17) (mX8_remove a2 hq16) ckV_X8_179 ⟨rfl, rfl, by decide, by decide⟩ kyR0 rfl rfl rfl rfl (Nat.le_of_ble_eq_true rfl) dX8_goes_12 rfl ?_
    exact r_vret hX hQ (Option.some.inj h) dX8_goes_15
abbrev rmX8_take : Room := { frames := 5, cells := 0, slots := 0, locals := 120 }
noncomputable def jX8_take (μ : Mu) (a1 : Int32) (a2 : Int32) : Option (Int32 × Mu) := (jX8_isTray μ a1).bind (fun r2 => if r2 = 0 then some ((-1), μ) else if inb a1 6 = true then (jX8_in a2.toInt64 0 (((μ 17 0 a1.toNatClampNeg) - 1).toInt64)).bind (fun r6 => if r6 = 0 then some ((-1), μ) else (jX8_beginAct μ).bind (fun μ9 => (jX8_load μ9 a1).bind (fun μ11 => (jX8_goes μ11 a1 a2).bind (fun μ13 => (jX8_ends μ13 a1).bind (fun q15 => some (q15.1, q15.2)))))) else none)
set_option maxHeartbeats 4000000 in
set_option maxRecDepth 100000 in
theorem mX8_take {l : Launch} {D : va_G} {cI cH cT : ClassId} {ad : Nat → Nat → Nat} {Z : va_W} {μ : Mu} {r : Int32} {μ' : Mu} (a1 : Int32) (a2 : Int32) (h : jX8_take μ a1 a2 = some (r, μ')) : CT (gR l D cI cH cT ad Z) yX8_take (.code yX8_take cX8_take 3 (some .int) :: wsL_law) rmX8_take [.ref (ad 0 0), .int a1, .int a2] μ (some (.int r)) μ' := by
  refine ct_of (own := RX8) (by decide) ⟨rfl, rfl⟩ (Nat.le_of_ble_eq_true rfl) rfl (fun X hX hQ => ?_)
  have hX : HX (gR l D cI cH cT ad Z) X cX8_take 3 RX8 rmX8_take (some .int) := hX
  show V (gR l D cI cH cT ad Z) X 3 μ 0 [(0, .ref (ad 0 0)), (1, .int a1), (2, .int a2)] []
  unfold jX8_take at h
  refine r_aload_n hX dX8_take_0 0 rfl ?_
  refine r_iload_n hX dX8_take_1 1 rfl ?_
  obtain ⟨r2, hq1, h⟩ := bind_ex h
  refine r_callV hX 0 0 (As := [.int a1]) (rest := []) (st' := [.int r2]) (res := (some (.int r2))) (μ' := μ) (mX8_isTray a1 hq1) ckV_X8_162 ⟨rfl, rfl, by decide, by decide⟩ kyR0 rfl rfl rfl rfl (Nat.le_of_ble_eq_true rfl) dX8_take_2 rfl ?_
  refine r_if_eq hX (tgt := 26) dX8_take_5 (by decide) (fun hc3 => ?_) (fun hc3 => ?_)
  · have h := ite_t hc3 h
    refine r_iconst hX dX8_take_26 (v := (-1)) (by decide) ?_
    exact r_iret hX hQ (pr1 h) (pr2 h) dX8_take_27
  · have h := ite_f hc3 h
    refine r_iload_n hX dX8_take_8 2 rfl ?_
    refine r_i2l hX dX8_take_9 ?_
    refine r_lconst hX dX8_take_10 (v := 0) (by decide) ?_
    refine r_aload_n hX dX8_take_11 0 rfl ?_
    refine r_get hX 0 0 kyR0 rfl rfl inlX8 17 (by decide) tw3_57 (v := .ref (ad 17 0)) rfl dX8_take_12 ?_
    refine r_iload_n hX dX8_take_15 1 rfl ?_
    obtain ⟨hb4, h⟩ := ite_some h
    refine r_iald hX 17 0 kyR17 rfl (t0 := 0) rfl hb4 dX8_take_16 ?_
    refine r_iconst hX dX8_take_17 (v := 1) (by decide) ?_
    refine r_isub hX dX8_take_18 ?_
    refine r_i2l hX dX8_take_19 ?_
    obtain ⟨r6, hq5, h⟩ := bind_ex h
    refine r_callS hX (As := [.long a2.toInt64, .long 0, .long (((μ 17 0 a1.toNatClampNeg) - 1).toInt64)]) (rest := []) (st' := [.int r6]) (res := (some (.int r6))) (μ' := μ) (mX8_in a2.toInt64 0 (((μ 17 0 a1.toNatClampNeg) - 1).toInt64) hq5) ckS_X8_68 ⟨rfl, rfl, by decide, by decide⟩ rfl rfl (Nat.le_of_ble_eq_true rfl) dX8_take_20 rfl ?_
    refine r_if_ne hX (tgt := 28) dX8_take_23 (by decide) (fun hc7 => ?_) (fun hc7 => ?_)
    · have h := ite_f hc7 h
      refine r_aload_n hX dX8_take_28 0 rfl ?_
      obtain ⟨μ9, hq8, h⟩ := bind_ex h
      refine r_callV hX 0 0 (As := []) (rest := []) (st' := []) (res := none) (μ' := μ9) (mX8_beginAct  hq8) ckV_X8_165 ⟨rfl, rfl, by decide, by decide⟩ kyR0 rfl rfl rfl rfl (Nat.le_of_ble_eq_true rfl) dX8_take_29 rfl ?_
      refine r_aload_n hX dX8_take_32 0 rfl ?_
      refine r_iload_n hX dX8_take_33 1 rfl ?_
      obtain ⟨μ11, hq10, h⟩ := bind_ex h
      refine r_callV hX 0 0 (As := [.int a1]) (rest := []) (st' := []) (res := none) (μ' := μ11) (mX8_load a1 hq10) ckV_X8_168 ⟨rfl, rfl, by decide, by decide⟩ kyR0 rfl rfl rfl rfl (Nat.le_of_ble_eq_true rfl) dX8_take_34 rfl ?_
      refine r_aload_n hX dX8_take_37 0 rfl ?_
      refine r_iload_n hX dX8_take_38 1 rfl ?_
      refine r_iload_n hX dX8_take_39 2 rfl ?_
      obtain ⟨μ13, hq12, h⟩ := bind_ex h
      refine r_callV hX 0 0 (As := [.int a1, .int a2]) (rest := []) (st' := []) (res := none) (μ' := μ13) (mX8_goes a1 a2 hq12) ckV_X8_185 ⟨rfl, rfl, by decide, by decide⟩ kyR0 rfl rfl rfl rfl (Nat.le_of_ble_eq_true rfl) dX8_take_40 rfl ?_
      refine r_aload_n hX dX8_take_43 0 rfl ?_
      refine r_iload_n hX dX8_take_44 1 rfl ?_
      obtain ⟨q15, hq14, h⟩ := bind_ex h
      refine r_callV hX 0 0 (As := [.int a1]) (rest := []) (st' := [.int q15.1]) (res := (some (.int q15.1))) (μ' := q15.2) (mX8_ends a1 hq14) ckV_X8_175 ⟨rfl, rfl, by decide, by decide⟩ kyR0 rfl rfl rfl rfl (Nat.le_of_ble_eq_true rfl) dX8_take_45 rfl ?_
      exact r_iret hX hQ (pr1 h) (pr2 h) dX8_take_48
    · have h := ite_t hc7 h
      refine r_iconst hX dX8_take_26 (v := (-1)) (by decide) ?_
      exact r_iret hX hQ (pr1 h) (pr2 h) dX8_take_27
abbrev rmX8_first : Room := { frames := 5, cells := 0, slots := 0, locals := 120 }
noncomputable def jX8_first (μ : Mu) (a1 : Int32) : Option (Int32 × Mu) := (jX8_isTray μ a1).bind (fun r2 => if r2 = 0 then some ((-1), μ) else if inb a1 6 = true then if (μ 17 0 a1.toNatClampNeg) = 0 then some ((-1), μ) else if inb (40 * a1) 240 = true then (jX8_beginAct μ).bind (fun μ8 => (jX8_load μ8 a1).bind (fun μ10 => (jX8_goes μ10 a1 0).bind (fun μ12 => (jX8_ends μ12 a1).bind (fun q14 => if q14.1 = 0 then some (μ 18 0 (40 * a1).toNatClampNeg, q14.2) else some ((-11), q14.2))))) else none else none)
set_option maxHeartbeats 4000000 in
set_option maxRecDepth 100000 in
theorem mX8_first {l : Launch} {D : va_G} {cI cH cT : ClassId} {ad : Nat → Nat → Nat} {Z : va_W} {μ : Mu} {r : Int32} {μ' : Mu} (a1 : Int32) (h : jX8_first μ a1 = some (r, μ')) : CT (gR l D cI cH cT ad Z) yX8_first (.code yX8_first cX8_first 3 (some .int) :: wsL_law) rmX8_first [.ref (ad 0 0), .int a1] μ (some (.int r)) μ' := by
  refine ct_of (own := RX8) (by decide) ⟨rfl, rfl⟩ (Nat.le_of_ble_eq_true rfl) rfl (fun X hX hQ => ?_)
  have hX : HX (gR l D cI cH cT ad Z) X cX8_first 3 RX8 rmX8_first (some .int) := hX
  show V (gR l D cI cH cT ad Z) X 3 μ 0 [(0, .ref (ad 0 0)), (1, .int a1)] []
  unfold jX8_first at h
  refine r_aload_n hX dX8_first_0 0 rfl ?_
  refine r_iload_n hX dX8_first_1 1 rfl ?_
  obtain ⟨r2, hq1, h⟩ := bind_ex h
  refine r_callV hX 0 0 (As := [.int a1]) (rest := []) (st' := [.int r2]) (res := (some (.int r2))) (μ' := μ) (mX8_isTray a1 hq1) ckV_X8_162 ⟨rfl, rfl, by decide, by decide⟩ kyR0 rfl rfl rfl rfl (Nat.le_of_ble_eq_true rfl) dX8_first_2 rfl ?_
  refine r_if_eq hX (tgt := 17) dX8_first_5 (by decide) (fun hc3 => ?_) (fun hc3 => ?_)
  · have h := ite_t hc3 h
    refine r_iconst hX dX8_first_17 (v := (-1)) (by decide) ?_
    exact r_iret hX hQ (pr1 h) (pr2 h) dX8_first_18
  · have h := ite_f hc3 h
    refine r_aload_n hX dX8_first_8 0 rfl ?_
    refine r_get hX 0 0 kyR0 rfl rfl inlX8 17 (by decide) tw3_57 (v := .ref (ad 17 0)) rfl dX8_first_9 ?_
    refine r_iload_n hX dX8_first_12 1 rfl ?_
    obtain ⟨hb4, h⟩ := ite_some h
    refine r_iald hX 17 0 kyR17 rfl (t0 := 0) rfl hb4 dX8_first_13 ?_
    refine r_if_ne hX (tgt := 19) dX8_first_14 (by decide) (fun hc5 => ?_) (fun hc5 => ?_)
    · have h := ite_f hc5 h
      refine r_aload_n hX dX8_first_19 0 rfl ?_
      refine r_get hX 0 0 kyR0 rfl rfl inlX8 18 (by decide) tw3_58 (v := .ref (ad 18 0)) rfl dX8_first_20 ?_
      refine r_bipush hX dX8_first_23 (v := 40) (by decide) ?_
      refine r_iload_n hX dX8_first_25 1 rfl ?_
      refine r_imul hX dX8_first_26 ?_
      obtain ⟨hb6, h⟩ := ite_some h
      refine r_iald hX 18 0 kyR18 rfl (t0 := 0) rfl hb6 dX8_first_27 ?_
      refine r_istore_n hX dX8_first_28 (lv' := [(2, .int (μ 18 0 (40 * a1).toNatClampNeg)), (0, .ref (ad 0 0)), (1, .int a1)]) (by decide) rfl ?_
      refine r_aload_n hX dX8_first_29 1 rfl ?_
      obtain ⟨μ8, hq7, h⟩ := bind_ex h
      refine r_callV hX 0 0 (As := []) (rest := []) (st' := []) (res := none) (μ' := μ8) (mX8_beginAct  hq7) ckV_X8_165 ⟨rfl, rfl, by decide, by decide⟩ kyR0 rfl rfl rfl rfl (Nat.le_of_ble_eq_true rfl) dX8_first_30 rfl ?_
      refine r_aload_n hX dX8_first_33 1 rfl ?_
      refine r_iload_n hX dX8_first_34 2 rfl ?_
      obtain ⟨μ10, hq9, h⟩ := bind_ex h
      refine r_callV hX 0 0 (As := [.int a1]) (rest := []) (st' := []) (res := none) (μ' := μ10) (mX8_load a1 hq9) ckV_X8_168 ⟨rfl, rfl, by decide, by decide⟩ kyR0 rfl rfl rfl rfl (Nat.le_of_ble_eq_true rfl) dX8_first_35 rfl ?_
      refine r_aload_n hX dX8_first_38 1 rfl ?_
      refine r_iload_n hX dX8_first_39 2 rfl ?_
      refine r_iconst hX dX8_first_40 (v := 0) (by decide) ?_
      obtain ⟨μ12, hq11, h⟩ := bind_ex h
      refine r_callV hX 0 0 (As := [.int a1, .int 0]) (rest := []) (st' := []) (res := none) (μ' := μ12) (mX8_goes a1 0 hq11) ckV_X8_185 ⟨rfl, rfl, by decide, by decide⟩ kyR0 rfl rfl rfl rfl (Nat.le_of_ble_eq_true rfl) dX8_first_41 rfl ?_
      refine r_aload_n hX dX8_first_44 1 rfl ?_
      refine r_iload_n hX dX8_first_45 2 rfl ?_
      obtain ⟨q14, hq13, h⟩ := bind_ex h
      refine r_callV hX 0 0 (As := [.int a1]) (rest := []) (st' := [.int q14.1]) (res := (some (.int q14.1))) (μ' := q14.2) (mX8_ends a1 hq13) ckV_X8_175 ⟨rfl, rfl, by decide, by decide⟩ kyR0 rfl rfl rfl rfl (Nat.le_of_ble_eq_true rfl) dX8_first_46 rfl ?_
      refine r_if_ne hX (tgt := 56) dX8_first_49 (by decide) (fun hc15 => ?_) (fun hc15 => ?_)
      · have h := ite_f hc15 h
        refine r_bipush hX dX8_first_56 (v := (-11)) (by decide) ?_
        exact r_iret hX hQ (pr1 h) (pr2 h) dX8_first_58
      · have h := ite_t hc15 h
        refine r_iload_n hX dX8_first_52 0 rfl ?_
        refine r_goto hX (tgt := 58) dX8_first_53 (by decide) ?_
        exact r_iret hX hQ (pr1 h) (pr2 h) dX8_first_58
    · have h := ite_t hc5 h
      refine r_iconst hX dX8_first_17 (v := (-1)) (by decide) ?_
      exact r_iret hX hQ (pr1 h) (pr2 h) dX8_first_18
abbrev rmX8_find : Room := { frames := 4, cells := 0, slots := 0, locals := 98 }
noncomputable def jX8_find (μ : Mu) (a1 : Int32) (a2 : Int32) : Option (Int32 × Mu) := (jX8_isTray μ a1).bind (fun r2 => if r2 = 0 then some ((-1), μ) else (jX8_isCard μ a2).bind (fun r5 => if r5 = 0 then some ((-1), μ) else if inb a1 6 = true then if (μ 15 0 a1.toNatClampNeg) = 1 then (jX8_beginAct μ).bind (fun μ10 => (jX8_load μ10 a1).bind (fun μ12 => if inb a1 6 = true then (jX8_halving μ12 (μ12 16 0 a1.toNatClampNeg) a2).bind (fun q15 => (jX8_ends q15.2 a1).bind (fun q17 => if q17.1 = 0 then some (q15.1, q17.2) else some ((-11), q17.2))) else none)) else some ((-2), μ) else none))
set_option maxHeartbeats 4000000 in
set_option maxRecDepth 100000 in
theorem mX8_find {l : Launch} {D : va_G} {cI cH cT : ClassId} {ad : Nat → Nat → Nat} {Z : va_W} {μ : Mu} {r : Int32} {μ' : Mu} (a1 : Int32) (a2 : Int32) (h : jX8_find μ a1 a2 = some (r, μ')) : CT (gR l D cI cH cT ad Z) yX8_find (.code yX8_find cX8_find 4 (some .int) :: wsL_law) rmX8_find [.ref (ad 0 0), .int a1, .int a2] μ (some (.int r)) μ' := by
  refine ct_of (own := RX8) (by decide) ⟨rfl, rfl⟩ (Nat.le_of_ble_eq_true rfl) rfl (fun X hX hQ => ?_)
  have hX : HX (gR l D cI cH cT ad Z) X cX8_find 4 RX8 rmX8_find (some .int) := hX
  show V (gR l D cI cH cT ad Z) X 4 μ 0 [(0, .ref (ad 0 0)), (1, .int a1), (2, .int a2)] []
  unfold jX8_find at h
  refine r_aload_n hX dX8_find_0 0 rfl ?_
  refine r_iload_n hX dX8_find_1 1 rfl ?_
  obtain ⟨r2, hq1, h⟩ := bind_ex h
  refine r_callV hX 0 0 (As := [.int a1]) (rest := []) (st' := [.int r2]) (res := (some (.int r2))) (μ' := μ) (mX8_isTray a1 hq1) ckV_X8_162 ⟨rfl, rfl, by decide, by decide⟩ kyR0 rfl rfl rfl rfl (Nat.le_of_ble_eq_true rfl) dX8_find_2 rfl ?_
  refine r_if_eq hX (tgt := 16) dX8_find_5 (by decide) (fun hc3 => ?_) (fun hc3 => ?_)
  · have h := ite_t hc3 h
    refine r_iconst hX dX8_find_16 (v := (-1)) (by decide) ?_
    exact r_iret hX hQ (pr1 h) (pr2 h) dX8_find_17
  · have h := ite_f hc3 h
    refine r_aload_n hX dX8_find_8 0 rfl ?_
    refine r_iload_n hX dX8_find_9 2 rfl ?_
    obtain ⟨r5, hq4, h⟩ := bind_ex h
    refine r_callV hX 0 0 (As := [.int a2]) (rest := []) (st' := [.int r5]) (res := (some (.int r5))) (μ' := μ) (mX8_isCard a2 hq4) ckV_X8_80 ⟨rfl, rfl, by decide, by decide⟩ kyR0 rfl rfl rfl rfl (Nat.le_of_ble_eq_true rfl) dX8_find_10 rfl ?_
    refine r_if_ne hX (tgt := 18) dX8_find_13 (by decide) (fun hc6 => ?_) (fun hc6 => ?_)
    · have h := ite_f hc6 h
      refine r_aload_n hX dX8_find_18 0 rfl ?_
      refine r_get hX 0 0 kyR0 rfl rfl inlX8 15 (by decide) tw3_55 (v := .ref (ad 15 0)) rfl dX8_find_19 ?_
      refine r_iload_n hX dX8_find_22 1 rfl ?_
      obtain ⟨hb7, h⟩ := ite_some h
      refine r_iald hX 15 0 kyR15 rfl (t0 := 0) rfl hb7 dX8_find_23 ?_
      refine r_iconst hX dX8_find_24 (v := 1) (by decide) ?_
      refine r_icmp_eq hX (tgt := 31) dX8_find_25 (by decide) (fun hc8 => ?_) (fun hc8 => ?_)
      · have h := ite_t hc8 h
        refine r_aload_n hX dX8_find_31 0 rfl ?_
        obtain ⟨μ10, hq9, h⟩ := bind_ex h
        refine r_callV hX 0 0 (As := []) (rest := []) (st' := []) (res := none) (μ' := μ10) (mX8_beginAct  hq9) ckV_X8_165 ⟨rfl, rfl, by decide, by decide⟩ kyR0 rfl rfl rfl rfl (Nat.le_of_ble_eq_true rfl) dX8_find_32 rfl ?_
        refine r_aload_n hX dX8_find_35 0 rfl ?_
        refine r_iload_n hX dX8_find_36 1 rfl ?_
        obtain ⟨μ12, hq11, h⟩ := bind_ex h
        refine r_callV hX 0 0 (As := [.int a1]) (rest := []) (st' := []) (res := none) (μ' := μ12) (mX8_load a1 hq11) ckV_X8_168 ⟨rfl, rfl, by decide, by decide⟩ kyR0 rfl rfl rfl rfl (Nat.le_of_ble_eq_true rfl) dX8_find_37 rfl ?_
        refine r_aload_n hX dX8_find_40 0 rfl ?_
        refine r_aload_n hX dX8_find_41 0 rfl ?_
        refine r_get hX 0 0 kyR0 rfl rfl inlX8 16 (by decide) tw3_56 (v := .ref (ad 16 0)) rfl dX8_find_42 ?_
        refine r_iload_n hX dX8_find_45 1 rfl ?_
        obtain ⟨hb13, h⟩ := ite_some h
        refine r_iald hX 16 0 kyR16 rfl (t0 := 0) rfl hb13 dX8_find_46 ?_
        refine r_iload_n hX dX8_find_47 2 rfl ?_
        obtain ⟨q15, hq14, h⟩ := bind_ex h
        refine r_callV hX 0 0 (As := [.int (μ12 16 0 a1.toNatClampNeg), .int a2]) (rest := []) (st' := [.int q15.1]) (res := (some (.int q15.1))) (μ' := q15.2) (mX8_halving (μ12 16 0 a1.toNatClampNeg) a2 hq14) ckV_X8_152 ⟨rfl, rfl, by decide, by decide⟩ kyR0 rfl rfl rfl rfl (Nat.le_of_ble_eq_true rfl) dX8_find_48 rfl ?_
        refine r_istore_n hX dX8_find_51 (lv' := [(3, .int q15.1), (0, .ref (ad 0 0)), (1, .int a1), (2, .int a2)]) (by decide) rfl ?_
        refine r_aload_n hX dX8_find_52 1 rfl ?_
        refine r_iload_n hX dX8_find_53 2 rfl ?_
        obtain ⟨q17, hq16, h⟩ := bind_ex h
        refine r_callV hX 0 0 (As := [.int a1]) (rest := []) (st' := [.int q17.1]) (res := (some (.int q17.1))) (μ' := q17.2) (mX8_ends a1 hq16) ckV_X8_175 ⟨rfl, rfl, by decide, by decide⟩ kyR0 rfl rfl rfl rfl (Nat.le_of_ble_eq_true rfl) dX8_find_54 rfl ?_
        refine r_if_ne hX (tgt := 64) dX8_find_57 (by decide) (fun hc18 => ?_) (fun hc18 => ?_)
        · have h := ite_f hc18 h
          refine r_bipush hX dX8_find_64 (v := (-11)) (by decide) ?_
          exact r_iret hX hQ (pr1 h) (pr2 h) dX8_find_66
        · have h := ite_t hc18 h
          refine r_iload_n hX dX8_find_60 0 rfl ?_
          refine r_goto hX (tgt := 66) dX8_find_61 (by decide) ?_
          exact r_iret hX hQ (pr1 h) (pr2 h) dX8_find_66
      · have h := ite_f hc8 h
        refine r_bipush hX dX8_find_28 (v := (-2)) (by decide) ?_
        exact r_iret hX hQ (pr1 h) (pr2 h) dX8_find_30
    · have h := ite_t hc6 h
      refine r_iconst hX dX8_find_16 (v := (-1)) (by decide) ?_
      exact r_iret hX hQ (pr1 h) (pr2 h) dX8_find_17
abbrev rmX8_merge : Room := { frames := 3, cells := 0, slots := 0, locals := 73 }
noncomputable def jX8_merge_L191 (x1 : Int32) (x2 : Int32) (x3 : Int32) (x4 : Int32) (x5 : Int32) (x6 : Int32) (x7 : Int32) : Nat → Mu → Int32 → Option (Mu)
  | 0, _, _ => none
  | n7 + 1, μ, x8 => if x4 ≤ x8 then some μ else if (μ 0 0 21) = 0 then if inb x8 41 = true then if inb x8 41 = true then mst (mu_st μ 27 0 x8.toNatClampNeg (μ 28 0 x8.toNatClampNeg)) (fun μ12 => jX8_merge_L191 x1 x2 x3 x4 x5 x6 x7 n7 μ12 (x8 + 1)) else none else none else some μ
set_option maxHeartbeats 4000000 in
set_option maxRecDepth 100000 in
theorem mX8_merge_L191 {l : Launch} {D : va_G} {cI cH cT : ClassId} {ad : Nat → Nat → Nat} {Z : va_W} {X : Cx} (hX : HX (gR l D cI cH cT ad Z) X cX8_merge 9 RX8 rmX8_merge none) {μ' : Mu} (hQ : HQ (gR l D cI cH cT ad Z) X none μ') (x1 : Int32) (x2 : Int32) (x3 : Int32) (x4 : Int32) (x5 : Int32) (x6 : Int32) (x7 : Int32) : ∀ (n7 : Nat) (μ : Mu) (x8 : Int32), jX8_merge_L191 x1 x2 x3 x4 x5 x6 x7 n7 μ x8 = some μ' → V (gR l D cI cH cT ad Z) X 9 μ 191 [(0, .ref (ad 0 0)), (1, .int x1), (2, .int x2), (3, .int x3), (4, .int x4), (5, .int x5), (6, .int x6), (7, .int x7), (8, .int x8)] [] := by
  intro n7
  induction n7 with
  | zero => intro μ x8 h; exact none_no h
  | succ n7 ih =>
    intro μ x8 h
    rw [jX8_merge_L191] at h
    refine r_iload hX dX8_merge_191 8 rfl ?_
    refine r_iload hX dX8_merge_193 4 rfl ?_
    refine r_icmp_ge hX (tgt := 225) dX8_merge_195 (by decide) (fun hc8 => ?_) (fun hc8 => ?_)
    · have h := ite_t hc8 h
      exact r_vret hX hQ (Option.some.inj h) dX8_merge_225
    · have h := ite_f hc8 h
      refine r_aload_n hX dX8_merge_198 0 rfl ?_
      refine r_get hX 0 0 kyR0 rfl rfl inlX8 21 (by decide) tw3_61 (v := .int (μ 0 0 21)) rfl dX8_merge_199 ?_
      refine r_if_ne hX (tgt := 225) dX8_merge_202 (by decide) (fun hc9 => ?_) (fun hc9 => ?_)
      · have h := ite_f hc9 h
        exact r_vret hX hQ (Option.some.inj h) dX8_merge_225
      · have h := ite_t hc9 h
        refine r_aload_n hX dX8_merge_205 0 rfl ?_
        refine r_get hX 0 0 kyR0 rfl rfl inlX8 27 (by decide) tw3_67 (v := .ref (ad 27 0)) rfl dX8_merge_206 ?_
        refine r_iload hX dX8_merge_209 8 rfl ?_
        refine r_aload_n hX dX8_merge_211 0 rfl ?_
        refine r_get hX 0 0 kyR0 rfl rfl inlX8 28 (by decide) tw3_68 (v := .ref (ad 28 0)) rfl dX8_merge_212 ?_
        refine r_iload hX dX8_merge_215 8 rfl ?_
        obtain ⟨hb10, h⟩ := ite_some h
        refine r_iald hX 28 0 kyR28 rfl (t0 := 0) rfl hb10 dX8_merge_217 ?_
        obtain ⟨hb11, h⟩ := ite_some h
        refine r_iast hX 27 0 kyR27 (fun _ => rfl) (t0 := 0) rfl hb11 dX8_merge_218 (fun μ12 eμ12 => ?_)
        have h := mst_at eμ12 h
        refine r_iinc hX dX8_merge_219 (j := 8) (v := x8 + 1) (lv' := [(8, .int (x8 + 1)), (0, .ref (ad 0 0)), (1, .int x1), (2, .int x2), (3, .int x3), (4, .int x4), (5, .int x5), (6, .int x6), (7, .int x7)]) rfl (congrArg (x8 + ·) (by decide)) (by decide) rfl ?_
        refine r_goto hX (tgt := 191) dX8_merge_222 (by decide) ?_
        refine r_sub [1, 2, 3, 4, 5, 6, 7, 8, 0] rfl ?_
        exact ih μ12 (x8 + 1) h
noncomputable def jX8_merge_L151 (x1 : Int32) (x2 : Int32) (x3 : Int32) (x4 : Int32) (x5 : Int32) : Nat → Mu → Int32 → Int32 → Option (Mu)
  | 0, _, _, _ => none
  | n5 + 1, μ, x6, x7 => if x4 ≤ x6 then jX8_merge_L191 x1 x2 x3 x4 x5 x6 x7 fuel μ x2 else if (μ 0 0 21) = 0 then if inb x6 41 = true then if inb x7 41 = true then mst (mu_st μ 28 0 x7.toNatClampNeg (μ 27 0 x6.toNatClampNeg)) (fun μ16 => jX8_merge_L151 x1 x2 x3 x4 x5 n5 μ16 (x6 + 1) (x7 + 1)) else none else none else jX8_merge_L191 x1 x2 x3 x4 x5 x6 x7 fuel μ x2
set_option maxHeartbeats 4000000 in
set_option maxRecDepth 100000 in
theorem mX8_merge_L151 {l : Launch} {D : va_G} {cI cH cT : ClassId} {ad : Nat → Nat → Nat} {Z : va_W} {X : Cx} (hX : HX (gR l D cI cH cT ad Z) X cX8_merge 9 RX8 rmX8_merge none) {μ' : Mu} (hQ : HQ (gR l D cI cH cT ad Z) X none μ') (x1 : Int32) (x2 : Int32) (x3 : Int32) (x4 : Int32) (x5 : Int32) : ∀ (n5 : Nat) (μ : Mu) (x6 : Int32) (x7 : Int32), jX8_merge_L151 x1 x2 x3 x4 x5 n5 μ x6 x7 = some μ' → V (gR l D cI cH cT ad Z) X 9 μ 151 [(0, .ref (ad 0 0)), (1, .int x1), (2, .int x2), (3, .int x3), (4, .int x4), (5, .int x5), (6, .int x6), (7, .int x7)] [] := by
  intro n5
  induction n5 with
  | zero => intro μ x6 x7 h; exact none_no h
  | succ n5 ih =>
    intro μ x6 x7 h
    rw [jX8_merge_L151] at h
    refine r_iload hX dX8_merge_151 6 rfl ?_
    refine r_iload hX dX8_merge_153 4 rfl ?_
    refine r_icmp_ge hX (tgt := 188) dX8_merge_155 (by decide) (fun hc6 => ?_) (fun hc6 => ?_)
    · have h := ite_t hc6 h
      refine r_iload_n hX dX8_merge_188 2 rfl ?_
      refine r_istore hX dX8_merge_189 (lv' := [(8, .int x2), (0, .ref (ad 0 0)), (1, .int x1), (2, .int x2), (3, .int x3), (4, .int x4), (5, .int x5), (6, .int x6), (7, .int x7)]) (by decide) rfl ?_
      refine r_sub [1, 2, 3, 4, 5, 6, 7, 8, 0] rfl ?_
      exact mX8_merge_L191 hX hQ x1 x2 x3 x4 x5 x6 x7 fuel μ x2 h
    · have h := ite_f hc6 h
      refine r_aload_n hX dX8_merge_158 0 rfl ?_
      refine r_get hX 0 0 kyR0 rfl rfl inlX8 21 (by decide) tw3_61 (v := .int (μ 0 0 21)) rfl dX8_merge_159 ?_
      refine r_if_ne hX (tgt := 188) dX8_merge_162 (by decide) (fun hc13 => ?_) (fun hc13 => ?_)
      · have h := ite_f hc13 h
        refine r_iload_n hX dX8_merge_188 2 rfl ?_
        refine r_istore hX dX8_merge_189 (lv' := [(8, .int x2), (0, .ref (ad 0 0)), (1, .int x1), (2, .int x2), (3, .int x3), (4, .int x4), (5, .int x5), (6, .int x6), (7, .int x7)]) (by decide) rfl ?_
        refine r_sub [1, 2, 3, 4, 5, 6, 7, 8, 0] rfl ?_
        exact mX8_merge_L191 hX hQ x1 x2 x3 x4 x5 x6 x7 fuel μ x2 h
      · have h := ite_t hc13 h
        refine r_aload_n hX dX8_merge_165 0 rfl ?_
        refine r_get hX 0 0 kyR0 rfl rfl inlX8 28 (by decide) tw3_68 (v := .ref (ad 28 0)) rfl dX8_merge_166 ?_
        refine r_iload hX dX8_merge_169 7 rfl ?_
        refine r_aload_n hX dX8_merge_171 0 rfl ?_
        refine r_get hX 0 0 kyR0 rfl rfl inlX8 27 (by decide) tw3_67 (v := .ref (ad 27 0)) rfl dX8_merge_172 ?_
        refine r_iload hX dX8_merge_175 6 rfl ?_
        obtain ⟨hb14, h⟩ := ite_some h
        refine r_iald hX 27 0 kyR27 rfl (t0 := 0) rfl hb14 dX8_merge_177 ?_
        obtain ⟨hb15, h⟩ := ite_some h
        refine r_iast hX 28 0 kyR28 (fun _ => rfl) (t0 := 0) rfl hb15 dX8_merge_178 (fun μ16 eμ16 => ?_)
        have h := mst_at eμ16 h
        refine r_iinc hX dX8_merge_179 (j := 7) (v := x7 + 1) (lv' := [(7, .int (x7 + 1)), (0, .ref (ad 0 0)), (1, .int x1), (2, .int x2), (3, .int x3), (4, .int x4), (5, .int x5), (6, .int x6)]) rfl (congrArg (x7 + ·) (by decide)) (by decide) rfl ?_
        refine r_iinc hX dX8_merge_182 (j := 7) (v := x6 + 1) (lv' := [(6, .int (x6 + 1)), (7, .int (x7 + 1)), (0, .ref (ad 0 0)), (1, .int x1), (2, .int x2), (3, .int x3), (4, .int x4), (5, .int x5)]) rfl (congrArg (x6 + ·) (by decide)) (by decide) rfl ?_
        refine r_goto hX (tgt := 151) dX8_merge_185 (by decide) ?_
        refine r_sub [2, 3, 4, 5, 6, 7, 0, 1] rfl ?_
        exact ih μ16 (x6 + 1) (x7 + 1) h
noncomputable def jX8_merge_L115 (x1 : Int32) (x2 : Int32) (x3 : Int32) (x4 : Int32) (x6 : Int32) : Nat → Mu → Int32 → Int32 → Option (Mu)
  | 0, _, _, _ => none
  | n3 + 1, μ, x5, x7 => if x3 ≤ x5 then jX8_merge_L151 x1 x2 x3 x4 x5 fuel μ x6 x7 else if (μ 0 0 21) = 0 then if inb x5 41 = true then if inb x7 41 = true then mst (mu_st μ 28 0 x7.toNatClampNeg (μ 27 0 x5.toNatClampNeg)) (fun μ20 => jX8_merge_L115 x1 x2 x3 x4 x6 n3 μ20 (x5 + 1) (x7 + 1)) else none else none else jX8_merge_L151 x1 x2 x3 x4 x5 fuel μ x6 x7
set_option maxHeartbeats 4000000 in
set_option maxRecDepth 100000 in
theorem mX8_merge_L115 {l : Launch} {D : va_G} {cI cH cT : ClassId} {ad : Nat → Nat → Nat} {Z : va_W} {X : Cx} (hX : HX (gR l D cI cH cT ad Z) X cX8_merge 9 RX8 rmX8_merge none) {μ' : Mu} (hQ : HQ (gR l D cI cH cT ad Z) X none μ') (x1 : Int32) (x2 : Int32) (x3 : Int32) (x4 : Int32) (x6 : Int32) : ∀ (n3 : Nat) (μ : Mu) (x5 : Int32) (x7 : Int32), jX8_merge_L115 x1 x2 x3 x4 x6 n3 μ x5 x7 = some μ' → V (gR l D cI cH cT ad Z) X 9 μ 115 [(0, .ref (ad 0 0)), (1, .int x1), (2, .int x2), (3, .int x3), (4, .int x4), (5, .int x5), (6, .int x6), (7, .int x7)] [] := by
  intro n3
  induction n3 with
  | zero => intro μ x5 x7 h; exact none_no h
  | succ n3 ih =>
    intro μ x5 x7 h
    rw [jX8_merge_L115] at h
    refine r_iload hX dX8_merge_115 5 rfl ?_
    refine r_iload_n hX dX8_merge_117 3 rfl ?_
    refine r_icmp_ge hX (tgt := 151) dX8_merge_118 (by decide) (fun hc4 => ?_) (fun hc4 => ?_)
    · have h := ite_t hc4 h
      refine r_sub [0, 1, 2, 3, 4, 5, 6, 7] rfl ?_
      exact mX8_merge_L151 hX hQ x1 x2 x3 x4 x5 fuel μ x6 x7 h
    · have h := ite_f hc4 h
      refine r_aload_n hX dX8_merge_121 0 rfl ?_
      refine r_get hX 0 0 kyR0 rfl rfl inlX8 21 (by decide) tw3_61 (v := .int (μ 0 0 21)) rfl dX8_merge_122 ?_
      refine r_if_ne hX (tgt := 151) dX8_merge_125 (by decide) (fun hc17 => ?_) (fun hc17 => ?_)
      · have h := ite_f hc17 h
        refine r_sub [0, 1, 2, 3, 4, 5, 6, 7] rfl ?_
        exact mX8_merge_L151 hX hQ x1 x2 x3 x4 x5 fuel μ x6 x7 h
      · have h := ite_t hc17 h
        refine r_aload_n hX dX8_merge_128 0 rfl ?_
        refine r_get hX 0 0 kyR0 rfl rfl inlX8 28 (by decide) tw3_68 (v := .ref (ad 28 0)) rfl dX8_merge_129 ?_
        refine r_iload hX dX8_merge_132 7 rfl ?_
        refine r_aload_n hX dX8_merge_134 0 rfl ?_
        refine r_get hX 0 0 kyR0 rfl rfl inlX8 27 (by decide) tw3_67 (v := .ref (ad 27 0)) rfl dX8_merge_135 ?_
        refine r_iload hX dX8_merge_138 5 rfl ?_
        obtain ⟨hb18, h⟩ := ite_some h
        refine r_iald hX 27 0 kyR27 rfl (t0 := 0) rfl hb18 dX8_merge_140 ?_
        obtain ⟨hb19, h⟩ := ite_some h
        refine r_iast hX 28 0 kyR28 (fun _ => rfl) (t0 := 0) rfl hb19 dX8_merge_141 (fun μ20 eμ20 => ?_)
        have h := mst_at eμ20 h
        refine r_iinc hX dX8_merge_142 (j := 7) (v := x7 + 1) (lv' := [(7, .int (x7 + 1)), (0, .ref (ad 0 0)), (1, .int x1), (2, .int x2), (3, .int x3), (4, .int x4), (5, .int x5), (6, .int x6)]) rfl (congrArg (x7 + ·) (by decide)) (by decide) rfl ?_
        refine r_iinc hX dX8_merge_145 (j := 6) (v := x5 + 1) (lv' := [(5, .int (x5 + 1)), (7, .int (x7 + 1)), (0, .ref (ad 0 0)), (1, .int x1), (2, .int x2), (3, .int x3), (4, .int x4), (6, .int x6)]) rfl (congrArg (x5 + ·) (by decide)) (by decide) rfl ?_
        refine r_goto hX (tgt := 115) dX8_merge_148 (by decide) ?_
        refine r_sub [2, 3, 4, 5, 6, 0, 7, 1] rfl ?_
        exact ih μ20 (x5 + 1) (x7 + 1) h
noncomputable def jX8_merge_L9 (x1 : Int32) (x2 : Int32) (x3 : Int32) (x4 : Int32) : Nat → Mu → Int32 → Int32 → Int32 → Option (Mu)
  | 0, _, _, _, _ => none
  | n1 + 1, μ, x5, x6, x7 => if x3 ≤ x5 then jX8_merge_L115 x1 x2 x3 x4 x6 fuel μ x5 x7 else if x4 ≤ x6 then jX8_merge_L115 x1 x2 x3 x4 x6 fuel μ x5 x7 else if (μ 0 0 21) = 0 then if inb x6 41 = true then if inb x5 41 = true then (jX8_isAhead μ x1 (μ 27 0 x6.toNatClampNeg) (μ 27 0 x5.toNatClampNeg)).bind (fun q26 => if q26.1 = 0 then if inb x5 41 = true then if inb x7 41 = true then mst (mu_st q26.2 28 0 x7.toNatClampNeg (q26.2 27 0 x5.toNatClampNeg)) (fun μ30 => if q26.1 = 0 then if q26.1 = 0 then jX8_merge_L9 x1 x2 x3 x4 n1 μ30 (x5 + 1) (x6 + 0) (x7 + 1) else jX8_merge_L9 x1 x2 x3 x4 n1 μ30 (x5 + 1) (x6 + 1) (x7 + 1) else if q26.1 = 0 then jX8_merge_L9 x1 x2 x3 x4 n1 μ30 (x5 + 0) (x6 + 0) (x7 + 1) else jX8_merge_L9 x1 x2 x3 x4 n1 μ30 (x5 + 0) (x6 + 1) (x7 + 1)) else none else none else if inb x6 41 = true then if inb x7 41 = true then mst (mu_st q26.2 28 0 x7.toNatClampNeg (q26.2 27 0 x6.toNatClampNeg)) (fun μ36 => if q26.1 = 0 then if q26.1 = 0 then jX8_merge_L9 x1 x2 x3 x4 n1 μ36 (x5 + 1) (x6 + 0) (x7 + 1) else jX8_merge_L9 x1 x2 x3 x4 n1 μ36 (x5 + 1) (x6 + 1) (x7 + 1) else if q26.1 = 0 then jX8_merge_L9 x1 x2 x3 x4 n1 μ36 (x5 + 0) (x6 + 0) (x7 + 1) else jX8_merge_L9 x1 x2 x3 x4 n1 μ36 (x5 + 0) (x6 + 1) (x7 + 1)) else none else none) else none else none else jX8_merge_L115 x1 x2 x3 x4 x6 fuel μ x5 x7
set_option maxHeartbeats 4000000 in
set_option maxRecDepth 100000 in
theorem mX8_merge_L9 {l : Launch} {D : va_G} {cI cH cT : ClassId} {ad : Nat → Nat → Nat} {Z : va_W} {X : Cx} (hX : HX (gR l D cI cH cT ad Z) X cX8_merge 9 RX8 rmX8_merge none) {μ' : Mu} (hQ : HQ (gR l D cI cH cT ad Z) X none μ') (x1 : Int32) (x2 : Int32) (x3 : Int32) (x4 : Int32) : ∀ (n1 : Nat) (μ : Mu) (x5 : Int32) (x6 : Int32) (x7 : Int32), jX8_merge_L9 x1 x2 x3 x4 n1 μ x5 x6 x7 = some μ' → V (gR l D cI cH cT ad Z) X 9 μ 9 [(0, .ref (ad 0 0)), (1, .int x1), (2, .int x2), (3, .int x3), (4, .int x4), (5, .int x5), (6, .int x6), (7, .int x7)] [] := by
  intro n1
  induction n1 with
  | zero => intro μ x5 x6 x7 h; exact none_no h
  | succ n1 ih =>
    intro μ x5 x6 x7 h
    rw [jX8_merge_L9] at h
    refine r_iload hX dX8_merge_9 5 rfl ?_
    refine r_iload_n hX dX8_merge_11 3 rfl ?_
    refine r_icmp_ge hX (tgt := 115) dX8_merge_12 (by decide) (fun hc2 => ?_) (fun hc2 => ?_)
    · have h := ite_t hc2 h
      refine r_sub [0, 1, 2, 3, 4, 5, 6, 7] rfl ?_
      exact mX8_merge_L115 hX hQ x1 x2 x3 x4 x6 fuel μ x5 x7 h
    · have h := ite_f hc2 h
      refine r_iload hX dX8_merge_15 6 rfl ?_
      refine r_iload hX dX8_merge_17 4 rfl ?_
      refine r_icmp_ge hX (tgt := 115) dX8_merge_19 (by decide) (fun hc21 => ?_) (fun hc21 => ?_)
      · have h := ite_t hc21 h
        refine r_sub [0, 1, 2, 3, 4, 5, 6, 7] rfl ?_
        exact mX8_merge_L115 hX hQ x1 x2 x3 x4 x6 fuel μ x5 x7 h
      · have h := ite_f hc21 h
        refine r_aload_n hX dX8_merge_22 0 rfl ?_
        refine r_get hX 0 0 kyR0 rfl rfl inlX8 21 (by decide) tw3_61 (v := .int (μ 0 0 21)) rfl dX8_merge_23 ?_
        refine r_if_ne hX (tgt := 115) dX8_merge_26 (by decide) (fun hc22 => ?_) (fun hc22 => ?_)
        · have h := ite_f hc22 h
          refine r_sub [0, 1, 2, 3, 4, 5, 6, 7] rfl ?_
          exact mX8_merge_L115 hX hQ x1 x2 x3 x4 x6 fuel μ x5 x7 h
        · have h := ite_t hc22 h
          refine r_aload_n hX dX8_merge_29 0 rfl ?_
          refine r_iload_n hX dX8_merge_30 1 rfl ?_
          refine r_aload_n hX dX8_merge_31 0 rfl ?_
          refine r_get hX 0 0 kyR0 rfl rfl inlX8 27 (by decide) tw3_67 (v := .ref (ad 27 0)) rfl dX8_merge_32 ?_
          refine r_iload hX dX8_merge_35 6 rfl ?_
          obtain ⟨hb23, h⟩ := ite_some h
          refine r_iald hX 27 0 kyR27 rfl (t0 := 0) rfl hb23 dX8_merge_37 ?_
          refine r_aload_n hX dX8_merge_38 0 rfl ?_
          refine r_get hX 0 0 kyR0 rfl rfl inlX8 27 (by decide) tw3_67 (v := .ref (ad 27 0)) rfl dX8_merge_39 ?_
          refine r_iload hX dX8_merge_42 5 rfl ?_
          obtain ⟨hb24, h⟩ := ite_some h
          refine r_iald hX 27 0 kyR27 rfl (t0 := 0) rfl hb24 dX8_merge_44 ?_
          obtain ⟨q26, hq25, h⟩ := bind_ex h
          refine r_callV hX 0 0 (As := [.int x1, .int (μ 27 0 x6.toNatClampNeg), .int (μ 27 0 x5.toNatClampNeg)]) (rest := []) (st' := [.int q26.1]) (res := (some (.int q26.1))) (μ' := q26.2) (mX8_isAhead x1 (μ 27 0 x6.toNatClampNeg) (μ 27 0 x5.toNatClampNeg) hq25) ckV_X8_144 ⟨rfl, rfl, by decide, by decide⟩ kyR0 rfl rfl rfl rfl (Nat.le_of_ble_eq_true rfl) dX8_merge_45 rfl ?_
          refine r_istore hX dX8_merge_48 (lv' := [(8, .int q26.1), (0, .ref (ad 0 0)), (1, .int x1), (2, .int x2), (3, .int x3), (4, .int x4), (5, .int x5), (6, .int x6), (7, .int x7)]) (by decide) rfl ?_
          refine r_aload_n hX dX8_merge_50 1 rfl ?_
          refine r_get hX 0 0 kyR0 rfl rfl inlX8 28 (by decide) tw3_68 (v := .ref (ad 28 0)) rfl dX8_merge_51 ?_
          refine r_iload hX dX8_merge_54 8 rfl ?_
          refine r_iload hX dX8_merge_56 0 rfl ?_
          refine r_if_eq hX (tgt := 71) dX8_merge_58 (by decide) (fun hc27 => ?_) (fun hc27 => ?_)
          · have h := ite_t hc27 h
            refine r_aload_n hX dX8_merge_71 1 rfl ?_
            refine r_get hX 0 0 kyR0 rfl rfl inlX8 27 (by decide) tw3_67 (v := .ref (ad 27 0)) rfl dX8_merge_72 ?_
            refine r_iload hX dX8_merge_75 6 rfl ?_
            obtain ⟨hb28, h⟩ := ite_some h
            refine r_iald hX 27 0 kyR27 rfl (t0 := 0) rfl hb28 dX8_merge_77 ?_
            obtain ⟨hb29, h⟩ := ite_some h
            refine r_iast hX 28 0 kyR28 (fun _ => rfl) (t0 := 0) rfl hb29 dX8_merge_78 (fun μ30 eμ30 => ?_)
            have h := mst_at eμ30 h
            refine r_iinc hX dX8_merge_79 (j := 8) (v := x7 + 1) (lv' := [(7, .int (x7 + 1)), (8, .int q26.1), (0, .ref (ad 0 0)), (1, .int x1), (2, .int x2), (3, .int x3), (4, .int x4), (5, .int x5), (6, .int x6)]) rfl (congrArg (x7 + ·) (by decide)) (by decide) rfl ?_
            refine r_iload hX dX8_merge_82 7 rfl ?_
            refine r_iload hX dX8_merge_84 1 rfl ?_
            refine r_if_eq hX (tgt := 93) dX8_merge_86 (by decide) (fun hc31 => ?_) (fun hc31 => ?_)
            · have h := ite_t hc31 h
              refine r_iconst hX dX8_merge_93 (v := 1) (by decide) ?_
              refine r_iadd hX dX8_merge_94 ?_
              refine r_istore hX dX8_merge_95 (lv' := [(5, .int (x5 + 1)), (7, .int (x7 + 1)), (8, .int q26.1), (0, .ref (ad 0 0)), (1, .int x1), (2, .int x2), (3, .int x3), (4, .int x4), (6, .int x6)]) (by decide) rfl ?_
              refine r_iload hX dX8_merge_97 8 rfl ?_
              refine r_iload hX dX8_merge_99 2 rfl ?_
              refine r_if_eq hX (tgt := 108) dX8_merge_101 (by decide) (fun hc32 => ?_) (fun hc32 => ?_)
              · have h := ite_t hc32 h
                refine r_iconst hX dX8_merge_108 (v := 0) (by decide) ?_
                refine r_iadd hX dX8_merge_109 ?_
                refine r_istore hX dX8_merge_110 (lv' := [(6, .int (x6 + 0)), (5, .int (x5 + 1)), (7, .int (x7 + 1)), (8, .int q26.1), (0, .ref (ad 0 0)), (1, .int x1), (2, .int x2), (3, .int x3), (4, .int x4)]) (by decide) rfl ?_
                refine r_goto hX (tgt := 9) dX8_merge_112 (by decide) ?_
                refine r_sub [4, 5, 6, 7, 8, 1, 0, 2] rfl ?_
                exact ih μ30 (x5 + 1) (x6 + 0) (x7 + 1) h
              · have h := ite_f hc32 h
                refine r_iconst hX dX8_merge_104 (v := 1) (by decide) ?_
                refine r_goto hX (tgt := 109) dX8_merge_105 (by decide) ?_
                refine r_iadd hX dX8_merge_109 ?_
                refine r_istore hX dX8_merge_110 (lv' := [(6, .int (x6 + 1)), (5, .int (x5 + 1)), (7, .int (x7 + 1)), (8, .int q26.1), (0, .ref (ad 0 0)), (1, .int x1), (2, .int x2), (3, .int x3), (4, .int x4)]) (by decide) rfl ?_
                refine r_goto hX (tgt := 9) dX8_merge_112 (by decide) ?_
                refine r_sub [4, 5, 6, 7, 8, 1, 0, 2] rfl ?_
                exact ih μ30 (x5 + 1) (x6 + 1) (x7 + 1) h
            · have h := ite_f hc31 h
              refine r_iconst hX dX8_merge_89 (v := 0) (by decide) ?_
              refine r_goto hX (tgt := 94) dX8_merge_90 (by decide) ?_
              refine r_iadd hX dX8_merge_94 ?_
              refine r_istore hX dX8_merge_95 (lv' := [(5, .int (x5 + 0)), (7, .int (x7 + 1)), (8, .int q26.1), (0, .ref (ad 0 0)), (1, .int x1), (2, .int x2), (3, .int x3), (4, .int x4), (6, .int x6)]) (by decide) rfl ?_
              refine r_iload hX dX8_merge_97 8 rfl ?_
              refine r_iload hX dX8_merge_99 2 rfl ?_
              refine r_if_eq hX (tgt := 108) dX8_merge_101 (by decide) (fun hc33 => ?_) (fun hc33 => ?_)
              · have h := ite_t hc33 h
                refine r_iconst hX dX8_merge_108 (v := 0) (by decide) ?_
                refine r_iadd hX dX8_merge_109 ?_
                refine r_istore hX dX8_merge_110 (lv' := [(6, .int (x6 + 0)), (5, .int (x5 + 0)), (7, .int (x7 + 1)), (8, .int q26.1), (0, .ref (ad 0 0)), (1, .int x1), (2, .int x2), (3, .int x3), (4, .int x4)]) (by decide) rfl ?_
                refine r_goto hX (tgt := 9) dX8_merge_112 (by decide) ?_
                refine r_sub [4, 5, 6, 7, 8, 1, 0, 2] rfl ?_
                exact ih μ30 (x5 + 0) (x6 + 0) (x7 + 1) h
              · have h := ite_f hc33 h
                refine r_iconst hX dX8_merge_104 (v := 1) (by decide) ?_
                refine r_goto hX (tgt := 109) dX8_merge_105 (by decide) ?_
                refine r_iadd hX dX8_merge_109 ?_
                refine r_istore hX dX8_merge_110 (lv' := [(6, .int (x6 + 1)), (5, .int (x5 + 0)), (7, .int (x7 + 1)), (8, .int q26.1), (0, .ref (ad 0 0)), (1, .int x1), (2, .int x2), (3, .int x3), (4, .int x4)]) (by decide) rfl ?_
                refine r_goto hX (tgt := 9) dX8_merge_112 (by decide) ?_
                refine r_sub [4, 5, 6, 7, 8, 1, 0, 2] rfl ?_
                exact ih μ30 (x5 + 0) (x6 + 1) (x7 + 1) h
          · have h := ite_f hc27 h
            refine r_aload_n hX dX8_merge_61 1 rfl ?_
            refine r_get hX 0 0 kyR0 rfl rfl inlX8 27 (by decide) tw3_67 (v := .ref (ad 27 0)) rfl dX8_merge_62 ?_
            refine r_iload hX dX8_merge_65 7 rfl ?_
            obtain ⟨hb34, h⟩ := ite_some h
            refine r_iald hX 27 0 kyR27 rfl (t0 := 0) rfl hb34 dX8_merge_67 ?_
            refine r_goto hX (tgt := 78) dX8_merge_68 (by decide) ?_
            obtain ⟨hb35, h⟩ := ite_some h
            refine r_iast hX 28 0 kyR28 (fun _ => rfl) (t0 := 0) rfl hb35 dX8_merge_78 (fun μ36 eμ36 => ?_)
            have h := mst_at eμ36 h
            refine r_iinc hX dX8_merge_79 (j := 8) (v := x7 + 1) (lv' := [(7, .int (x7 + 1)), (8, .int q26.1), (0, .ref (ad 0 0)), (1, .int x1), (2, .int x2), (3, .int x3), (4, .int x4), (5, .int x5), (6, .int x6)]) rfl (congrArg (x7 + ·) (by decide)) (by decide) rfl ?_
            refine r_iload hX dX8_merge_82 7 rfl ?_
            refine r_iload hX dX8_merge_84 1 rfl ?_
            refine r_if_eq hX (tgt := 93) dX8_merge_86 (by decide) (fun hc37 => ?_) (fun hc37 => ?_)
            · have h := ite_t hc37 h
              refine r_iconst hX dX8_merge_93 (v := 1) (by decide) ?_
              refine r_iadd hX dX8_merge_94 ?_
              refine r_istore hX dX8_merge_95 (lv' := [(5, .int (x5 + 1)), (7, .int (x7 + 1)), (8, .int q26.1), (0, .ref (ad 0 0)), (1, .int x1), (2, .int x2), (3, .int x3), (4, .int x4), (6, .int x6)]) (by decide) rfl ?_
              refine r_iload hX dX8_merge_97 8 rfl ?_
              refine r_iload hX dX8_merge_99 2 rfl ?_
              refine r_if_eq hX (tgt := 108) dX8_merge_101 (by decide) (fun hc38 => ?_) (fun hc38 => ?_)
              · have h := ite_t hc38 h
                refine r_iconst hX dX8_merge_108 (v := 0) (by decide) ?_
                refine r_iadd hX dX8_merge_109 ?_
                refine r_istore hX dX8_merge_110 (lv' := [(6, .int (x6 + 0)), (5, .int (x5 + 1)), (7, .int (x7 + 1)), (8, .int q26.1), (0, .ref (ad 0 0)), (1, .int x1), (2, .int x2), (3, .int x3), (4, .int x4)]) (by decide) rfl ?_
                refine r_goto hX (tgt := 9) dX8_merge_112 (by decide) ?_
                refine r_sub [4, 5, 6, 7, 8, 1, 0, 2] rfl ?_
                exact ih μ36 (x5 + 1) (x6 + 0) (x7 + 1) h
              · have h := ite_f hc38 h
                refine r_iconst hX dX8_merge_104 (v := 1) (by decide) ?_
                refine r_goto hX (tgt := 109) dX8_merge_105 (by decide) ?_
                refine r_iadd hX dX8_merge_109 ?_
                refine r_istore hX dX8_merge_110 (lv' := [(6, .int (x6 + 1)), (5, .int (x5 + 1)), (7, .int (x7 + 1)), (8, .int q26.1), (0, .ref (ad 0 0)), (1, .int x1), (2, .int x2), (3, .int x3), (4, .int x4)]) (by decide) rfl ?_
                refine r_goto hX (tgt := 9) dX8_merge_112 (by decide) ?_
                refine r_sub [4, 5, 6, 7, 8, 1, 0, 2] rfl ?_
                exact ih μ36 (x5 + 1) (x6 + 1) (x7 + 1) h
            · have h := ite_f hc37 h
              refine r_iconst hX dX8_merge_89 (v := 0) (by decide) ?_
              refine r_goto hX (tgt := 94) dX8_merge_90 (by decide) ?_
              refine r_iadd hX dX8_merge_94 ?_
              refine r_istore hX dX8_merge_95 (lv' := [(5, .int (x5 + 0)), (7, .int (x7 + 1)), (8, .int q26.1), (0, .ref (ad 0 0)), (1, .int x1), (2, .int x2), (3, .int x3), (4, .int x4), (6, .int x6)]) (by decide) rfl ?_
              refine r_iload hX dX8_merge_97 8 rfl ?_
              refine r_iload hX dX8_merge_99 2 rfl ?_
              refine r_if_eq hX (tgt := 108) dX8_merge_101 (by decide) (fun hc39 => ?_) (fun hc39 => ?_)
              · have h := ite_t hc39 h
                refine r_iconst hX dX8_merge_108 (v := 0) (by decide) ?_
                refine r_iadd hX dX8_merge_109 ?_
                refine r_istore hX dX8_merge_110 (lv' := [(6, .int (x6 + 0)), (5, .int (x5 + 0)), (7, .int (x7 + 1)), (8, .int q26.1), (0, .ref (ad 0 0)), (1, .int x1), (2, .int x2), (3, .int x3), (4, .int x4)]) (by decide) rfl ?_
                refine r_goto hX (tgt := 9) dX8_merge_112 (by decide) ?_
                refine r_sub [4, 5, 6, 7, 8, 1, 0, 2] rfl ?_
                exact ih μ36 (x5 + 0) (x6 + 0) (x7 + 1) h
              · have h := ite_f hc39 h
                refine r_iconst hX dX8_merge_104 (v := 1) (by decide) ?_
                refine r_goto hX (tgt := 109) dX8_merge_105 (by decide) ?_
                refine r_iadd hX dX8_merge_109 ?_
                refine r_istore hX dX8_merge_110 (lv' := [(6, .int (x6 + 1)), (5, .int (x5 + 0)), (7, .int (x7 + 1)), (8, .int q26.1), (0, .ref (ad 0 0)), (1, .int x1), (2, .int x2), (3, .int x3), (4, .int x4)]) (by decide) rfl ?_
                refine r_goto hX (tgt := 9) dX8_merge_112 (by decide) ?_
                refine r_sub [4, 5, 6, 7, 8, 1, 0, 2] rfl ?_
                exact ih μ36 (x5 + 0) (x6 + 1) (x7 + 1) h
noncomputable def jX8_merge (μ : Mu) (a1 : Int32) (a2 : Int32) (a3 : Int32) (a4 : Int32) : Option (Mu) := jX8_merge_L9 a1 a2 a3 a4 fuel μ a2 a3 a2
set_option maxHeartbeats 4000000 in
set_option maxRecDepth 100000 in
theorem mX8_merge {l : Launch} {D : va_G} {cI cH cT : ClassId} {ad : Nat → Nat → Nat} {Z : va_W} {μ : Mu} {μ' : Mu} (a1 : Int32) (a2 : Int32) (a3 : Int32) (a4 : Int32) (h : jX8_merge μ a1 a2 a3 a4 = some μ') : CT (gR l D cI cH cT ad Z) yX8_merge (.code yX8_merge cX8_merge 9 none :: wsL_law) rmX8_merge [.ref (ad 0 0), .int a1, .int a2, .int a3, .int a4] μ none μ' := by
  refine ct_of (own := RX8) (by decide) ⟨rfl, rfl⟩ (Nat.le_of_ble_eq_true rfl) rfl (fun X hX hQ => ?_)
  have hX : HX (gR l D cI cH cT ad Z) X cX8_merge 9 RX8 rmX8_merge none := hX
  show V (gR l D cI cH cT ad Z) X 9 μ 0 [(0, .ref (ad 0 0)), (1, .int a1), (2, .int a2), (3, .int a3), (4, .int a4)] []
  unfold jX8_merge at h
  refine r_iload_n hX dX8_merge_0 2 rfl ?_
  refine r_istore hX dX8_merge_1 (lv' := [(5, .int a2), (0, .ref (ad 0 0)), (1, .int a1), (2, .int a2), (3, .int a3), (4, .int a4)]) (by decide) rfl ?_
  refine r_iload_n hX dX8_merge_3 4 rfl ?_
  refine r_istore hX dX8_merge_4 (lv' := [(6, .int a3), (5, .int a2), (0, .ref (ad 0 0)), (1, .int a1), (2, .int a2), (3, .int a3), (4, .int a4)]) (by decide) rfl ?_
  refine r_iload_n hX dX8_merge_6 4 rfl ?_
  refine r_istore hX dX8_merge_7 (lv' := [(7, .int a2), (6, .int a3), (5, .int a2), (0, .ref (ad 0 0)), (1, .int a1), (2, .int a2), (3, .int a3), (4, .int a4)]) (by decide) rfl ?_
  refine r_sub [3, 4, 5, 6, 7, 2, 1, 0] rfl ?_
  exact mX8_merge_L9 hX hQ a1 a2 a3 a4 fuel μ a2 a3 a2 h
