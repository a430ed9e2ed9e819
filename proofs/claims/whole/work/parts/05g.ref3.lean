abbrev rmX8_sort : Room := { frames := 4, cells := 0, slots := 0, locals := 101 }
noncomputable def jX8_sort_L67 (x1 : Int32) (x2 : Int32) (x3 : Int32) (kf : Mu → Int32 → Option (Int32 × Mu)) : Nat → Mu → Int32 → Option (Int32 × Mu)
  | 0, _, _ => none
  | n23 + 1, μ, x4 => if (μ 0 0 26) ≤ (x4 + x3) then kf μ x4 else if (μ 0 0 21) = 0 then if (μ 0 0 26) ≤ (x4 + (2 * x3)) then (jX8_merge μ x2 x4 (x4 + x3) (μ 0 0 26)).bind (fun μ28 => jX8_sort_L67 x1 x2 x3 kf n23 μ28 (x4 + (2 * x3))) else (jX8_merge μ x2 x4 (x4 + x3) (x4 + (2 * x3))).bind (fun μ30 => jX8_sort_L67 x1 x2 x3 kf n23 μ30 (x4 + (2 * x3))) else kf μ x4
set_option maxHeartbeats 4000000 in
set_option maxRecDepth 100000 in
theorem mX8_sort_L67 {l : Launch} {D : va_G} {cI cH cT : ClassId} {ad : Nat → Nat → Nat} {Z : va_W} {X : Cx} (hX : HX (gR l D cI cH cT ad Z) X cX8_sort 5 RX8 rmX8_sort (some .int)) {r : Int32} {μ' : Mu} (hQ : HQ (gR l D cI cH cT ad Z) X (some (.int r)) μ') (x1 : Int32) (x2 : Int32) (x3 : Int32) (kf : Mu → Int32 → Option (Int32 × Mu)) (hkf : ∀ (μ : Mu) (x4 : Int32), kf μ x4 = some (r, μ') → V (gR l D cI cH cT ad Z) X 5 μ 133 [(0, .ref (ad 0 0)), (1, .int x1), (2, .int x2), (3, .int x3), (4, .int x4)] []) : ∀ (n23 : Nat) (μ : Mu) (x4 : Int32), jX8_sort_L67 x1 x2 x3 kf n23 μ x4 = some (r, μ') → V (gR l D cI cH cT ad Z) X 5 μ 67 [(0, .ref (ad 0 0)), (1, .int x1), (2, .int x2), (3, .int x3), (4, .int x4)] [] := by
  intro n23
  induction n23 with
  | zero => intro μ x4 h; exact none_no h
  | succ n23 ih =>
    intro μ x4 h
    rw [jX8_sort_L67] at h
    refine r_iload hX dX8_sort_67 4 rfl ?_
    refine r_iload_n hX dX8_sort_69 3 rfl ?_
    refine r_iadd hX dX8_sort_70 ?_
    refine r_aload_n hX dX8_sort_71 0 rfl ?_
    refine r_get hX 0 0 kyR0 rfl rfl inlX8 26 (by decide) tw3_66 (v := .int (μ 0 0 26)) rfl dX8_sort_72 ?_
    refine r_icmp_ge hX (tgt := 133) dX8_sort_75 (by decide) (fun hc24 => ?_) (fun hc24 => ?_)
    · have h := ite_t hc24 h
      refine r_sub [0, 1, 2, 3, 4] rfl ?_
      exact hkf μ x4 h
    · have h := ite_f hc24 h
      refine r_aload_n hX dX8_sort_78 0 rfl ?_
      refine r_get hX 0 0 kyR0 rfl rfl inlX8 21 (by decide) tw3_61 (v := .int (μ 0 0 21)) rfl dX8_sort_79 ?_
      refine r_if_ne hX (tgt := 133) dX8_sort_82 (by decide) (fun hc25 => ?_) (fun hc25 => ?_)
      · have h := ite_f hc25 h
        refine r_sub [0, 1, 2, 3, 4] rfl ?_
        exact hkf μ x4 h
      · have h := ite_t hc25 h
        refine r_aload_n hX dX8_sort_85 0 rfl ?_
        refine r_iload_n hX dX8_sort_86 2 rfl ?_
        refine r_iload hX dX8_sort_87 4 rfl ?_
        refine r_iload hX dX8_sort_89 4 rfl ?_
        refine r_iload_n hX dX8_sort_91 3 rfl ?_
        refine r_iadd hX dX8_sort_92 ?_
        refine r_iload hX dX8_sort_93 4 rfl ?_
        refine r_iconst hX dX8_sort_95 (v := 2) (by decide) ?_
        refine r_iload_n hX dX8_sort_96 3 rfl ?_
        refine r_imul hX dX8_sort_97 ?_
        refine r_iadd hX dX8_sort_98 ?_
        refine r_aload_n hX dX8_sort_99 0 rfl ?_
        refine r_get hX 0 0 kyR0 rfl rfl inlX8 26 (by decide) tw3_66 (v := .int (μ 0 0 26)) rfl dX8_sort_100 ?_
        refine r_icmp_ge hX (tgt := 115) dX8_sort_103 (by decide) (fun hc26 => ?_) (fun hc26 => ?_)
        · have h := ite_t hc26 h
          refine r_aload_n hX dX8_sort_115 0 rfl ?_
          refine r_get hX 0 0 kyR0 rfl rfl inlX8 26 (by decide) tw3_66 (v := .int (μ 0 0 26)) rfl dX8_sort_116 ?_
          obtain ⟨μ28, hq27, h⟩ := bind_ex h
          refine r_callV hX 0 0 (As := [.int x2, .int x4, .int (x4 + x3), .int (μ 0 0 26)]) (rest := []) (st' := []) (res := none) (μ' := μ28) (mX8_merge x2 x4 (x4 + x3) (μ 0 0 26) hq27) ckV_X8_188 ⟨rfl, rfl, by decide, by decide⟩ kyR0 rfl rfl rfl rfl (Nat.le_of_ble_eq_true rfl) dX8_sort_119 rfl ?_
          refine r_iload hX dX8_sort_122 4 rfl ?_
          refine r_iconst hX dX8_sort_124 (v := 2) (by decide) ?_
          refine r_iload_n hX dX8_sort_125 3 rfl ?_
          refine r_imul hX dX8_sort_126 ?_
          refine r_iadd hX dX8_sort_127 ?_
          refine r_istore hX dX8_sort_128 (lv' := [(4, .int (x4 + (2 * x3))), (0, .ref (ad 0 0)), (1, .int x1), (2, .int x2), (3, .int x3)]) (by decide) rfl ?_
          refine r_goto hX (tgt := 67) dX8_sort_130 (by decide) ?_
          refine r_sub [1, 2, 3, 4, 0] rfl ?_
          exact ih μ28 (x4 + (2 * x3)) h
        · have h := ite_f hc26 h
          refine r_iload hX dX8_sort_106 4 rfl ?_
          refine r_iconst hX dX8_sort_108 (v := 2) (by decide) ?_
          refine r_iload_n hX dX8_sort_109 3 rfl ?_
          refine r_imul hX dX8_sort_110 ?_
          refine r_iadd hX dX8_sort_111 ?_
          refine r_goto hX (tgt := 119) dX8_sort_112 (by decide) ?_
          obtain ⟨μ30, hq29, h⟩ := bind_ex h
          refine r_callV hX 0 0 (As := [.int x2, .int x4, .int (x4 + x3), .int (x4 + (2 * x3))]) (rest := []) (st' := []) (res := none) (μ' := μ30) (mX8_merge x2 x4 (x4 + x3) (x4 + (2 * x3)) hq29) ckV_X8_188 ⟨rfl, rfl, by decide, by decide⟩ kyR0 rfl rfl rfl rfl (Nat.le_of_ble_eq_true rfl) dX8_sort_119 rfl ?_
          refine r_iload hX dX8_sort_122 4 rfl ?_
          refine r_iconst hX dX8_sort_124 (v := 2) (by decide) ?_
          refine r_iload_n hX dX8_sort_125 3 rfl ?_
          refine r_imul hX dX8_sort_126 ?_
          refine r_iadd hX dX8_sort_127 ?_
          refine r_istore hX dX8_sort_128 (lv' := [(4, .int (x4 + (2 * x3))), (0, .ref (ad 0 0)), (1, .int x1), (2, .int x2), (3, .int x3)]) (by decide) rfl ?_
          refine r_goto hX (tgt := 67) dX8_sort_130 (by decide) ?_
          refine r_sub [1, 2, 3, 4, 0] rfl ?_
          exact ih μ30 (x4 + (2 * x3)) h
noncomputable def jX8_sort_L49 (x1 : Int32) (x2 : Int32) : Nat → Mu → Int32 → Option (Int32 × Mu)
  | 0, _, _ => none
  | n16 + 1, μ, x3 => if (μ 0 0 26) ≤ x3 then (jX8_ends μ x1).bind (fun q19 => some (q19.1, q19.2)) else if (μ 0 0 21) = 0 then jX8_sort_L67 x1 x2 x3 (fun μ32 z31 => jX8_sort_L49 x1 x2 n16 μ32 (x3 * 2)) fuel μ 0 else (jX8_ends μ x1).bind (fun q22 => some (q22.1, q22.2))
set_option maxHeartbeats 4000000 in
set_option maxRecDepth 100000 in
theorem mX8_sort_L49 {l : Launch} {D : va_G} {cI cH cT : ClassId} {ad : Nat → Nat → Nat} {Z : va_W} {X : Cx} (hX : HX (gR l D cI cH cT ad Z) X cX8_sort 5 RX8 rmX8_sort (some .int)) {r : Int32} {μ' : Mu} (hQ : HQ (gR l D cI cH cT ad Z) X (some (.int r)) μ') (x1 : Int32) (x2 : Int32) : ∀ (n16 : Nat) (μ : Mu) (x3 : Int32), jX8_sort_L49 x1 x2 n16 μ x3 = some (r, μ') → V (gR l D cI cH cT ad Z) X 5 μ 49 [(0, .ref (ad 0 0)), (1, .int x1), (2, .int x2), (3, .int x3)] [] := by
  intro n16
  induction n16 with
  | zero => intro μ x3 h; exact none_no h
  | succ n16 ih =>
    intro μ x3 h
    rw [jX8_sort_L49] at h
    refine r_iload_n hX dX8_sort_49 3 rfl ?_
    refine r_aload_n hX dX8_sort_50 0 rfl ?_
    refine r_get hX 0 0 kyR0 rfl rfl inlX8 26 (by decide) tw3_66 (v := .int (μ 0 0 26)) rfl dX8_sort_51 ?_
    refine r_icmp_ge hX (tgt := 140) dX8_sort_54 (by decide) (fun hc17 => ?_) (fun hc17 => ?_)
    · have h := ite_t hc17 h
      refine r_aload_n hX dX8_sort_140 0 rfl ?_
      refine r_iload_n hX dX8_sort_141 1 rfl ?_
      obtain ⟨q19, hq18, h⟩ := bind_ex h
      refine r_callV hX 0 0 (As := [.int x1]) (rest := []) (st' := [.int q19.1]) (res := (some (.int q19.1))) (μ' := q19.2) (mX8_ends x1 hq18) ckV_X8_175 ⟨rfl, rfl, by decide, by decide⟩ kyR0 rfl rfl rfl rfl (Nat.le_of_ble_eq_true rfl) dX8_sort_142 rfl ?_
      exact r_iret hX hQ (pr1 h) (pr2 h) dX8_sort_145
    · have h := ite_f hc17 h
      refine r_aload_n hX dX8_sort_57 0 rfl ?_
      refine r_get hX 0 0 kyR0 rfl rfl inlX8 21 (by decide) tw3_61 (v := .int (μ 0 0 21)) rfl dX8_sort_58 ?_
      refine r_if_ne hX (tgt := 140) dX8_sort_61 (by decide) (fun hc20 => ?_) (fun hc20 => ?_)
      · have h := ite_f hc20 h
        refine r_aload_n hX dX8_sort_140 0 rfl ?_
        refine r_iload_n hX dX8_sort_141 1 rfl ?_
        obtain ⟨q22, hq21, h⟩ := bind_ex h
        refine r_callV hX 0 0 (As := [.int x1]) (rest := []) (st' := [.int q22.1]) (res := (some (.int q22.1))) (μ' := q22.2) (mX8_ends x1 hq21) ckV_X8_175 ⟨rfl, rfl, by decide, by decide⟩ kyR0 rfl rfl rfl rfl (Nat.le_of_ble_eq_true rfl) dX8_sort_142 rfl ?_
        exact r_iret hX hQ (pr1 h) (pr2 h) dX8_sort_145
      · have h := ite_t hc20 h
        refine r_iconst hX dX8_sort_64 (v := 0) (by decide) ?_
        refine r_istore hX dX8_sort_65 (lv' := [(4, .int 0), (0, .ref (ad 0 0)), (1, .int x1), (2, .int x2), (3, .int x3)]) (by decide) rfl ?_
        refine r_sub [1, 2, 3, 4, 0] rfl ?_
        refine mX8_sort_L67 hX hQ x1 x2 x3 (fun μ32 z31 => jX8_sort_L49 x1 x2 n16 μ32 (x3 * 2)) (fun μ32 z31 h => ?_) fuel μ 0 h
        refine r_iload_n hX dX8_sort_133 3 rfl ?_
        refine r_iconst hX dX8_sort_134 (v := 2) (by decide) ?_
        refine r_imul hX dX8_sort_135 ?_
        refine r_istore_n hX dX8_sort_136 (lv' := [(3, .int (x3 * 2)), (0, .ref (ad 0 0)), (1, .int x1), (2, .int x2), (4, .int z31)]) (by decide) rfl ?_
        refine r_goto hX (tgt := 49) dX8_sort_137 (by decide) ?_
        refine r_sub [1, 2, 3, 0] rfl ?_
        exact ih μ32 (x3 * 2) h
noncomputable def jX8_sort (μ : Mu) (a1 : Int32) (a2 : Int32) : Option (Int32 × Mu) := (jX8_isTray μ a1).bind (fun r2 => if r2 = 0 then some ((-1), μ) else (jX8_isHook μ a2).bind (fun r5 => if r5 = 0 then some ((-1), μ) else if inb a1 6 = true then if (μ 15 0 a1.toNatClampNeg) = 0 then (jX8_compares μ a2).bind (fun r10 => if r10 = 0 then some ((-2), μ) else (jX8_beginAct μ).bind (fun μ13 => (jX8_load μ13 a1).bind (fun μ15 => jX8_sort_L49 a1 a2 fuel μ15 1))) else some ((-2), μ) else none))
set_option maxHeartbeats 4000000 in
set_option maxRecDepth 100000 in
theorem mX8_sort {l : Launch} {D : va_G} {cI cH cT : ClassId} {ad : Nat → Nat → Nat} {Z : va_W} {μ : Mu} {r : Int32} {μ' : Mu} (a1 : Int32) (a2 : Int32) (h : jX8_sort μ a1 a2 = some (r, μ')) : CT (gR l D cI cH cT ad Z) yX8_sort (.code yX8_sort cX8_sort 5 (some .int) :: wsL_law) rmX8_sort [.ref (ad 0 0), .int a1, .int a2] μ (some (.int r)) μ' := by
  refine ct_of (own := RX8) (by decide) ⟨rfl, rfl⟩ (Nat.le_of_ble_eq_true rfl) rfl (fun X hX hQ => ?_)
  have hX : HX (gR l D cI cH cT ad Z) X cX8_sort 5 RX8 rmX8_sort (some .int) := hX
  show V (gR l D cI cH cT ad Z) X 5 μ 0 [(0, .ref (ad 0 0)), (1, .int a1), (2, .int a2)] []
  unfold jX8_sort at h
  refine r_aload_n hX dX8_sort_0 0 rfl ?_
  refine r_iload_n hX dX8_sort_1 1 rfl ?_
  obtain ⟨r2, hq1, h⟩ := bind_ex h
  refine r_callV hX 0 0 (As := [.int a1]) (rest := []) (st' := [.int r2]) (res := (some (.int r2))) (μ' := μ) (mX8_isTray a1 hq1) ckV_X8_162 ⟨rfl, rfl, by decide, by decide⟩ kyR0 rfl rfl rfl rfl (Nat.le_of_ble_eq_true rfl) dX8_sort_2 rfl ?_
  refine r_if_eq hX (tgt := 16) dX8_sort_5 (by decide) (fun hc3 => ?_) (fun hc3 => ?_)
  · have h := ite_t hc3 h
    refine r_iconst hX dX8_sort_16 (v := (-1)) (by decide) ?_
    exact r_iret hX hQ (pr1 h) (pr2 h) dX8_sort_17
  · have h := ite_f hc3 h
    refine r_aload_n hX dX8_sort_8 0 rfl ?_
    refine r_iload_n hX dX8_sort_9 2 rfl ?_
    obtain ⟨r5, hq4, h⟩ := bind_ex h
    refine r_callV hX 0 0 (As := [.int a2]) (rest := []) (st' := [.int r5]) (res := (some (.int r5))) (μ' := μ) (mX8_isHook a2 hq4) ckV_X8_91 ⟨rfl, rfl, by decide, by decide⟩ kyR0 rfl rfl rfl rfl (Nat.le_of_ble_eq_true rfl) dX8_sort_10 rfl ?_
    refine r_if_ne hX (tgt := 18) dX8_sort_13 (by decide) (fun hc6 => ?_) (fun hc6 => ?_)
    · have h := ite_f hc6 h
      refine r_aload_n hX dX8_sort_18 0 rfl ?_
      refine r_get hX 0 0 kyR0 rfl rfl inlX8 15 (by decide) tw3_55 (v := .ref (ad 15 0)) rfl dX8_sort_19 ?_
      refine r_iload_n hX dX8_sort_22 1 rfl ?_
      obtain ⟨hb7, h⟩ := ite_some h
      refine r_iald hX 15 0 kyR15 rfl (t0 := 0) rfl hb7 dX8_sort_23 ?_
      refine r_if_ne hX (tgt := 35) dX8_sort_24 (by decide) (fun hc8 => ?_) (fun hc8 => ?_)
      · have h := ite_f hc8 h
        refine r_bipush hX dX8_sort_35 (v := (-2)) (by decide) ?_
        exact r_iret hX hQ (pr1 h) (pr2 h) dX8_sort_37
      · have h := ite_t hc8 h
        refine r_aload_n hX dX8_sort_27 0 rfl ?_
        refine r_iload_n hX dX8_sort_28 2 rfl ?_
        obtain ⟨r10, hq9, h⟩ := bind_ex h
        refine r_callV hX 0 0 (As := [.int a2]) (rest := []) (st' := [.int r10]) (res := (some (.int r10))) (μ' := μ) (mX8_compares a2 hq9) ckV_X8_126 ⟨rfl, rfl, by decide, by decide⟩ kyR0 rfl rfl rfl rfl (Nat.le_of_ble_eq_true rfl) dX8_sort_29 rfl ?_
        refine r_if_ne hX (tgt := 38) dX8_sort_32 (by decide) (fun hc11 => ?_) (fun hc11 => ?_)
        · have h := ite_f hc11 h
          refine r_aload_n hX dX8_sort_38 0 rfl ?_
          obtain ⟨μ13, hq12, h⟩ := bind_ex h
          refine r_callV hX 0 0 (As := []) (rest := []) (st' := []) (res := none) (μ' := μ13) (mX8_beginAct  hq12) ckV_X8_165 ⟨rfl, rfl, by decide, by decide⟩ kyR0 rfl rfl rfl rfl (Nat.le_of_ble_eq_true rfl) dX8_sort_39 rfl ?_
          refine r_aload_n hX dX8_sort_42 0 rfl ?_
          refine r_iload_n hX dX8_sort_43 1 rfl ?_
          obtain ⟨μ15, hq14, h⟩ := bind_ex h
          refine r_callV hX 0 0 (As := [.int a1]) (rest := []) (st' := []) (res := none) (μ' := μ15) (mX8_load a1 hq14) ckV_X8_168 ⟨rfl, rfl, by decide, by decide⟩ kyR0 rfl rfl rfl rfl (Nat.le_of_ble_eq_true rfl) dX8_sort_44 rfl ?_
          refine r_iconst hX dX8_sort_47 (v := 1) (by decide) ?_
          refine r_istore_n hX dX8_sort_48 (lv' := [(3, .int 1), (0, .ref (ad 0 0)), (1, .int a1), (2, .int a2)]) (by decide) rfl ?_
          refine r_sub [1, 2, 3, 0] rfl ?_
          exact mX8_sort_L49 hX hQ a1 a2 fuel μ15 1 h
        · have h := ite_t hc11 h
          refine r_bipush hX dX8_sort_35 (v := (-2)) (by decide) ?_
          exact r_iret hX hQ (pr1 h) (pr2 h) dX8_sort_37
    · have h := ite_t hc6 h
      refine r_iconst hX dX8_sort_16 (v := (-1)) (by decide) ?_
      exact r_iret hX hQ (pr1 h) (pr2 h) dX8_sort_17
abbrev rmX8_isKept : Room := { frames := 2, cells := 0, slots := 0, locals := 48 }
noncomputable def jX8_isKept (μ : Mu) (a1 : Int32) (a2 : Int32) : Option (Int32 × Mu) := (jX8_begins μ a1).bind (fun q2 => if inb a2 120 = true then if inb a1 8 = true then if (q2.2 1 0 a2.toNatClampNeg) < (q2.2 5 0 a1.toNatClampNeg) then if 0 = q2.1 then some (0, q2.2) else some (1, q2.2) else if 1 = q2.1 then some (0, q2.2) else some (1, q2.2) else none else none)
set_option maxHeartbeats 4000000 in
set_option maxRecDepth 100000 in
theorem mX8_isKept {l : Launch} {D : va_G} {cI cH cT : ClassId} {ad : Nat → Nat → Nat} {Z : va_W} {μ : Mu} {r : Int32} {μ' : Mu} (a1 : Int32) (a2 : Int32) (h : jX8_isKept μ a1 a2 = some (r, μ')) : CT (gR l D cI cH cT ad Z) yX8_isKept (.code yX8_isKept cX8_isKept 4 (some .boolean) :: wsL_law) rmX8_isKept [.ref (ad 0 0), .int a1, .int a2] μ (some (.int r)) μ' := by
  refine ct_of (own := RX8) (by decide) ⟨rfl, rfl⟩ (Nat.le_of_ble_eq_true rfl) rfl (fun X hX hQ => ?_)
  have hX : HX (gR l D cI cH cT ad Z) X cX8_isKept 4 RX8 rmX8_isKept (some .boolean) := hX
  show V (gR l D cI cH cT ad Z) X 4 μ 0 [(0, .ref (ad 0 0)), (1, .int a1), (2, .int a2)] []
  unfold jX8_isKept at h
  refine r_aload_n hX dX8_isKept_0 0 rfl ?_
  refine r_iload_n hX dX8_isKept_1 1 rfl ?_
  obtain ⟨q2, hq1, h⟩ := bind_ex h
  refine r_callV hX 0 0 (As := [.int a1]) (rest := []) (st' := [.int q2.1]) (res := (some (.int q2.1))) (μ' := q2.2) (mX8_begins a1 hq1) ckV_X8_119 ⟨rfl, rfl, by decide, by decide⟩ kyR0 rfl rfl rfl rfl (Nat.le_of_ble_eq_true rfl) dX8_isKept_2 rfl ?_
  refine r_istore_n hX dX8_isKept_5 (lv' := [(3, .int q2.1), (0, .ref (ad 0 0)), (1, .int a1), (2, .int a2)]) (by decide) rfl ?_
  refine r_aload_n hX dX8_isKept_6 1 rfl ?_
  refine r_get hX 0 0 kyR0 rfl rfl inlX8 1 (by decide) tw3_41 (v := .ref (ad 1 0)) rfl dX8_isKept_7 ?_
  refine r_iload_n hX dX8_isKept_10 3 rfl ?_
  obtain ⟨hb3, h⟩ := ite_some h
  refine r_iald hX 1 0 kyR1 rfl (t0 := 0) rfl hb3 dX8_isKept_11 ?_
  refine r_aload_n hX dX8_isKept_12 1 rfl ?_
  refine r_get hX 0 0 kyR0 rfl rfl inlX8 5 (by decide) tw3_45 (v := .ref (ad 5 0)) rfl dX8_isKept_13 ?_
  refine r_iload_n hX dX8_isKept_16 2 rfl ?_
  obtain ⟨hb4, h⟩ := ite_some h
  refine r_iald hX 5 0 kyR5 rfl (t0 := 0) rfl hb4 dX8_isKept_17 ?_
  refine r_icmp_lt hX (tgt := 25) dX8_isKept_18 (by decide) (fun hc5 => ?_) (fun hc5 => ?_)
  · have h := ite_t hc5 h
    refine r_iconst hX dX8_isKept_25 (v := 0) (by decide) ?_
    refine r_iload_n hX dX8_isKept_26 0 rfl ?_
    refine r_icmp_eq hX (tgt := 34) dX8_isKept_27 (by decide) (fun hc6 => ?_) (fun hc6 => ?_)
    · have h := ite_t hc6 h
      refine r_iconst hX dX8_isKept_34 (v := 0) (by decide) ?_
      exact r_zret hX (Or.inl rfl) hQ (pr1 h) (pr2 h) dX8_isKept_35
    · have h := ite_f hc6 h
      refine r_iconst hX dX8_isKept_30 (v := 1) (by decide) ?_
      refine r_goto hX (tgt := 35) dX8_isKept_31 (by decide) ?_
      exact r_zret hX (Or.inr rfl) hQ (pr1 h) (pr2 h) dX8_isKept_35
  · have h := ite_f hc5 h
    refine r_iconst hX dX8_isKept_21 (v := 1) (by decide) ?_
    refine r_goto hX (tgt := 26) dX8_isKept_22 (by decide) ?_
    refine r_iload_n hX dX8_isKept_26 0 rfl ?_
    refine r_icmp_eq hX (tgt := 34) dX8_isKept_27 (by decide) (fun hc7 => ?_) (fun hc7 => ?_)
    · have h := ite_t hc7 h
      refine r_iconst hX dX8_isKept_34 (v := 0) (by decide) ?_
      exact r_zret hX (Or.inl rfl) hQ (pr1 h) (pr2 h) dX8_isKept_35
    · have h := ite_f hc7 h
      refine r_iconst hX dX8_isKept_30 (v := 1) (by decide) ?_
      refine r_goto hX (tgt := 35) dX8_isKept_31 (by decide) ?_
      exact r_zret hX (Or.inr rfl) hQ (pr1 h) (pr2 h) dX8_isKept_35
abbrev rmX8_filter : Room := { frames := 5, cells := 0, slots := 0, locals := 122 }
noncomputable def jX8_filter_L236 (x1 : Int32) (x2 : Int32) (x3 : Int32) (x4 : Int32) : Nat → Mu → Int32 → Option (Int32 × Mu)
  | 0, _, _ => none
  | n20 + 1, μ, x5 => if x4 ≤ x5 then (jX8_give μ x1).bind (fun μ23 => if (μ23 0 0 21) = 0 then mst (mu_st μ23 0 0 20 ((μ23 0 0 20) + 0)) (fun μ25 => if (μ25 0 0 21) = 0 then some (0, μ25) else some (2, μ25)) else mst (mu_st μ23 0 0 20 ((μ23 0 0 20) + 1)) (fun μ27 => if (μ27 0 0 21) = 0 then some (0, μ27) else some (2, μ27))) else if inb x5 41 = true then if inb x5 41 = true then mst (mu_st μ 27 0 x5.toNatClampNeg (μ 28 0 x5.toNatClampNeg)) (fun μ31 => jX8_filter_L236 x1 x2 x3 x4 n20 μ31 (x5 + 1)) else none else none
set_option maxHeartbeats 4000000 in
set_option maxRecDepth 100000 in
theorem mX8_filter_L236 {l : Launch} {D : va_G} {cI cH cT : ClassId} {ad : Nat → Nat → Nat} {Z : va_W} {X : Cx} (hX : HX (gR l D cI cH cT ad Z) X cX8_filter 7 RX8 rmX8_filter (some .int)) {r : Int32} {μ' : Mu} (hQ : HQ (gR l D cI cH cT ad Z) X (some (.int r)) μ') (x1 : Int32) (x2 : Int32) (x3 : Int32) (x4 : Int32) : ∀ (n20 : Nat) (μ : Mu) (x5 : Int32), jX8_filter_L236 x1 x2 x3 x4 n20 μ x5 = some (r, μ') → V (gR l D cI cH cT ad Z) X 7 μ 236 [(0, .ref (ad 0 0)), (1, .int x1), (2, .int x2), (3, .int x3), (4, .int x4), (5, .int x5)] [] := by
  intro n20
  induction n20 with
  | zero => intro μ x5 h; exact none_no h
  | succ n20 ih =>
    intro μ x5 h
    rw [jX8_filter_L236] at h
    refine r_iload hX dX8_filter_236 5 rfl ?_
    refine r_iload hX dX8_filter_238 4 rfl ?_
    refine r_icmp_ge hX (tgt := 263) dX8_filter_240 (by decide) (fun hc21 => ?_) (fun hc21 => ?_)
    · have h := ite_t hc21 h
      refine r_aload_n hX dX8_filter_263 0 rfl ?_
      refine r_iload_n hX dX8_filter_264 1 rfl ?_
      obtain ⟨μ23, hq22, h⟩ := bind_ex h
      refine r_callV hX 0 0 (As := [.int x1]) (rest := []) (st' := []) (res := none) (μ' := μ23) (mX8_give x1 hq22) ckV_X8_141 ⟨rfl, rfl, by decide, by decide⟩ kyR0 rfl rfl rfl rfl (Nat.le_of_ble_eq_true rfl) dX8_filter_265 rfl ?_
      refine r_aload_n hX dX8_filter_268 0 rfl ?_
      refine r_dup hX dX8_filter_269 rfl ?_
      refine r_get hX 0 0 kyR0 rfl rfl inlX8 20 (by decide) tw3_60 (v := .int (μ23 0 0 20)) rfl dX8_filter_270 ?_
      refine r_aload_n hX dX8_filter_273 0 rfl ?_
      refine r_get hX 0 0 kyR0 rfl rfl inlX8 21 (by decide) tw3_61 (v := .int (μ23 0 0 21)) rfl dX8_filter_274 ?_
      refine r_if_eq hX (tgt := 284) dX8_filter_277 (by decide) (fun hc24 => ?_) (fun hc24 => ?_)
      · have h := ite_t hc24 h
        refine r_iconst hX dX8_filter_284 (v := 0) (by decide) ?_
        refine r_iadd hX dX8_filter_285 ?_
        refine r_put hX 0 0 kyR0 rfl rfl inlX8 tyX8 tyX8_ok nmX8 20 (by decide) tw3_60 rfl (tyX8_ok 20 (by decide)) rfl rfl (Nat.le_of_ble_eq_true rfl) rfl dX8_filter_286 (fun μ25 eμ25 => ?_)
        have h := mst_at eμ25 h
        refine r_aload_n hX dX8_filter_289 0 rfl ?_
        refine r_get hX 0 0 kyR0 rfl rfl inlX8 21 (by decide) tw3_61 (v := .int (μ25 0 0 21)) rfl dX8_filter_290 ?_
        refine r_if_eq hX (tgt := 300) dX8_filter_293 (by decide) (fun hc26 => ?_) (fun hc26 => ?_)
        · have h := ite_t hc26 h
          refine r_iconst hX dX8_filter_300 (v := 0) (by decide) ?_
          exact r_iret hX hQ (pr1 h) (pr2 h) dX8_filter_301
        · have h := ite_f hc26 h
          refine r_iconst hX dX8_filter_296 (v := 2) (by decide) ?_
          refine r_goto hX (tgt := 301) dX8_filter_297 (by decide) ?_
          exact r_iret hX hQ (pr1 h) (pr2 h) dX8_filter_301
      · have h := ite_f hc24 h
        refine r_iconst hX dX8_filter_280 (v := 1) (by decide) ?_
        refine r_goto hX (tgt := 285) dX8_filter_281 (by decide) ?_
        refine r_iadd hX dX8_filter_285 ?_
        refine r_put hX 0 0 kyR0 rfl rfl inlX8 tyX8 tyX8_ok nmX8 20 (by decide) tw3_60 rfl (tyX8_ok 20 (by decide)) rfl rfl (Nat.le_of_ble_eq_true rfl) rfl dX8_filter_286 (fun μ27 eμ27 => ?_)
        have h := mst_at eμ27 h
        refine r_aload_n hX dX8_filter_289 0 rfl ?_
        refine r_get hX 0 0 kyR0 rfl rfl inlX8 21 (by decide) tw3_61 (v := .int (μ27 0 0 21)) rfl dX8_filter_290 ?_
        refine r_if_eq hX (tgt := 300) dX8_filter_293 (by decide) (fun hc28 => ?_) (fun hc28 => ?_)
        · have h := ite_t hc28 h
          refine r_iconst hX dX8_filter_300 (v := 0) (by decide) ?_
          exact r_iret hX hQ (pr1 h) (pr2 h) dX8_filter_301
        · have h := ite_f hc28 h
          refine r_iconst hX dX8_filter_296 (v := 2) (by decide) ?_
          refine r_goto hX (tgt := 301) dX8_filter_297 (by decide) ?_
          exact r_iret hX hQ (pr1 h) (pr2 h) dX8_filter_301
    · have h := ite_f hc21 h
      refine r_aload_n hX dX8_filter_243 0 rfl ?_
      refine r_get hX 0 0 kyR0 rfl rfl inlX8 27 (by decide) tw3_67 (v := .ref (ad 27 0)) rfl dX8_filter_244 ?_
      refine r_iload hX dX8_filter_247 5 rfl ?_
      refine r_aload_n hX dX8_filter_249 0 rfl ?_
      refine r_get hX 0 0 kyR0 rfl rfl inlX8 28 (by decide) tw3_68 (v := .ref (ad 28 0)) rfl dX8_filter_250 ?_
      refine r_iload hX dX8_filter_253 5 rfl ?_
      obtain ⟨hb29, h⟩ := ite_some h
      refine r_iald hX 28 0 kyR28 rfl (t0 := 0) rfl hb29 dX8_filter_255 ?_
      obtain ⟨hb30, h⟩ := ite_some h
      refine r_iast hX 27 0 kyR27 (fun _ => rfl) (t0 := 0) rfl hb30 dX8_filter_256 (fun μ31 eμ31 => ?_)
      have h := mst_at eμ31 h
      refine r_iinc hX dX8_filter_257 (j := 5) (v := x5 + 1) (lv' := [(5, .int (x5 + 1)), (0, .ref (ad 0 0)), (1, .int x1), (2, .int x2), (3, .int x3), (4, .int x4)]) rfl (congrArg (x5 + ·) (by decide)) (by decide) rfl ?_
      refine r_goto hX (tgt := 236) dX8_filter_260 (by decide) ?_
      refine r_sub [1, 2, 3, 4, 5, 0] rfl ?_
      exact ih μ31 (x5 + 1) h
noncomputable def jX8_filter_L198 (x1 : Int32) (x2 : Int32) (x3 : Int32) : Nat → Mu → Int32 → Int32 → Option (Int32 × Mu)
  | 0, _, _, _ => none
  | n17 + 1, μ, x4, x5 => if x3 ≤ x5 then mst (mu_st μ 0 0 26 x4) (fun μ19 => jX8_filter_L236 x1 x2 x3 x4 fuel μ19 0) else if inb x5 41 = true then if inb x4 41 = true then mst (mu_st μ 28 0 x4.toNatClampNeg (μ 27 0 x5.toNatClampNeg)) (fun μ34 => jX8_filter_L198 x1 x2 x3 n17 μ34 (x4 + 1) (x5 + 1)) else none else none
set_option maxHeartbeats 4000000 in
set_option maxRecDepth 100000 in
theorem mX8_filter_L198 {l : Launch} {D : va_G} {cI cH cT : ClassId} {ad : Nat → Nat → Nat} {Z : va_W} {X : Cx} (hX : HX (gR l D cI cH cT ad Z) X cX8_filter 7 RX8 rmX8_filter (some .int)) {r : Int32} {μ' : Mu} (hQ : HQ (gR l D cI cH cT ad Z) X (some (.int r)) μ') (x1 : Int32) (x2 : Int32) (x3 : Int32) : ∀ (n17 : Nat) (μ : Mu) (x4 : Int32) (x5 : Int32), jX8_filter_L198 x1 x2 x3 n17 μ x4 x5 = some (r, μ') → V (gR l D cI cH cT ad Z) X 7 μ 198 [(0, .ref (ad 0 0)), (1, .int x1), (2, .int x2), (3, .int x3), (4, .int x4), (5, .int x5)] [] := by
  intro n17
  induction n17 with
  | zero => intro μ x4 x5 h; exact none_no h
  | succ n17 ih =>
    intro μ x4 x5 h
    rw [jX8_filter_L198] at h
    refine r_iload hX dX8_filter_198 5 rfl ?_
    refine r_iload_n hX dX8_filter_200 3 rfl ?_
    refine r_icmp_ge hX (tgt := 227) dX8_filter_201 (by decide) (fun hc18 => ?_) (fun hc18 => ?_)
    · have h := ite_t hc18 h
      refine r_aload_n hX dX8_filter_227 0 rfl ?_
      refine r_iload hX dX8_filter_228 4 rfl ?_
      refine r_put hX 0 0 kyR0 rfl rfl inlX8 tyX8 tyX8_ok nmX8 26 (by decide) tw3_66 rfl (tyX8_ok 26 (by decide)) rfl rfl (Nat.le_of_ble_eq_true rfl) rfl dX8_filter_230 (fun μ19 eμ19 => ?_)
      have h := mst_at eμ19 h
      refine r_iconst hX dX8_filter_233 (v := 0) (by decide) ?_
      refine r_istore hX dX8_filter_234 (lv' := [(5, .int 0), (0, .ref (ad 0 0)), (1, .int x1), (2, .int x2), (3, .int x3), (4, .int x4)]) (by decide) rfl ?_
      refine r_sub [1, 2, 3, 4, 5, 0] rfl ?_
      exact mX8_filter_L236 hX hQ x1 x2 x3 x4 fuel μ19 0 h
    · have h := ite_f hc18 h
      refine r_aload_n hX dX8_filter_204 0 rfl ?_
      refine r_get hX 0 0 kyR0 rfl rfl inlX8 28 (by decide) tw3_68 (v := .ref (ad 28 0)) rfl dX8_filter_205 ?_
      refine r_iload hX dX8_filter_208 4 rfl ?_
      refine r_aload_n hX dX8_filter_210 0 rfl ?_
      refine r_get hX 0 0 kyR0 rfl rfl inlX8 27 (by decide) tw3_67 (v := .ref (ad 27 0)) rfl dX8_filter_211 ?_
      refine r_iload hX dX8_filter_214 5 rfl ?_
      obtain ⟨hb32, h⟩ := ite_some h
      refine r_iald hX 27 0 kyR27 rfl (t0 := 0) rfl hb32 dX8_filter_216 ?_
      obtain ⟨hb33, h⟩ := ite_some h
      refine r_iast hX 28 0 kyR28 (fun _ => rfl) (t0 := 0) rfl hb33 dX8_filter_217 (fun μ34 eμ34 => ?_)
      have h := mst_at eμ34 h
      refine r_iinc hX dX8_filter_218 (j := 4) (v := x4 + 1) (lv' := [(4, .int (x4 + 1)), (0, .ref (ad 0 0)), (1, .int x1), (2, .int x2), (3, .int x3), (5, .int x5)]) rfl (congrArg (x4 + ·) (by decide)) (by decide) rfl ?_
      refine r_iinc hX dX8_filter_221 (j := 5) (v := x5 + 1) (lv' := [(5, .int (x5 + 1)), (4, .int (x4 + 1)), (0, .ref (ad 0 0)), (1, .int x1), (2, .int x2), (3, .int x3)]) rfl (congrArg (x5 + ·) (by decide)) (by decide) rfl ?_
      refine r_goto hX (tgt := 198) dX8_filter_224 (by decide) ?_
      refine r_sub [2, 3, 4, 5, 1, 0] rfl ?_
      exact ih μ34 (x4 + 1) (x5 + 1) h
noncomputable def jX8_filter_L148 (x1 : Int32) (x2 : Int32) (x3 : Int32) (x4 : Int32) : Nat → Mu → Int32 → Option (Int32 × Mu)
  | 0, _, _ => none
  | n36 + 1, μ, x5 => if x4 ≤ x5 then (jX8_ends μ x1).bind (fun q39 => some (q39.1, q39.2)) else if (μ 0 0 21) = 0 then if inb x1 6 = true then if inb x5 41 = true then (jX8_comes μ 2 (μ 16 0 x1.toNatClampNeg) (μ 28 0 x5.toNatClampNeg)).bind (fun μ46 => jX8_filter_L148 x1 x2 x3 x4 n36 μ46 (x5 + 1)) else none else none else (jX8_ends μ x1).bind (fun q42 => some (q42.1, q42.2))
set_option maxHeartbeats 4000000 in
set_option maxRecDepth 100000 in
theorem mX8_filter_L148 {l : Launch} {D : va_G} {cI cH cT : ClassId} {ad : Nat → Nat → Nat} {Z : va_W} {X : Cx} (hX : HX (gR l D cI cH cT ad Z) X cX8_filter 7 RX8 rmX8_filter (some .int)) {r : Int32} {μ' : Mu} (hQ : HQ (gR l D cI cH cT ad Z) X (some (.int r)) μ') (x1 : Int32) (x2 : Int32) (x3 : Int32) (x4 : Int32) : ∀ (n36 : Nat) (μ : Mu) (x5 : Int32), jX8_filter_L148 x1 x2 x3 x4 n36 μ x5 = some (r, μ') → V (gR l D cI cH cT ad Z) X 7 μ 148 [(0, .ref (ad 0 0)), (1, .int x1), (2, .int x2), (3, .int x3), (4, .int x4), (5, .int x5)] [] := by
  intro n36
  induction n36 with
  | zero => intro μ x5 h; exact none_no h
  | succ n36 ih =>
    intro μ x5 h
    rw [jX8_filter_L148] at h
    refine r_iload hX dX8_filter_148 5 rfl ?_
    refine r_iload hX dX8_filter_150 4 rfl ?_
    refine r_icmp_ge hX (tgt := 186) dX8_filter_152 (by decide) (fun hc37 => ?_) (fun hc37 => ?_)
    · have h := ite_t hc37 h
      refine r_aload_n hX dX8_filter_186 0 rfl ?_
      refine r_iload_n hX dX8_filter_187 1 rfl ?_
      obtain ⟨q39, hq38, h⟩ := bind_ex h
      refine r_callV hX 0 0 (As := [.int x1]) (rest := []) (st' := [.int q39.1]) (res := (some (.int q39.1))) (μ' := q39.2) (mX8_ends x1 hq38) ckV_X8_175 ⟨rfl, rfl, by decide, by decide⟩ kyR0 rfl rfl rfl rfl (Nat.le_of_ble_eq_true rfl) dX8_filter_188 rfl ?_
      exact r_iret hX hQ (pr1 h) (pr2 h) dX8_filter_191
    · have h := ite_f hc37 h
      refine r_aload_n hX dX8_filter_155 0 rfl ?_
      refine r_get hX 0 0 kyR0 rfl rfl inlX8 21 (by decide) tw3_61 (v := .int (μ 0 0 21)) rfl dX8_filter_156 ?_
      refine r_if_ne hX (tgt := 186) dX8_filter_159 (by decide) (fun hc40 => ?_) (fun hc40 => ?_)
      · have h := ite_f hc40 h
        refine r_aload_n hX dX8_filter_186 0 rfl ?_
        refine r_iload_n hX dX8_filter_187 1 rfl ?_
        obtain ⟨q42, hq41, h⟩ := bind_ex h
        refine r_callV hX 0 0 (As := [.int x1]) (rest := []) (st' := [.int q42.1]) (res := (some (.int q42.1))) (μ' := q42.2) (mX8_ends x1 hq41) ckV_X8_175 ⟨rfl, rfl, by decide, by decide⟩ kyR0 rfl rfl rfl rfl (Nat.le_of_ble_eq_true rfl) dX8_filter_188 rfl ?_
        exact r_iret hX hQ (pr1 h) (pr2 h) dX8_filter_191
      · have h := ite_t hc40 h
        refine r_aload_n hX dX8_filter_162 0 rfl ?_
        refine r_iconst hX dX8_filter_163 (v := 2) (by decide) ?_
        refine r_aload_n hX dX8_filter_164 0 rfl ?_
        refine r_get hX 0 0 kyR0 rfl rfl inlX8 16 (by decide) tw3_56 (v := .ref (ad 16 0)) rfl dX8_filter_165 ?_
        refine r_iload_n hX dX8_filter_168 1 rfl ?_
        obtain ⟨hb43, h⟩ := ite_some h
        refine r_iald hX 16 0 kyR16 rfl (t0 := 0) rfl hb43 dX8_filter_169 ?_
        refine r_aload_n hX dX8_filter_170 0 rfl ?_
        refine r_get hX 0 0 kyR0 rfl rfl inlX8 28 (by decide) tw3_68 (v := .ref (ad 28 0)) rfl dX8_filter_171 ?_
        refine r_iload hX dX8_filter_174 5 rfl ?_
        obtain ⟨hb44, h⟩ := ite_some h
        refine r_iald hX 28 0 kyR28 rfl (t0 := 0) rfl hb44 dX8_filter_176 ?_
        obtain ⟨μ46, hq45, h⟩ := bind_ex h
        refine r_callV hX 0 0 (As := [.int 2, .int (μ 16 0 x1.toNatClampNeg), .int (μ 28 0 x5.toNatClampNeg)]) (rest := []) (st' := []) (res := none) (μ' := μ46) (mX8_comes 2 (μ 16 0 x1.toNatClampNeg) (μ 28 0 x5.toNatClampNeg) hq45) ckV_X8_171 ⟨rfl, rfl, by decide, by decide⟩ kyR0 rfl rfl rfl rfl (Nat.le_of_ble_eq_true rfl) dX8_filter_177 rfl ?_
        refine r_iinc hX dX8_filter_180 (j := 5) (v := x5 + 1) (lv' := [(5, .int (x5 + 1)), (0, .ref (ad 0 0)), (1, .int x1), (2, .int x2), (3, .int x3), (4, .int x4)]) rfl (congrArg (x5 + ·) (by decide)) (by decide) rfl ?_
        refine r_goto hX (tgt := 148) dX8_filter_183 (by decide) ?_
        refine r_sub [1, 2, 3, 4, 5, 0] rfl ?_
        exact ih μ46 (x5 + 1) h
noncomputable def jX8_filter_L51 (x1 : Int32) (x2 : Int32) (x3 : Int32) : Nat → Mu → Int32 → Int32 → Option (Int32 × Mu)
  | 0, _, _, _ => none
  | n13 + 1, μ, x4, x5 => if x3 ≤ x5 then if inb x1 6 = true then if (μ 15 0 x1.toNatClampNeg) = 2 then mst (mu_st μ 0 0 26 0) (fun μ35 => jX8_filter_L148 x1 x2 x3 x4 fuel μ35 0) else jX8_filter_L198 x1 x2 x3 fuel μ x4 (μ 0 0 25) else none else if (μ 0 0 21) = 0 then if inb x5 41 = true then (jX8_isKept μ x2 (μ 27 0 x5.toNatClampNeg)).bind (fun q53 => if (q53.2 0 0 21) = 0 then mst (mu_st q53.2 0 0 25 ((q53.2 0 0 25) + 1)) (fun μ55 => if inb x5 41 = true then if inb x4 41 = true then mst (mu_st μ55 28 0 x4.toNatClampNeg (μ55 27 0 x5.toNatClampNeg)) (fun μ58 => if q53.1 = 0 then jX8_filter_L51 x1 x2 x3 n13 μ58 (x4 + 0) (x5 + 1) else jX8_filter_L51 x1 x2 x3 n13 μ58 (x4 + 1) (x5 + 1)) else none else none) else jX8_filter_L51 x1 x2 x3 n13 q53.2 x4 (x5 + 1)) else none else if inb x1 6 = true then if (μ 15 0 x1.toNatClampNeg) = 2 then mst (mu_st μ 0 0 26 0) (fun μ50 => jX8_filter_L148 x1 x2 x3 x4 fuel μ50 0) else jX8_filter_L198 x1 x2 x3 fuel μ x4 (μ 0 0 25) else none
set_option maxHeartbeats 4000000 in
set_option maxRecDepth 100000 in
theorem mX8_filter_L51 {l : Launch} {D : va_G} {cI cH cT : ClassId} {ad : Nat → Nat → Nat} {Z : va_W} {X : Cx} (hX : HX (gR l D cI cH cT ad Z) X cX8_filter 7 RX8 rmX8_filter (some .int)) {r : Int32} {μ' : Mu} (hQ : HQ (gR l D cI cH cT ad Z) X (some (.int r)) μ') (x1 : Int32) (x2 : Int32) (x3 : Int32) : ∀ (n13 : Nat) (μ : Mu) (x4 : Int32) (x5 : Int32), jX8_filter_L51 x1 x2 x3 n13 μ x4 x5 = some (r, μ') → V (gR l D cI cH cT ad Z) X 7 μ 51 [(0, .ref (ad 0 0)), (1, .int x1), (2, .int x2), (3, .int x3), (4, .int x4), (5, .int x5)] [] := by
  intro n13
  induction n13 with
  | zero => intro μ x4 x5 h; exact none_no h
  | succ n13 ih =>
    intro μ x4 x5 h
    rw [jX8_filter_L51] at h
    refine r_iload hX dX8_filter_51 5 rfl ?_
    refine r_iload_n hX dX8_filter_53 3 rfl ?_
    refine r_icmp_ge hX (tgt := 130) dX8_filter_54 (by decide) (fun hc14 => ?_) (fun hc14 => ?_)
    · have h := ite_t hc14 h
      refine r_aload_n hX dX8_filter_130 0 rfl ?_
      refine r_get hX 0 0 kyR0 rfl rfl inlX8 15 (by decide) tw3_55 (v := .ref (ad 15 0)) rfl dX8_filter_131 ?_
      refine r_iload_n hX dX8_filter_134 1 rfl ?_
      obtain ⟨hb15, h⟩ := ite_some h
      refine r_iald hX 15 0 kyR15 rfl (t0 := 0) rfl hb15 dX8_filter_135 ?_
      refine r_iconst hX dX8_filter_136 (v := 2) (by decide) ?_
      refine r_icmp_ne hX (tgt := 192) dX8_filter_137 (by decide) (fun hc16 => ?_) (fun hc16 => ?_)
      · have h := ite_f hc16 h
        refine r_aload_n hX dX8_filter_192 0 rfl ?_
        refine r_get hX 0 0 kyR0 rfl rfl inlX8 25 (by decide) tw3_65 (v := .int (μ 0 0 25)) rfl dX8_filter_193 ?_
        refine r_istore hX dX8_filter_196 (lv' := [(5, .int (μ 0 0 25)), (0, .ref (ad 0 0)), (1, .int x1), (2, .int x2), (3, .int x3), (4, .int x4)]) (by decide) rfl ?_
        refine r_sub [1, 2, 3, 4, 5, 0] rfl ?_
        exact mX8_filter_L198 hX hQ x1 x2 x3 fuel μ x4 (μ 0 0 25) h
      · have h := ite_t hc16 h
        refine r_aload_n hX dX8_filter_140 0 rfl ?_
        refine r_iconst hX dX8_filter_141 (v := 0) (by decide) ?_
        refine r_put hX 0 0 kyR0 rfl rfl inlX8 tyX8 tyX8_ok nmX8 26 (by decide) tw3_66 rfl (tyX8_ok 26 (by decide)) rfl rfl (Nat.le_of_ble_eq_true rfl) rfl dX8_filter_142 (fun μ35 eμ35 => ?_)
        have h := mst_at eμ35 h
        refine r_iconst hX dX8_filter_145 (v := 0) (by decide) ?_
        refine r_istore hX dX8_filter_146 (lv' := [(5, .int 0), (0, .ref (ad 0 0)), (1, .int x1), (2, .int x2), (3, .int x3), (4, .int x4)]) (by decide) rfl ?_
        refine r_sub [1, 2, 3, 4, 5, 0] rfl ?_
        exact mX8_filter_L148 hX hQ x1 x2 x3 x4 fuel μ35 0 h
    · have h := ite_f hc14 h
      refine r_aload_n hX dX8_filter_57 0 rfl ?_
      refine r_get hX 0 0 kyR0 rfl rfl inlX8 21 (by decide) tw3_61 (v := .int (μ 0 0 21)) rfl dX8_filter_58 ?_
      refine r_if_ne hX (tgt := 130) dX8_filter_61 (by decide) (fun hc47 => ?_) (fun hc47 => ?_)
      · have h := ite_f hc47 h
        refine r_aload_n hX dX8_filter_130 0 rfl ?_
        refine r_get hX 0 0 kyR0 rfl rfl inlX8 15 (by decide) tw3_55 (v := .ref (ad 15 0)) rfl dX8_filter_131 ?_
        refine r_iload_n hX dX8_filter_134 1 rfl ?_
        obtain ⟨hb48, h⟩ := ite_some h
        refine r_iald hX 15 0 kyR15 rfl (t0 := 0) rfl hb48 dX8_filter_135 ?_
        refine r_iconst hX dX8_filter_136 (v := 2) (by decide) ?_
        refine r_icmp_ne hX (tgt := 192) dX8_filter_137 (by decide) (fun hc49 => ?_) (fun hc49 => ?_)
        · have h := ite_f hc49 h
          refine r_aload_n hX dX8_filter_192 0 rfl ?_
          refine r_get hX 0 0 kyR0 rfl rfl inlX8 25 (by decide) tw3_65 (v := .int (μ 0 0 25)) rfl dX8_filter_193 ?_
          refine r_istore hX dX8_filter_196 (lv' := [(5, .int (μ 0 0 25)), (0, .ref (ad 0 0)), (1, .int x1), (2, .int x2), (3, .int x3), (4, .int x4)]) (by decide) rfl ?_
          refine r_sub [1, 2, 3, 4, 5, 0] rfl ?_
          exact mX8_filter_L198 hX hQ x1 x2 x3 fuel μ x4 (μ 0 0 25) h
        · have h := ite_t hc49 h
          refine r_aload_n hX dX8_filter_140 0 rfl ?_
          refine r_iconst hX dX8_filter_141 (v := 0) (by decide) ?_
          refine r_put hX 0 0 kyR0 rfl rfl inlX8 tyX8 tyX8_ok nmX8 26 (by decide) tw3_66 rfl (tyX8_ok 26 (by decide)) rfl rfl (Nat.le_of_ble_eq_true rfl) rfl dX8_filter_142 (fun μ50 eμ50 => ?_)
          have h := mst_at eμ50 h
          refine r_iconst hX dX8_filter_145 (v := 0) (by decide) ?_
          refine r_istore hX dX8_filter_146 (lv' := [(5, .int 0), (0, .ref (ad 0 0)), (1, .int x1), (2, .int x2), (3, .int x3), (4, .int x4)]) (by decide) rfl ?_
          refine r_sub [1, 2, 3, 4, 5, 0] rfl ?_
          exact mX8_filter_L148 hX hQ x1 x2 x3 x4 fuel μ50 0 h
      · have h := ite_t hc47 h
        refine r_aload_n hX dX8_filter_64 0 rfl ?_
        refine r_iload_n hX dX8_filter_65 2 rfl ?_
        refine r_aload_n hX dX8_filter_66 0 rfl ?_
        refine r_get hX 0 0 kyR0 rfl rfl inlX8 27 (by decide) tw3_67 (v := .ref (ad 27 0)) rfl dX8_filter_67 ?_
        refine r_iload hX dX8_filter_70 5 rfl ?_
        obtain ⟨hb51, h⟩ := ite_some h
        refine r_iald hX 27 0 kyR27 rfl (t0 := 0) rfl hb51 dX8_filter_72 ?_
        obtain ⟨q53, hq52, h⟩ := bind_ex h
        refine r_callV hX 0 0 (As := [.int x2, .int (μ 27 0 x5.toNatClampNeg)]) (rest := []) (st' := [.int q53.1]) (res := (some (.int q53.1))) (μ' := q53.2) (mX8_isKept x2 (μ 27 0 x5.toNatClampNeg) hq52) ckV_X8_192 ⟨rfl, rfl, by decide, by decide⟩ kyR0 rfl rfl rfl rfl (Nat.le_of_ble_eq_true rfl) dX8_filter_73 rfl ?_
        refine r_istore hX dX8_filter_76 (lv' := [(6, .int q53.1), (0, .ref (ad 0 0)), (1, .int x1), (2, .int x2), (3, .int x3), (4, .int x4), (5, .int x5)]) (by decide) rfl ?_
        refine r_aload_n hX dX8_filter_78 1 rfl ?_
        refine r_get hX 0 0 kyR0 rfl rfl inlX8 21 (by decide) tw3_61 (v := .int (q53.2 0 0 21)) rfl dX8_filter_79 ?_
        refine r_if_ne hX (tgt := 124) dX8_filter_82 (by decide) (fun hc54 => ?_) (fun hc54 => ?_)
        · have h := ite_f hc54 h
          refine r_iinc hX dX8_filter_124 (j := 6) (v := x5 + 1) (lv' := [(5, .int (x5 + 1)), (6, .int q53.1), (0, .ref (ad 0 0)), (1, .int x1), (2, .int x2), (3, .int x3), (4, .int x4)]) rfl (congrArg (x5 + ·) (by decide)) (by decide) rfl ?_
          refine r_goto hX (tgt := 51) dX8_filter_127 (by decide) ?_
          refine r_sub [2, 3, 4, 5, 6, 0] rfl ?_
          exact ih q53.2 x4 (x5 + 1) h
        · have h := ite_t hc54 h
          refine r_aload_n hX dX8_filter_85 1 rfl ?_
          refine r_dup hX dX8_filter_86 rfl ?_
          refine r_get hX 0 0 kyR0 rfl rfl inlX8 25 (by decide) tw3_65 (v := .int (q53.2 0 0 25)) rfl dX8_filter_87 ?_
          refine r_iconst hX dX8_filter_90 (v := 1) (by decide) ?_
          refine r_iadd hX dX8_filter_91 ?_
          refine r_put hX 0 0 kyR0 rfl rfl inlX8 tyX8 tyX8_ok nmX8 25 (by decide) tw3_65 rfl (tyX8_ok 25 (by decide)) rfl rfl (Nat.le_of_ble_eq_true rfl) rfl dX8_filter_92 (fun μ55 eμ55 => ?_)
          have h := mst_at eμ55 h
          refine r_aload_n hX dX8_filter_95 1 rfl ?_
          refine r_get hX 0 0 kyR0 rfl rfl inlX8 28 (by decide) tw3_68 (v := .ref (ad 28 0)) rfl dX8_filter_96 ?_
          refine r_iload hX dX8_filter_99 5 rfl ?_
          refine r_aload_n hX dX8_filter_101 1 rfl ?_
          refine r_get hX 0 0 kyR0 rfl rfl inlX8 27 (by decide) tw3_67 (v := .ref (ad 27 0)) rfl dX8_filter_102 ?_
          refine r_iload hX dX8_filter_105 6 rfl ?_
          obtain ⟨hb56, h⟩ := ite_some h
          refine r_iald hX 27 0 kyR27 rfl (t0 := 0) rfl hb56 dX8_filter_107 ?_
          obtain ⟨hb57, h⟩ := ite_some h
          refine r_iast hX 28 0 kyR28 (fun _ => rfl) (t0 := 0) rfl hb57 dX8_filter_108 (fun μ58 eμ58 => ?_)
          have h := mst_at eμ58 h
          refine r_iload hX dX8_filter_109 5 rfl ?_
          refine r_iload hX dX8_filter_111 0 rfl ?_
          refine r_if_eq hX (tgt := 120) dX8_filter_113 (by decide) (fun hc59 => ?_) (fun hc59 => ?_)
          · have h := ite_t hc59 h
            refine r_iconst hX dX8_filter_120 (v := 0) (by decide) ?_
            refine r_iadd hX dX8_filter_121 ?_
            refine r_istore hX dX8_filter_122 (lv' := [(4, .int (x4 + 0)), (6, .int q53.1), (0, .ref (ad 0 0)), (1, .int x1), (2, .int x2), (3, .int x3), (5, .int x5)]) (by decide) rfl ?_
            refine r_iinc hX dX8_filter_124 (j := 6) (v := x5 + 1) (lv' := [(5, .int (x5 + 1)), (4, .int (x4 + 0)), (6, .int q53.1), (0, .ref (ad 0 0)), (1, .int x1), (2, .int x2), (3, .int x3)]) rfl (congrArg (x5 + ·) (by decide)) (by decide) rfl ?_
            refine r_goto hX (tgt := 51) dX8_filter_127 (by decide) ?_
            refine r_sub [3, 4, 5, 6, 1, 0] rfl ?_
            exact ih μ58 (x4 + 0) (x5 + 1) h
          · have h := ite_f hc59 h
            refine r_iconst hX dX8_filter_116 (v := 1) (by decide) ?_
            refine r_goto hX (tgt := 121) dX8_filter_117 (by decide) ?_
            refine r_iadd hX dX8_filter_121 ?_
            refine r_istore hX dX8_filter_122 (lv' := [(4, .int (x4 + 1)), (6, .int q53.1), (0, .ref (ad 0 0)), (1, .int x1), (2, .int x2), (3, .int x3), (5, .int x5)]) (by decide) rfl ?_
            refine r_iinc hX dX8_filter_124 (j := 6) (v := x5 + 1) (lv' := [(5, .int (x5 + 1)), (4, .int (x4 + 1)), (6, .int q53.1), (0, .ref (ad 0 0)), (1, .int x1), (2, .int x2), (3, .int x3)]) rfl (congrArg (x5 + ·) (by decide)) (by decide) rfl ?_
            refine r_goto hX (tgt := 51) dX8_filter_127 (by decide) ?_
            refine r_sub [3, 4, 5, 6, 1, 0] rfl ?_
            exact ih μ58 (x4 + 1) (x5 + 1) h
noncomputable def jX8_filter (μ : Mu) (a1 : Int32) (a2 : Int32) : Option (Int32 × Mu) := (jX8_isTray μ a1).bind (fun r2 => if r2 = 0 then some ((-1), μ) else (jX8_isHook μ a2).bind (fun r5 => if r5 = 0 then some ((-1), μ) else if inb a2 8 = true then if (μ 4 0 a2.toNatClampNeg) = 3 then (jX8_beginAct μ).bind (fun μ10 => (jX8_load μ10 a1).bind (fun μ12 => jX8_filter_L51 a1 a2 (μ12 0 0 26) fuel μ12 0 0)) else some ((-2), μ) else none))
set_option maxHeartbeats 4000000 in
set_option maxRecDepth 100000 in
theorem mX8_filter {l : Launch} {D : va_G} {cI cH cT : ClassId} {ad : Nat → Nat → Nat} {Z : va_W} {μ : Mu} {r : Int32} {μ' : Mu} (a1 : Int32) (a2 : Int32) (h : jX8_filter μ a1 a2 = some (r, μ')) : CT (gR l D cI cH cT ad Z) yX8_filter (.code yX8_filter cX8_filter 7 (some .int) :: wsL_law) rmX8_filter [.ref (ad 0 0), .int a1, .int a2] μ (some (.int r)) μ' := by
  refine ct_of (own := RX8) (by decide) ⟨rfl, rfl⟩ (Nat.le_of_ble_eq_true rfl) rfl (fun X hX hQ => ?_)
  have hX : HX (gR l D cI cH cT ad Z) X cX8_filter 7 RX8 rmX8_filter (some .int) := hX
  show V (gR l D cI cH cT ad Z) X 7 μ 0 [(0, .ref (ad 0 0)), (1, .int a1), (2, .int a2)] []
  unfold jX8_filter at h
  refine r_aload_n hX dX8_filter_0 0 rfl ?_
  refine r_iload_n hX dX8_filter_1 1 rfl ?_
  obtain ⟨r2, hq1, h⟩ := bind_ex h
  refine r_callV hX 0 0 (As := [.int a1]) (rest := []) (st' := [.int r2]) (res := (some (.int r2))) (μ' := μ) (mX8_isTray a1 hq1) ckV_X8_162 ⟨rfl, rfl, by decide, by decide⟩ kyR0 rfl rfl rfl rfl (Nat.le_of_ble_eq_true rfl) dX8_filter_2 rfl ?_
  refine r_if_eq hX (tgt := 16) dX8_filter_5 (by decide) (fun hc3 => ?_) (fun hc3 => ?_)
  · have h := ite_t hc3 h
    refine r_iconst hX dX8_filter_16 (v := (-1)) (by decide) ?_
    exact r_iret hX hQ (pr1 h) (pr2 h) dX8_filter_17
  · have h := ite_f hc3 h
    refine r_aload_n hX dX8_filter_8 0 rfl ?_
    refine r_iload_n hX dX8_filter_9 2 rfl ?_
    obtain ⟨r5, hq4, h⟩ := bind_ex h
    refine r_callV hX 0 0 (As := [.int a2]) (rest := []) (st' := [.int r5]) (res := (some (.int r5))) (μ' := μ) (mX8_isHook a2 hq4) ckV_X8_91 ⟨rfl, rfl, by decide, by decide⟩ kyR0 rfl rfl rfl rfl (Nat.le_of_ble_eq_true rfl) dX8_filter_10 rfl ?_
    refine r_if_ne hX (tgt := 18) dX8_filter_13 (by decide) (fun hc6 => ?_) (fun hc6 => ?_)
    · have h := ite_f hc6 h
      refine r_aload_n hX dX8_filter_18 0 rfl ?_
      refine r_get hX 0 0 kyR0 rfl rfl inlX8 4 (by decide) tw3_44 (v := .ref (ad 4 0)) rfl dX8_filter_19 ?_
      refine r_iload_n hX dX8_filter_22 2 rfl ?_
      obtain ⟨hb7, h⟩ := ite_some h
      refine r_iald hX 4 0 kyR4 rfl (t0 := 0) rfl hb7 dX8_filter_23 ?_
      refine r_iconst hX dX8_filter_24 (v := 3) (by decide) ?_
      refine r_icmp_eq hX (tgt := 31) dX8_filter_25 (by decide) (fun hc8 => ?_) (fun hc8 => ?_)
      · have h := ite_t hc8 h
        refine r_aload_n hX dX8_filter_31 0 rfl ?_
        obtain ⟨μ10, hq9, h⟩ := bind_ex h
        refine r_callV hX 0 0 (As := []) (rest := []) (st' := []) (res := none) (μ' := μ10) (mX8_beginAct  hq9) ckV_X8_165 ⟨rfl, rfl, by decide, by decide⟩ kyR0 rfl rfl rfl rfl (Nat.le_of_ble_eq_true rfl) dX8_filter_32 rfl ?_
        refine r_aload_n hX dX8_filter_35 0 rfl ?_
        refine r_iload_n hX dX8_filter_36 1 rfl ?_
        obtain ⟨μ12, hq11, h⟩ := bind_ex h
        refine r_callV hX 0 0 (As := [.int a1]) (rest := []) (st' := []) (res := none) (μ' := μ12) (mX8_load a1 hq11) ckV_X8_168 ⟨rfl, rfl, by decide, by decide⟩ kyR0 rfl rfl rfl rfl (Nat.le_of_ble_eq_true rfl) dX8_filter_37 rfl ?_
        refine r_aload_n hX dX8_filter_40 0 rfl ?_
        refine r_get hX 0 0 kyR0 rfl rfl inlX8 26 (by decide) tw3_66 (v := .int (μ12 0 0 26)) rfl dX8_filter_41 ?_
        refine r_istore_n hX dX8_filter_44 (lv' := [(3, .int (μ12 0 0 26)), (0, .ref (ad 0 0)), (1, .int a1), (2, .int a2)]) (by decide) rfl ?_
        refine r_iconst hX dX8_filter_45 (v := 0) (by decide) ?_
        refine r_istore hX dX8_filter_46 (lv' := [(4, .int 0), (3, .int (μ12 0 0 26)), (0, .ref (ad 0 0)), (1, .int a1), (2, .int a2)]) (by decide) rfl ?_
        refine r_iconst hX dX8_filter_48 (v := 0) (by decide) ?_
        refine r_istore hX dX8_filter_49 (lv' := [(5, .int 0), (4, .int 0), (3, .int (μ12 0 0 26)), (0, .ref (ad 0 0)), (1, .int a1), (2, .int a2)]) (by decide) rfl ?_
        refine r_sub [3, 4, 5, 2, 1, 0] rfl ?_
        exact mX8_filter_L51 hX hQ a1 a2 (μ12 0 0 26) fuel μ12 0 0 h
      · have h := ite_f hc8 h
        refine r_bipush hX dX8_filter_28 (v := (-2)) (by decide) ?_
        exact r_iret hX hQ (pr1 h) (pr2 h) dX8_filter_30
    · have h := ite_t hc6 h
      refine r_iconst hX dX8_filter_16 (v := (-1)) (by decide) ?_
      exact r_iret hX hQ (pr1 h) (pr2 h) dX8_filter_17
abbrev rmX8_change : Room := { frames := 2, cells := 0, slots := 0, locals := 48 }
noncomputable def jX8_change_L65 (x1 : Int32) (x2 : Int32) : Nat → Mu → Int32 → Option (Int32 × Mu)
  | 0, _, _ => none
  | n15 + 1, μ, x3 => if inb x1 6 = true then if (μ 17 0 x1.toNatClampNeg) ≤ x3 then if (μ 0 0 21) = 0 then mst (mu_st μ 0 0 20 ((μ 0 0 20) + 0)) (fun μ19 => if (μ19 0 0 21) = 0 then some (0, μ19) else some (2, μ19)) else mst (mu_st μ 0 0 20 ((μ 0 0 20) + 1)) (fun μ21 => if (μ21 0 0 21) = 0 then some (0, μ21) else some (2, μ21)) else if (μ 0 0 21) = 0 then if inb ((40 * x1) + x3) 240 = true then (jX8_begins μ x2).bind (fun q31 => if (q31.2 0 0 21) = 0 then if q31.1 = 0 then if inb (μ 18 0 ((40 * x1) + x3).toNatClampNeg) 120 = true then if inb x2 8 = true then if inb (q31.2 0 0 0) 120 = true then mst (mu_st q31.2 1 0 (q31.2 0 0 0).toNatClampNeg ((q31.2 1 0 (μ 18 0 ((40 * x1) + x3).toNatClampNeg).toNatClampNeg) + (q31.2 5 0 x2.toNatClampNeg))) (fun μ37 => if inb (μ 18 0 ((40 * x1) + x3).toNatClampNeg) 120 = true then if inb (μ37 0 0 0) 120 = true then mst (mu_st μ37 2 0 (μ37 0 0 0).toNatClampNeg (μ37 2 0 (μ 18 0 ((40 * x1) + x3).toNatClampNeg).toNatClampNeg)) (fun μ40 => if inb ((40 * x1) + x3) 240 = true then mst (mu_st μ40 18 0 ((40 * x1) + x3).toNatClampNeg (μ40 0 0 0)) (fun μ42 => mst (mu_st μ42 0 0 0 ((μ42 0 0 0) + 1)) (fun μ43 => mst (mu_st μ43 0 0 25 ((μ43 0 0 25) + 1)) (fun μ44 => jX8_change_L65 x1 x2 n15 μ44 (x3 + 1)))) else none) else none else none) else none else none else none else if inb (μ 18 0 ((40 * x1) + x3).toNatClampNeg) 120 = true then if inb x2 8 = true then if inb (q31.2 0 0 0) 120 = true then mst (mu_st q31.2 1 0 (q31.2 0 0 0).toNatClampNeg ((q31.2 1 0 (μ 18 0 ((40 * x1) + x3).toNatClampNeg).toNatClampNeg) - (q31.2 5 0 x2.toNatClampNeg))) (fun μ48 => if inb (μ 18 0 ((40 * x1) + x3).toNatClampNeg) 120 = true then if inb (μ48 0 0 0) 120 = true then mst (mu_st μ48 2 0 (μ48 0 0 0).toNatClampNeg (μ48 2 0 (μ 18 0 ((40 * x1) + x3).toNatClampNeg).toNatClampNeg)) (fun μ51 => if inb ((40 * x1) + x3) 240 = true then mst (mu_st μ51 18 0 ((40 * x1) + x3).toNatClampNeg (μ51 0 0 0)) (fun μ53 => mst (mu_st μ53 0 0 0 ((μ53 0 0 0) + 1)) (fun μ54 => mst (mu_st μ54 0 0 25 ((μ54 0 0 25) + 1)) (fun μ55 => jX8_change_L65 x1 x2 n15 μ55 (x3 + 1)))) else none) else none else none) else none else none else none else jX8_change_L65 x1 x2 n15 q31.2 (x3 + 1)) else none else if (μ 0 0 21) = 0 then mst (mu_st μ 0 0 20 ((μ 0 0 20) + 0)) (fun μ25 => if (μ25 0 0 21) = 0 then some (0, μ25) else some (2, μ25)) else mst (mu_st μ 0 0 20 ((μ 0 0 20) + 1)) (fun μ27 => if (μ27 0 0 21) = 0 then some (0, μ27) else some (2, μ27)) else none
set_option maxHeartbeats 4000000 in
set_option maxRecDepth 100000 in
theorem mX8_change_L65 {l : Launch} {D : va_G} {cI cH cT : ClassId} {ad : Nat → Nat → Nat} {Z : va_W} {X : Cx} (hX : HX (gR l D cI cH cT ad Z) X cX8_change 6 RX8 rmX8_change (some .int)) {r : Int32} {μ' : Mu} (hQ : HQ (gR l D cI cH cT ad Z) X (some (.int r)) μ') (x1 : Int32) (x2 : Int32) : ∀ (n15 : Nat) (μ : Mu) (x3 : Int32), jX8_change_L65 x1 x2 n15 μ x3 = some (r, μ') → V (gR l D cI cH cT ad Z) X 6 μ 65 [(0, .ref (ad 0 0)), (1, .int x1), (2, .int x2), (3, .int x3)] [] := by
  intro n15
  induction n15 with
  | zero => intro μ x3 h; exact none_no h
  | succ n15 ih =>
    intro μ x3 h
    rw [jX8_change_L65] at h
    refine r_iload_n hX dX8_change_65 3 rfl ?_
    refine r_aload_n hX dX8_change_66 0 rfl ?_
    refine r_get hX 0 0 kyR0 rfl rfl inlX8 17 (by decide) tw3_57 (v := .ref (ad 17 0)) rfl dX8_change_67 ?_
    refine r_iload_n hX dX8_change_70 1 rfl ?_
    obtain ⟨hb16, h⟩ := ite_some h
    refine r_iald hX 17 0 kyR17 rfl (t0 := 0) rfl hb16 dX8_change_71 ?_
    refine r_icmp_ge hX (tgt := 211) dX8_change_72 (by decide) (fun hc17 => ?_) (fun hc17 => ?_)
    · have h := ite_t hc17 h
      refine r_aload_n hX dX8_change_211 0 rfl ?_
      refine r_dup hX dX8_change_212 rfl ?_
      refine r_get hX 0 0 kyR0 rfl rfl inlX8 20 (by decide) tw3_60 (v := .int (μ 0 0 20)) rfl dX8_change_213 ?_
      refine r_aload_n hX dX8_change_216 0 rfl ?_
      refine r_get hX 0 0 kyR0 rfl rfl inlX8 21 (by decide) tw3_61 (v := .int (μ 0 0 21)) rfl dX8_change_217 ?_
      refine r_if_eq hX (tgt := 227) dX8_change_220 (by decide) (fun hc18 => ?_) (fun hc18 => ?_)
      · have h := ite_t hc18 h
        refine r_iconst hX dX8_change_227 (v := 0) (by decide) ?_
        refine r_iadd hX dX8_change_228 ?_
        refine r_put hX 0 0 kyR0 rfl rfl inlX8 tyX8 tyX8_ok nmX8 20 (by decide) tw3_60 rfl (tyX8_ok 20 (by decide)) rfl rfl (Nat.le_of_ble_eq_true rfl) rfl dX8_change_229 (fun μ19 eμ19 => ?_)
        have h := mst_at eμ19 h
        refine r_aload_n hX dX8_change_232 0 rfl ?_
        refine r_get hX 0 0 kyR0 rfl rfl inlX8 21 (by decide) tw3_61 (v := .int (μ19 0 0 21)) rfl dX8_change_233 ?_
        refine r_if_eq hX (tgt := 243) dX8_change_236 (by decide) (fun hc20 => ?_) (fun hc20 => ?_)
        · have h := ite_t hc20 h
          refine r_iconst hX dX8_change_243 (v := 0) (by decide) ?_
          exact r_iret hX hQ (pr1 h) (pr2 h) dX8_change_244
        · have h := ite_f hc20 h
          refine r_iconst hX dX8_change_239 (v := 2) (by decide) ?_
          refine r_goto hX (tgt := 244) dX8_change_240 (by decide) ?_
          exact r_iret hX hQ (pr1 h) (pr2 h) dX8_change_244
      · have h := ite_f hc18 h
        refine r_iconst hX dX8_change_223 (v := 1) (by decide) ?_
        refine r_goto hX (tgt := 228) dX8_change_224 (by decide) ?_
        refine r_iadd hX dX8_change_228 ?_
        refine r_put hX 0 0 kyR0 rfl rfl inlX8 tyX8 tyX8_ok nmX8 20 (by decide) tw3_60 rfl (tyX8_ok 20 (by decide)) rfl rfl (Nat.le_of_ble_eq_true rfl) rfl dX8_change_229 (fun μ21 eμ21 => ?_)
        have h := mst_at eμ21 h
        refine r_aload_n hX dX8_change_232 0 rfl ?_
        refine r_get hX 0 0 kyR0 rfl rfl inlX8 21 (by decide) tw3_61 (v := .int (μ21 0 0 21)) rfl dX8_change_233 ?_
        refine r_if_eq hX (tgt := 243) dX8_change_236 (by decide) (fun hc22 => ?_) (fun hc22 => ?_)
        · have h := ite_t hc22 h
          refine r_iconst hX dX8_change_243 (v := 0) (by decide) ?_
          exact r_iret hX hQ (pr1 h) (pr2 h) dX8_change_244
        · have h := ite_f hc22 h
          refine r_iconst hX dX8_change_239 (v := 2) (by decide) ?_
          refine r_goto hX (tgt := 244) dX8_change_240 (by decide) ?_
          exact r_iret hX hQ (pr1 h) (pr2 h) dX8_change_244
    · have h := ite_f hc17 h
      refine r_aload_n hX dX8_change_75 0 rfl ?_
      refine r_get hX 0 0 kyR0 rfl rfl inlX8 21 (by decide) tw3_61 (v := .int (μ 0 0 21)) rfl dX8_change_76 ?_
      refine r_if_ne hX (tgt := 211) dX8_change_79 (by decide) (fun hc23 => ?_) (fun hc23 => ?_)
      · have h := ite_f hc23 h
        refine r_aload_n hX dX8_change_211 0 rfl ?_
        refine r_dup hX dX8_change_212 rfl ?_
        refine r_get hX 0 0 kyR0 rfl rfl inlX8 20 (by decide) tw3_60 (v := .int (μ 0 0 20)) rfl dX8_change_213 ?_
        refine r_aload_n hX dX8_change_216 0 rfl ?_
        refine r_get hX 0 0 kyR0 rfl rfl inlX8 21 (by decide) tw3_61 (v := .int (μ 0 0 21)) rfl dX8_change_217 ?_
        refine r_if_eq hX (tgt := 227) dX8_change_220 (by decide) (fun hc24 => ?_) (fun hc24 => ?_)
        · have h := ite_t hc24 h
          refine r_iconst hX dX8_change_227 (v := 0) (by decide) ?_
          refine r_iadd hX dX8_change_228 ?_
          refine r_put hX 0 0 kyR0 rfl rfl inlX8 tyX8 tyX8_ok nmX8 20 (by decide) tw3_60 rfl (tyX8_ok 20 (by decide)) rfl rfl (Nat.le_of_ble_eq_true rfl) rfl dX8_change_229 (fun μ25 eμ25 => ?_)
          have h := mst_at eμ25 h
          refine r_aload_n hX dX8_change_232 0 rfl ?_
          refine r_get hX 0 0 kyR0 rfl rfl inlX8 21 (by decide) tw3_61 (v := .int (μ25 0 0 21)) rfl dX8_change_233 ?_
          refine r_if_eq hX (tgt := 243) dX8_change_236 (by decide) (fun hc26 => ?_) (fun hc26 => ?_)
          · have h := ite_t hc26 h
            refine r_iconst hX dX8_change_243 (v := 0) (by decide) ?_
            exact r_iret hX hQ (pr1 h) (pr2 h) dX8_change_244
          · have h := ite_f hc26 h
            refine r_iconst hX dX8_change_239 (v := 2) (by decide) ?_
            refine r_goto hX (tgt := 244) dX8_change_240 (by decide) ?_
            exact r_iret hX hQ (pr1 h) (pr2 h) dX8_change_244
        · have h := ite_f hc24 h
          refine r_iconst hX dX8_change_223 (v := 1) (by decide) ?_
          refine r_goto hX (tgt := 228) dX8_change_224 (by decide) ?_
          refine r_iadd hX dX8_change_228 ?_
          refine r_put hX 0 0 kyR0 rfl rfl inlX8 tyX8 tyX8_ok nmX8 20 (by decide) tw3_60 rfl (tyX8_ok 20 (by decide)) rfl rfl (Nat.le_of_ble_eq_true rfl) rfl dX8_change_229 (fun μ27 eμ27 => ?_)
          have h := mst_at eμ27 h
          refine r_aload_n hX dX8_change_232 0 rfl ?_
          refine r_get hX 0 0 kyR0 rfl rfl inlX8 21 (by decide) tw3_61 (v := .int (μ27 0 0 21)) rfl dX8_change_233 ?_
          refine r_if_eq hX (tgt := 243) dX8_change_236 (by decide) (fun hc28 => ?_) (fun hc28 => ?_)
          · have h := ite_t hc28 h
            refine r_iconst hX dX8_change_243 (v := 0) (by decide) ?_
            exact r_iret hX hQ (pr1 h) (pr2 h) dX8_change_244
          · have h := ite_f hc28 h
            refine r_iconst hX dX8_change_239 (v := 2) (by decide) ?_
            refine r_goto hX (tgt := 244) dX8_change_240 (by decide) ?_
            exact r_iret hX hQ (pr1 h) (pr2 h) dX8_change_244
      · have h := ite_t hc23 h
        refine r_aload_n hX dX8_change_82 0 rfl ?_
        refine r_get hX 0 0 kyR0 rfl rfl inlX8 18 (by decide) tw3_58 (v := .ref (ad 18 0)) rfl dX8_change_83 ?_
        refine r_bipush hX dX8_change_86 (v := 40) (by decide) ?_
        refine r_iload_n hX dX8_change_88 1 rfl ?_
        refine r_imul hX dX8_change_89 ?_
        refine r_iload_n hX dX8_change_90 3 rfl ?_
        refine r_iadd hX dX8_change_91 ?_
        obtain ⟨hb29, h⟩ := ite_some h
        refine r_iald hX 18 0 kyR18 rfl (t0 := 0) rfl hb29 dX8_change_92 ?_
        refine r_istore hX dX8_change_93 (lv' := [(4, .int (μ 18 0 ((40 * x1) + x3).toNatClampNeg)), (0, .ref (ad 0 0)), (1, .int x1), (2, .int x2), (3, .int x3)]) (by decide) rfl ?_
        refine r_aload_n hX dX8_change_95 1 rfl ?_
        refine r_iload_n hX dX8_change_96 3 rfl ?_
        obtain ⟨q31, hq30, h⟩ := bind_ex h
        refine r_callV hX 0 0 (As := [.int x2]) (rest := []) (st' := [.int q31.1]) (res := (some (.int q31.1))) (μ' := q31.2) (mX8_begins x2 hq30) ckV_X8_119 ⟨rfl, rfl, by decide, by decide⟩ kyR0 rfl rfl rfl rfl (Nat.le_of_ble_eq_true rfl) dX8_change_97 rfl ?_
        refine r_istore hX dX8_change_100 (lv' := [(5, .int q31.1), (4, .int (μ 18 0 ((40 * x1) + x3).toNatClampNeg)), (0, .ref (ad 0 0)), (1, .int x1), (2, .int x2), (3, .int x3)]) (by decide) rfl ?_
        refine r_aload_n hX dX8_change_102 2 rfl ?_
        refine r_get hX 0 0 kyR0 rfl rfl inlX8 21 (by decide) tw3_61 (v := .int (q31.2 0 0 21)) rfl dX8_change_103 ?_
        refine r_if_ne hX (tgt := 205) dX8_change_106 (by decide) (fun hc32 => ?_) (fun hc32 => ?_)
        · have h := ite_f hc32 h
          refine r_iinc hX dX8_change_205 (j := 5) (v := x3 + 1) (lv' := [(3, .int (x3 + 1)), (5, .int q31.1), (4, .int (μ 18 0 ((40 * x1) + x3).toNatClampNeg)), (0, .ref (ad 0 0)), (1, .int x1), (2, .int x2)]) rfl (congrArg (x3 + ·) (by decide)) (by decide) rfl ?_
          refine r_goto hX (tgt := 65) dX8_change_208 (by decide) ?_
          refine r_sub [3, 4, 5, 0] rfl ?_
          exact ih q31.2 (x3 + 1) h
        · have h := ite_t hc32 h
          refine r_aload_n hX dX8_change_109 2 rfl ?_
          refine r_get hX 0 0 kyR0 rfl rfl inlX8 1 (by decide) tw3_41 (v := .ref (ad 1 0)) rfl dX8_change_110 ?_
          refine r_aload_n hX dX8_change_113 2 rfl ?_
          refine r_get hX 0 0 kyR0 rfl rfl inlX8 0 (by decide) tw3_40 (v := .int (q31.2 0 0 0)) rfl dX8_change_114 ?_
          refine r_iload hX dX8_change_117 0 rfl ?_
          refine r_if_eq hX (tgt := 139) dX8_change_119 (by decide) (fun hc33 => ?_) (fun hc33 => ?_)
          · have h := ite_t hc33 h
            refine r_aload_n hX dX8_change_139 2 rfl ?_
            refine r_get hX 0 0 kyR0 rfl rfl inlX8 1 (by decide) tw3_41 (v := .ref (ad 1 0)) rfl dX8_change_140 ?_
            refine r_iload hX dX8_change_143 1 rfl ?_
            obtain ⟨hb34, h⟩ := ite_some h
            refine r_iald hX 1 0 kyR1 rfl (t0 := 0) rfl hb34 dX8_change_145 ?_
            refine r_aload_n hX dX8_change_146 2 rfl ?_
            refine r_get hX 0 0 kyR0 rfl rfl inlX8 5 (by decide) tw3_45 (v := .ref (ad 5 0)) rfl dX8_change_147 ?_
            refine r_iload_n hX dX8_change_150 4 rfl ?_
            obtain ⟨hb35, h⟩ := ite_some h
            refine r_iald hX 5 0 kyR5 rfl (t0 := 0) rfl hb35 dX8_change_151 ?_
            refine r_iadd hX dX8_change_152 ?_
            obtain ⟨hb36, h⟩ := ite_some h
            refine r_iast hX 1 0 kyR1 (fun _ => rfl) (t0 := 0) rfl hb36 dX8_change_153 (fun μ37 eμ37 => ?_)
            have h := mst_at eμ37 h
            refine r_aload_n hX dX8_change_154 2 rfl ?_
            refine r_get hX 0 0 kyR0 rfl rfl inlX8 2 (by decide) tw3_42 (v := .ref (ad 2 0)) rfl dX8_change_155 ?_
            refine r_aload_n hX dX8_change_158 2 rfl ?_
            refine r_get hX 0 0 kyR0 rfl rfl inlX8 0 (by decide) tw3_40 (v := .int (μ37 0 0 0)) rfl dX8_change_159 ?_
            refine r_aload_n hX dX8_change_162 2 rfl ?_
            refine r_get hX 0 0 kyR0 rfl rfl inlX8 2 (by decide) tw3_42 (v := .ref (ad 2 0)) rfl dX8_change_163 ?_
            refine r_iload hX dX8_change_166 1 rfl ?_
            obtain ⟨hb38, h⟩ := ite_some h
            refine r_iald hX 2 0 kyR2 rfl (t0 := 0) rfl hb38 dX8_change_168 ?_
            obtain ⟨hb39, h⟩ := ite_some h
            refine r_iast hX 2 0 kyR2 (fun _ => rfl) (t0 := 0) rfl hb39 dX8_change_169 (fun μ40 eμ40 => ?_)
            have h := mst_at eμ40 h
            refine r_aload_n hX dX8_change_170 2 rfl ?_
            refine r_get hX 0 0 kyR0 rfl rfl inlX8 18 (by decide) tw3_58 (v := .ref (ad 18 0)) rfl dX8_change_171 ?_
            refine r_bipush hX dX8_change_174 (v := 40) (by decide) ?_
            refine r_iload_n hX dX8_change_176 3 rfl ?_
            refine r_imul hX dX8_change_177 ?_
            refine r_iload_n hX dX8_change_178 5 rfl ?_
            refine r_iadd hX dX8_change_179 ?_
            refine r_aload_n hX dX8_change_180 2 rfl ?_
            refine r_get hX 0 0 kyR0 rfl rfl inlX8 0 (by decide) tw3_40 (v := .int (μ40 0 0 0)) rfl dX8_change_181 ?_
            obtain ⟨hb41, h⟩ := ite_some h
            refine r_iast hX 18 0 kyR18 (fun _ => rfl) (t0 := 0) rfl hb41 dX8_change_184 (fun μ42 eμ42 => ?_)
            have h := mst_at eμ42 h
            refine r_aload_n hX dX8_change_185 2 rfl ?_
            refine r_dup hX dX8_change_186 rfl ?_
            refine r_get hX 0 0 kyR0 rfl rfl inlX8 0 (by decide) tw3_40 (v := .int (μ42 0 0 0)) rfl dX8_change_187 ?_
            refine r_iconst hX dX8_change_190 (v := 1) (by decide) ?_
            refine r_iadd hX dX8_change_191 ?_
            refine r_put hX 0 0 kyR0 rfl rfl inlX8 tyX8 tyX8_ok nmX8 0 (by decide) tw3_40 rfl (tyX8_ok 0 (by decide)) rfl rfl (Nat.le_of_ble_eq_true rfl) rfl dX8_change_192 (fun μ43 eμ43 => ?_)
            have h := mst_at eμ43 h
            refine r_aload_n hX dX8_change_195 2 rfl ?_
            refine r_dup hX dX8_change_196 rfl ?_
            refine r_get hX 0 0 kyR0 rfl rfl inlX8 25 (by decide) tw3_65 (v := .int (μ43 0 0 25)) rfl dX8_change_197 ?_
            refine r_iconst hX dX8_change_200 (v := 1) (by decide) ?_
            refine r_iadd hX dX8_change_201 ?_
            refine r_put hX 0 0 kyR0 rfl rfl inlX8 tyX8 tyX8_ok nmX8 25 (by decide) tw3_65 rfl (tyX8_ok 25 (by decide)) rfl rfl (Nat.le_of_ble_eq_true rfl) rfl dX8_change_202 (fun μ44 eμ44 => ?_)
            have h := mst_at eμ44 h
            refine r_iinc hX dX8_change_205 (j := 5) (v := x3 + 1) (lv' := [(3, .int (x3 + 1)), (5, .int q31.1), (4, .int (μ 18 0 ((40 * x1) + x3).toNatClampNeg)), (0, .ref (ad 0 0)), (1, .int x1), (2, .int x2)]) rfl (congrArg (x3 + ·) (by decide)) (by decide) rfl ?_
            refine r_goto hX (tgt := 65) dX8_change_208 (by decide) ?_
            refine r_sub [3, 4, 5, 0] rfl ?_
            exact ih μ44 (x3 + 1) h
          · have h := ite_f hc33 h
            refine r_aload_n hX dX8_change_122 2 rfl ?_
            refine r_get hX 0 0 kyR0 rfl rfl inlX8 1 (by decide) tw3_41 (v := .ref (ad 1 0)) rfl dX8_change_123 ?_
            refine r_iload hX dX8_change_126 1 rfl ?_
            obtain ⟨hb45, h⟩ := ite_some h
            refine r_iald hX 1 0 kyR1 rfl (t0 := 0) rfl hb45 dX8_change_128 ?_
            refine r_aload_n hX dX8_change_129 2 rfl ?_
            refine r_get hX 0 0 kyR0 rfl rfl inlX8 5 (by decide) tw3_45 (v := .ref (ad 5 0)) rfl dX8_change_130 ?_
            refine r_iload_n hX dX8_change_133 4 rfl ?_
            obtain ⟨hb46, h⟩ := ite_some h
            refine r_iald hX 5 0 kyR5 rfl (t0 := 0) rfl hb46 dX8_change_134 ?_
            refine r_isub hX dX8_change_135 ?_
            refine r_goto hX (tgt := 153) dX8_change_136 (by decide) ?_
            obtain ⟨hb47, h⟩ := ite_some h
            refine r_iast hX 1 0 kyR1 (fun _ => rfl) (t0 := 0) rfl hb47 dX8_change_153 (fun μ48 eμ48 => ?_)
            have h := mst_at eμ48 h
            refine r_aload_n hX dX8_change_154 2 rfl ?_
            refine r_get hX 0 0 kyR0 rfl rfl inlX8 2 (by decide) tw3_42 (v := .ref (ad 2 0)) rfl dX8_change_155 ?_
            refine r_aload_n hX dX8_change_158 2 rfl ?_
            refine r_get hX 0 0 kyR0 rfl rfl inlX8 0 (by decide) tw3_40 (v := .int (μ48 0 0 0)) rfl dX8_change_159 ?_
            refine r_aload_n hX dX8_change_162 2 rfl ?_
            refine r_get hX 0 0 kyR0 rfl rfl inlX8 2 (by decide) tw3_42 (v := .ref (ad 2 0)) rfl dX8_change_163 ?_
            refine r_iload hX dX8_change_166 1 rfl ?_
            obtain ⟨hb49, h⟩ := ite_some h
            refine r_iald hX 2 0 kyR2 rfl (t0 := 0) rfl hb49 dX8_change_168 ?_
            obtain ⟨hb50, h⟩ := ite_some h
            refine r_iast hX 2 0 kyR2 (fun _ => rfl) (t0 := 0) rfl hb50 dX8_change_169 (fun μ51 eμ51 => ?_)
            have h := mst_at eμ51 h
            refine r_aload_n hX dX8_change_170 2 rfl ?_
            refine r_get hX 0 0 kyR0 rfl rfl inlX8 18 (by decide) tw3_58 (v := .ref (ad 18 0)) rfl dX8_change_171 ?_
            refine r_bipush hX dX8_change_174 (v := 40) (by decide) ?_
            refine r_iload_n hX dX8_change_176 3 rfl ?_
            refine r_imul hX dX8_change_177 ?_
            refine r_iload_n hX dX8_change_178 5 rfl ?_
            refine r_iadd hX dX8_change_179 ?_
            refine r_aload_n hX dX8_change_180 2 rfl ?_
            refine r_get hX 0 0 kyR0 rfl rfl inlX8 0 (by decide) tw3_40 (v := .int (μ51 0 0 0)) rfl dX8_change_181 ?_
            obtain ⟨hb52, h⟩ := ite_some h
            refine r_iast hX 18 0 kyR18 (fun _ => rfl) (t0 := 0) rfl hb52 dX8_change_184 (fun μ53 eμ53 => ?_)
            have h := mst_at eμ53 h
            refine r_aload_n hX dX8_change_185 2 rfl ?_
            refine r_dup hX dX8_change_186 rfl ?_
            refine r_get hX 0 0 kyR0 rfl rfl inlX8 0 (by decide) tw3_40 (v := .int (μ53 0 0 0)) rfl dX8_change_187 ?_
            refine r_iconst hX dX8_change_190 (v := 1) (by decide) ?_
            refine r_iadd hX dX8_change_191 ?_
            refine r_put hX 0 0 kyR0 rfl rfl inlX8 tyX8 tyX8_ok nmX8 0 (by decide) tw3_40 rfl (tyX8_ok 0 (by decide)) rfl rfl (Nat.le_of_ble_eq_true rfl) rfl dX8_change_192 (fun μ54 eμ54 => ?_)
            have h := mst_at eμ54 h
            refine r_aload_n hX dX8_change_195 2 rfl ?_
            refine r_dup hX dX8_change_196 rfl ?_
            refine r_get hX 0 0 kyR0 rfl rfl inlX8 25 (by decide) tw3_65 (v := .int (μ54 0 0 25)) rfl dX8_change_197 ?_
            refine r_iconst hX dX8_change_200 (v := 1) (by decide) ?_
            refine r_iadd hX dX8_change_201 ?_
            refine r_put hX 0 0 kyR0 rfl rfl inlX8 tyX8 tyX8_ok nmX8 25 (by decide) tw3_65 rfl (tyX8_ok 25 (by decide)) rfl rfl (Nat.le_of_ble_eq_true rfl) rfl dX8_change_202 (fun μ55 eμ55 => ?_)
            have h := mst_at eμ55 h
            refine r_iinc hX dX8_change_205 (j := 5) (v := x3 + 1) (lv' := [(3, .int (x3 + 1)), (5, .int q31.1), (4, .int (μ 18 0 ((40 * x1) + x3).toNatClampNeg)), (0, .ref (ad 0 0)), (1, .int x1), (2, .int x2)]) rfl (congrArg (x3 + ·) (by decide)) (by decide) rfl ?_
            refine r_goto hX (tgt := 65) dX8_change_208 (by decide) ?_
            refine r_sub [3, 4, 5, 0] rfl ?_
            exact ih μ55 (x3 + 1) h
noncomputable def jX8_change (μ : Mu) (a1 : Int32) (a2 : Int32) : Option (Int32 × Mu) := (jX8_isTray μ a1).bind (fun r2 => if r2 = 0 then some ((-1), μ) else (jX8_isHook μ a2).bind (fun r5 => if r5 = 0 then some ((-1), μ) else if inb a1 6 = true then if (μ 15 0 a1.toNatClampNeg) = 0 then if inb a2 8 = true then if (μ 4 0 a2.toNatClampNeg) = 4 then if inb a1 6 = true then if ((μ 0 0 0) + (μ 17 0 a1.toNatClampNeg)) ≤ 120 then (jX8_beginAct μ).bind (fun μ14 => jX8_change_L65 a1 a2 fuel μ14 0) else some ((-3), μ) else none else some ((-2), μ) else none else some ((-2), μ) else none))
set_option maxHeartbeats 4000000 in
set_option maxRecDepth 100000 in
theorem mX8_change {l : Launch} {D : va_G} {cI cH cT : ClassId} {ad : Nat → Nat → Nat} {Z : va_W} {μ : Mu} {r : Int32} {μ' : Mu} (a1 : Int32) (a2 : Int32) (h : jX8_change μ a1 a2 = some (r, μ')) : CT (gR l D cI cH cT ad Z) yX8_change (.code yX8_change cX8_change 6 (some .int) :: wsL_law) rmX8_change [.ref (ad 0 0), .int a1, .int a2] μ (some (.int r)) μ' := by
  refine ct_of (own := RX8) (by decide) ⟨rfl, rfl⟩ (Nat.le_of_ble_eq_true rfl) rfl (fun X hX hQ => ?_)
  have hX : HX (gR l D cI cH cT ad Z) X cX8_change 6 RX8 rmX8_change (some .int) := hX
  show V (gR l D cI cH cT ad Z) X 6 μ 0 [(0, .ref (ad 0 0)), (1, .int a1), (2, .int a2)] []
  unfold jX8_change at h
  refine r_aload_n hX dX8_change_0 0 rfl ?_
  refine r_iload_n hX dX8_change_1 1 rfl ?_
  obtain ⟨r2, hq1, h⟩ := bind_ex h
  refine r_callV hX 0 0 (As := [.int a1]) (rest := []) (st' := [.int r2]) (res := (some (.int r2))) (μ' := μ) (mX8_isTray a1 hq1) ckV_X8_162 ⟨rfl, rfl, by decide, by decide⟩ kyR0 rfl rfl rfl rfl (Nat.le_of_ble_eq_true rfl) dX8_change_2 rfl ?_
  refine r_if_eq hX (tgt := 16) dX8_change_5 (by decide) (fun hc3 => ?_) (fun hc3 => ?_)
  · have h := ite_t hc3 h
    refine r_iconst hX dX8_change_16 (v := (-1)) (by decide) ?_
    exact r_iret hX hQ (pr1 h) (pr2 h) dX8_change_17
  · have h := ite_f hc3 h
    refine r_aload_n hX dX8_change_8 0 rfl ?_
    refine r_iload_n hX dX8_change_9 2 rfl ?_
    obtain ⟨r5, hq4, h⟩ := bind_ex h
    refine r_callV hX 0 0 (As := [.int a2]) (rest := []) (st' := [.int r5]) (res := (some (.int r5))) (μ' := μ) (mX8_isHook a2 hq4) ckV_X8_91 ⟨rfl, rfl, by decide, by decide⟩ kyR0 rfl rfl rfl rfl (Nat.le_of_ble_eq_true rfl) dX8_change_10 rfl ?_
    refine r_if_ne hX (tgt := 18) dX8_change_13 (by decide) (fun hc6 => ?_) (fun hc6 => ?_)
    · have h := ite_f hc6 h
      refine r_aload_n hX dX8_change_18 0 rfl ?_
      refine r_get hX 0 0 kyR0 rfl rfl inlX8 15 (by decide) tw3_55 (v := .ref (ad 15 0)) rfl dX8_change_19 ?_
      refine r_iload_n hX dX8_change_22 1 rfl ?_
      obtain ⟨hb7, h⟩ := ite_some h
      refine r_iald hX 15 0 kyR15 rfl (t0 := 0) rfl hb7 dX8_change_23 ?_
      refine r_if_ne hX (tgt := 37) dX8_change_24 (by decide) (fun hc8 => ?_) (fun hc8 => ?_)
      · have h := ite_f hc8 h
        refine r_bipush hX dX8_change_37 (v := (-2)) (by decide) ?_
        exact r_iret hX hQ (pr1 h) (pr2 h) dX8_change_39
      · have h := ite_t hc8 h
        refine r_aload_n hX dX8_change_27 0 rfl ?_
        refine r_get hX 0 0 kyR0 rfl rfl inlX8 4 (by decide) tw3_44 (v := .ref (ad 4 0)) rfl dX8_change_28 ?_
        refine r_iload_n hX dX8_change_31 2 rfl ?_
        obtain ⟨hb9, h⟩ := ite_some h
        refine r_iald hX 4 0 kyR4 rfl (t0 := 0) rfl hb9 dX8_change_32 ?_
        refine r_iconst hX dX8_change_33 (v := 4) (by decide) ?_
        refine r_icmp_eq hX (tgt := 40) dX8_change_34 (by decide) (fun hc10 => ?_) (fun hc10 => ?_)
        · have h := ite_t hc10 h
          refine r_aload_n hX dX8_change_40 0 rfl ?_
          refine r_get hX 0 0 kyR0 rfl rfl inlX8 0 (by decide) tw3_40 (v := .int (μ 0 0 0)) rfl dX8_change_41 ?_
          refine r_aload_n hX dX8_change_44 0 rfl ?_
          refine r_get hX 0 0 kyR0 rfl rfl inlX8 17 (by decide) tw3_57 (v := .ref (ad 17 0)) rfl dX8_change_45 ?_
          refine r_iload_n hX dX8_change_48 1 rfl ?_
          obtain ⟨hb11, h⟩ := ite_some h
          refine r_iald hX 17 0 kyR17 rfl (t0 := 0) rfl hb11 dX8_change_49 ?_
          refine r_iadd hX dX8_change_50 ?_
          refine r_bipush hX dX8_change_51 (v := 120) (by decide) ?_
          refine r_icmp_le hX (tgt := 59) dX8_change_53 (by decide) (fun hc12 => ?_) (fun hc12 => ?_)
          · have h := ite_t hc12 h
            refine r_aload_n hX dX8_change_59 0 rfl ?_
            obtain ⟨μ14, hq13, h⟩ := bind_ex h
            refine r_callV hX 0 0 (As := []) (rest := []) (st' := []) (res := none) (μ' := μ14) (mX8_beginAct  hq13) ckV_X8_165 ⟨rfl, rfl, by decide, by decide⟩ kyR0 rfl rfl rfl rfl (Nat.le_of_ble_eq_true rfl) dX8_change_60 rfl ?_
            refine r_iconst hX dX8_change_63 (v := 0) (by decide) ?_
            refine r_istore_n hX dX8_change_64 (lv' := [(3, .int 0), (0, .ref (ad 0 0)), (1, .int a1), (2, .int a2)]) (by decide) rfl ?_
            refine r_sub [1, 2, 3, 0] rfl ?_
            exact mX8_change_L65 hX hQ a1 a2 fuel μ14 0 h
          · have h := ite_f hc12 h
            refine r_bipush hX dX8_change_56 (v := (-3)) (by decide) ?_
            exact r_iret hX hQ (pr1 h) (pr2 h) dX8_change_58
        · have h := ite_f hc10 h
          refine r_bipush hX dX8_change_37 (v := (-2)) (by decide) ?_
          exact r_iret hX hQ (pr1 h) (pr2 h) dX8_change_39
    · have h := ite_t hc6 h
      refine r_iconst hX dX8_change_16 (v := (-1)) (by decide) ?_
      exact r_iret hX hQ (pr1 h) (pr2 h) dX8_change_17
abbrev rmX8_all : Room := { frames := 5, cells := 0, slots := 0, locals := 122 }
noncomputable def jX8_all_L94 (x1 : Int32) (x2 : Int32) (x3 : Int32) : Nat → Mu → Int32 → Option (Int32 × Mu)
  | 0, _, _ => none
  | n21 + 1, μ, x4 => if inb x1 6 = true then if (μ 17 0 x1.toNatClampNeg) ≤ x4 then if inb x2 6 = true then if (μ 15 0 x2.toNatClampNeg) = 1 then if inb x2 6 = true then (jX8_merge μ (μ 16 0 x2.toNatClampNeg) 0 x3 (μ 0 0 26)).bind (fun μ36 => (jX8_ends μ36 x2).bind (fun q38 => if q38.1 = 0 then if inb x1 6 = true then mst (mu_st q38.2 17 0 x1.toNatClampNeg 0) (fun μ44 => some (q38.1, μ44)) else none else if inb x1 6 = true then if inb x1 6 = true then mst (mu_st q38.2 17 0 x1.toNatClampNeg (q38.2 17 0 x1.toNatClampNeg)) (fun μ42 => some (q38.1, μ42)) else none else none)) else none else (jX8_ends μ x2).bind (fun q27 => if q27.1 = 0 then if inb x1 6 = true then mst (mu_st q27.2 17 0 x1.toNatClampNeg 0) (fun μ33 => some (q27.1, μ33)) else none else if inb x1 6 = true then if inb x1 6 = true then mst (mu_st q27.2 17 0 x1.toNatClampNeg (q27.2 17 0 x1.toNatClampNeg)) (fun μ31 => some (q27.1, μ31)) else none else none) else none else if (μ 0 0 21) = 0 then if inb ((40 * x1) + x4) 240 = true then if inb x2 6 = true then if (μ 15 0 x2.toNatClampNeg) = 1 then if inb (μ 0 0 26) 41 = true then mst (mu_st μ 27 0 (μ 0 0 26).toNatClampNeg (μ 18 0 ((40 * x1) + x4).toNatClampNeg)) (fun μ75 => mst (mu_st μ75 0 0 26 ((μ75 0 0 26) + 1)) (fun μ76 => jX8_all_L94 x1 x2 x3 n21 μ76 (x4 + 1))) else none else if inb x2 6 = true then if inb x2 6 = true then (jX8_comes μ (μ 15 0 x2.toNatClampNeg) (μ 16 0 x2.toNatClampNeg) (μ 18 0 ((40 * x1) + x4).toNatClampNeg)).bind (fun μ73 => jX8_all_L94 x1 x2 x3 n21 μ73 (x4 + 1)) else none else none else none else none else if inb x2 6 = true then if (μ 15 0 x2.toNatClampNeg) = 1 then if inb x2 6 = true then (jX8_merge μ (μ 16 0 x2.toNatClampNeg) 0 x3 (μ 0 0 26)).bind (fun μ58 => (jX8_ends μ58 x2).bind (fun q60 => if q60.1 = 0 then if inb x1 6 = true then mst (mu_st q60.2 17 0 x1.toNatClampNeg 0) (fun μ66 => some (q60.1, μ66)) else none else if inb x1 6 = true then if inb x1 6 = true then mst (mu_st q60.2 17 0 x1.toNatClampNeg (q60.2 17 0 x1.toNatClampNeg)) (fun μ64 => some (q60.1, μ64)) else none else none)) else none else (jX8_ends μ x2).bind (fun q49 => if q49.1 = 0 then if inb x1 6 = true then mst (mu_st q49.2 17 0 x1.toNatClampNeg 0) (fun μ55 => some (q49.1, μ55)) else none else if inb x1 6 = true then if inb x1 6 = true then mst (mu_st q49.2 17 0 x1.toNatClampNeg (q49.2 17 0 x1.toNatClampNeg)) (fun μ53 => some (q49.1, μ53)) else none else none) else none else none
set_option maxHeartbeats 4000000 in
set_option maxRecDepth 100000 in
theorem mX8_all_L94 {l : Launch} {D : va_G} {cI cH cT : ClassId} {ad : Nat → Nat → Nat} {Z : va_W} {X : Cx} (hX : HX (gR l D cI cH cT ad Z) X cX8_all 6 RX8 rmX8_all (some .int)) {r : Int32} {μ' : Mu} (hQ : HQ (gR l D cI cH cT ad Z) X (some (.int r)) μ') (x1 : Int32) (x2 : Int32) (x3 : Int32) : ∀ (n21 : Nat) (μ : Mu) (x4 : Int32), jX8_all_L94 x1 x2 x3 n21 μ x4 = some (r, μ') → V (gR l D cI cH cT ad Z) X 6 μ 94 [(0, .ref (ad 0 0)), (1, .int x1), (2, .int x2), (3, .int x3), (4, .int x4)] [] := by
  intro n21
  induction n21 with
  | zero => intro μ x4 h; exact none_no h
  | succ n21 ih =>
    intro μ x4 h
    rw [jX8_all_L94] at h
    refine r_iload hX dX8_all_94 4 rfl ?_
    refine r_aload_n hX dX8_all_96 0 rfl ?_
    refine r_get hX 0 0 kyR0 rfl rfl inlX8 17 (by decide) tw3_57 (v := .ref (ad 17 0)) rfl dX8_all_97 ?_
    refine r_iload_n hX dX8_all_100 1 rfl ?_
    obtain ⟨hb22, h⟩ := ite_some h
    refine r_iald hX 17 0 kyR17 rfl (t0 := 0) rfl hb22 dX8_all_101 ?_
    refine r_icmp_ge hX (tgt := 184) dX8_all_102 (by decide) (fun hc23 => ?_) (fun hc23 => ?_)
    · have h := ite_t hc23 h
      refine r_aload_n hX dX8_all_184 0 rfl ?_
      refine r_get hX 0 0 kyR0 rfl rfl inlX8 15 (by decide) tw3_55 (v := .ref (ad 15 0)) rfl dX8_all_185 ?_
      refine r_iload_n hX dX8_all_188 2 rfl ?_
      obtain ⟨hb24, h⟩ := ite_some h
      refine r_iald hX 15 0 kyR15 rfl (t0 := 0) rfl hb24 dX8_all_189 ?_
      refine r_iconst hX dX8_all_190 (v := 1) (by decide) ?_
      refine r_icmp_ne hX (tgt := 210) dX8_all_191 (by decide) (fun hc25 => ?_) (fun hc25 => ?_)
      · have h := ite_f hc25 h
        refine r_aload_n hX dX8_all_210 0 rfl ?_
        refine r_iload_n hX dX8_all_211 2 rfl ?_
        obtain ⟨q27, hq26, h⟩ := bind_ex h
        refine r_callV hX 0 0 (As := [.int x2]) (rest := []) (st' := [.int q27.1]) (res := (some (.int q27.1))) (μ' := q27.2) (mX8_ends x2 hq26) ckV_X8_175 ⟨rfl, rfl, by decide, by decide⟩ kyR0 rfl rfl rfl rfl (Nat.le_of_ble_eq_true rfl) dX8_all_212 rfl ?_
        refine r_istore hX dX8_all_215 (lv' := [(4, .int q27.1), (0, .ref (ad 0 0)), (1, .int x1), (2, .int x2), (3, .int x3)]) (by decide) rfl ?_
        refine r_aload_n hX dX8_all_217 1 rfl ?_
        refine r_get hX 0 0 kyR0 rfl rfl inlX8 17 (by decide) tw3_57 (v := .ref (ad 17 0)) rfl dX8_all_218 ?_
        refine r_iload_n hX dX8_all_221 2 rfl ?_
        refine r_iload hX dX8_all_222 0 rfl ?_
        refine r_if_ne hX (tgt := 231) dX8_all_224 (by decide) (fun hc28 => ?_) (fun hc28 => ?_)
        · have h := ite_f hc28 h
          refine r_aload_n hX dX8_all_231 1 rfl ?_
          refine r_get hX 0 0 kyR0 rfl rfl inlX8 17 (by decide) tw3_57 (v := .ref (ad 17 0)) rfl dX8_all_232 ?_
          refine r_iload_n hX dX8_all_235 2 rfl ?_
          obtain ⟨hb29, h⟩ := ite_some h
          refine r_iald hX 17 0 kyR17 rfl (t0 := 0) rfl hb29 dX8_all_236 ?_
          obtain ⟨hb30, h⟩ := ite_some h
          refine r_iast hX 17 0 kyR17 (fun _ => rfl) (t0 := 0) rfl hb30 dX8_all_237 (fun μ31 eμ31 => ?_)
          have h := mst_at eμ31 h
          refine r_iload hX dX8_all_238 0 rfl ?_
          exact r_iret hX hQ (pr1 h) (pr2 h) dX8_all_240
        · have h := ite_t hc28 h
          refine r_iconst hX dX8_all_227 (v := 0) (by decide) ?_
          refine r_goto hX (tgt := 237) dX8_all_228 (by decide) ?_
          obtain ⟨hb32, h⟩ := ite_some h
          refine r_iast hX 17 0 kyR17 (fun _ => rfl) (t0 := 0) rfl hb32 dX8_all_237 (fun μ33 eμ33 => ?_)
          have h := mst_at eμ33 h
          refine r_iload hX dX8_all_238 0 rfl ?_
          exact r_iret hX hQ (pr1 h) (pr2 h) dX8_all_240
      · have h := ite_t hc25 h
        refine r_aload_n hX dX8_all_194 0 rfl ?_
        refine r_aload_n hX dX8_all_195 0 rfl ?_
        refine r_get hX 0 0 kyR0 rfl rfl inlX8 16 (by decide) tw3_56 (v := .ref (ad 16 0)) rfl dX8_all_196 ?_
        refine r_iload_n hX dX8_all_199 2 rfl ?_
        obtain ⟨hb34, h⟩ := ite_some h
        refine r_iald hX 16 0 kyR16 rfl (t0 := 0) rfl hb34 dX8_all_200 ?_
        refine r_iconst hX dX8_all_201 (v := 0) (by decide) ?_
        refine r_iload_n hX dX8_all_202 3 rfl ?_
        refine r_aload_n hX dX8_all_203 0 rfl ?_
        refine r_get hX 0 0 kyR0 rfl rfl inlX8 26 (by decide) tw3_66 (v := .int (μ 0 0 26)) rfl dX8_all_204 ?_
        obtain ⟨μ36, hq35, h⟩ := bind_ex h
        refine r_callV hX 0 0 (As := [.int (μ 16 0 x2.toNatClampNeg), .int 0, .int x3, .int (μ 0 0 26)]) (rest := []) (st' := []) (res := none) (μ' := μ36) (mX8_merge (μ 16 0 x2.toNatClampNeg) 0 x3 (μ 0 0 26) hq35) ckV_X8_188 ⟨rfl, rfl, by decide, by decide⟩ kyR0 rfl rfl rfl rfl (Nat.le_of_ble_eq_true rfl) dX8_all_207 rfl ?_
        refine r_aload_n hX dX8_all_210 0 rfl ?_
        refine r_iload_n hX dX8_all_211 2 rfl ?_
        obtain ⟨q38, hq37, h⟩ := bind_ex h
        refine r_callV hX 0 0 (As := [.int x2]) (rest := []) (st' := [.int q38.1]) (res := (some (.int q38.1))) (μ' := q38.2) (mX8_ends x2 hq37) ckV_X8_175 ⟨rfl, rfl, by decide, by decide⟩ kyR0 rfl rfl rfl rfl (Nat.le_of_ble_eq_true rfl) dX8_all_212 rfl ?_
        refine r_istore hX dX8_all_215 (lv' := [(4, .int q38.1), (0, .ref (ad 0 0)), (1, .int x1), (2, .int x2), (3, .int x3)]) (by decide) rfl ?_
        refine r_aload_n hX dX8_all_217 1 rfl ?_
        refine r_get hX 0 0 kyR0 rfl rfl inlX8 17 (by decide) tw3_57 (v := .ref (ad 17 0)) rfl dX8_all_218 ?_
        refine r_iload_n hX dX8_all_221 2 rfl ?_
        refine r_iload hX dX8_all_222 0 rfl ?_
        refine r_if_ne hX (tgt := 231) dX8_all_224 (by decide) (fun hc39 => ?_) (fun hc39 => ?_)
        · have h := ite_f hc39 h
          refine r_aload_n hX dX8_all_231 1 rfl ?_
          refine r_get hX 0 0 kyR0 rfl rfl inlX8 17 (by decide) tw3_57 (v := .ref (ad 17 0)) rfl dX8_all_232 ?_
          refine r_iload_n hX dX8_all_235 2 rfl ?_
          obtain ⟨hb40, h⟩ := ite_some h
          refine r_iald hX 17 0 kyR17 rfl (t0 := 0) rfl hb40 dX8_all_236 ?_
          obtain ⟨hb41, h⟩ := ite_some h
          refine r_iast hX 17 0 kyR17 (fun _ => rfl) (t0 := 0) rfl hb41 dX8_all_237 (fun μ42 eμ42 => ?_)
          have h := mst_at eμ42 h
          refine r_iload hX dX8_all_238 0 rfl ?_
          exact r_iret hX hQ (pr1 h) (pr2 h) dX8_all_240
        · have h := ite_t hc39 h
          refine r_iconst hX dX8_all_227 (v := 0) (by decide) ?_
          refine r_goto hX (tgt := 237) dX8_all_228 (by decide) ?_
          obtain ⟨hb43, h⟩ := ite_some h
          refine r_iast hX 17 0 kyR17 (fun _ => rfl) (t0 := 0) rfl hb43 dX8_all_237 (fun μ44 eμ44 => ?_)
          have h := mst_at eμ44 h
          refine r_iload hX dX8_all_238 0 rfl ?_
          exact r_iret hX hQ (pr1 h) (pr2 h) dX8_all_240
    · have h := ite_f hc23 h
      refine r_aload_n hX dX8_all_105 0 rfl ?_
      refine r_get hX 0 0 kyR0 rfl rfl inlX8 21 (by decide) tw3_61 (v := .int (μ 0 0 21)) rfl dX8_all_106 ?_
      refine r_if_ne hX (tgt := 184) dX8_all_109 (by decide) (fun hc45 => ?_) (fun hc45 => ?_)
      · have h := ite_f hc45 h
        refine r_aload_n hX dX8_all_184 0 rfl ?_
        refine r_get hX 0 0 kyR0 rfl rfl inlX8 15 (by decide) tw3_55 (v := .ref (ad 15 0)) rfl dX8_all_185 ?_
        refine r_iload_n hX dX8_all_188 2 rfl ?_
        obtain ⟨hb46, h⟩ := ite_some h
        refine r_iald hX 15 0 kyR15 rfl (t0 := 0) rfl hb46 dX8_all_189 ?_
        refine r_iconst hX dX8_all_190 (v := 1) (by decide) ?_
        refine r_icmp_ne hX (tgt := 210) dX8_all_191 (by decide) (fun hc47 => ?_) (fun hc47 => ?_)
        · have h := ite_f hc47 h
          refine r_aload_n hX dX8_all_210 0 rfl ?_
          refine r_iload_n hX dX8_all_211 2 rfl ?_
          obtain ⟨q49, hq48, h⟩ := bind_ex h
          refine r_callV hX 0 0 (As := [.int x2]) (rest := []) (st' := [.int q49.1]) (res := (some (.int q49.1))) (μ' := q49.2) (mX8_ends x2 hq48) ckV_X8_175 ⟨rfl, rfl, by decide, by decide⟩ kyR0 rfl rfl rfl rfl (Nat.le_of_ble_eq_true rfl) dX8_all_212 rfl ?_
          refine r_istore hX dX8_all_215 (lv' := [(4, .int q49.1), (0, .ref (ad 0 0)), (1, .int x1), (2, .int x2), (3, .int x3)]) (by decide) rfl ?_
          refine r_aload_n hX dX8_all_217 1 rfl ?_
          refine r_get hX 0 0 kyR0 rfl rfl inlX8 17 (by decide) tw3_57 (v := .ref (ad 17 0)) rfl dX8_all_218 ?_
          refine r_iload_n hX dX8_all_221 2 rfl ?_
          refine r_iload hX dX8_all_222 0 rfl ?_
          refine r_if_ne hX (tgt := 231) dX8_all_224 (by decide) (fun hc50 => ?_) (fun hc50 => ?_)
          · have h := ite_f hc50 h
            refine r_aload_n hX dX8_all_231 1 rfl ?_
            refine r_get hX 0 0 kyR0 rfl rfl inlX8 17 (by decide) tw3_57 (v := .ref (ad 17 0)) rfl dX8_all_232 ?_
            refine r_iload_n hX dX8_all_235 2 rfl ?_
            obtain ⟨hb51, h⟩ := ite_some h
            refine r_iald hX 17 0 kyR17 rfl (t0 := 0) rfl hb51 dX8_all_236 ?_
            obtain ⟨hb52, h⟩ := ite_some h
            refine r_iast hX 17 0 kyR17 (fun _ => rfl) (t0 := 0) rfl hb52 dX8_all_237 (fun μ53 eμ53 => ?_)
            have h := mst_at eμ53 h
            refine r_iload hX dX8_all_238 0 rfl ?_
            exact r_iret hX hQ (pr1 h) (pr2 h) dX8_all_240
          · have h := ite_t hc50 h
            refine r_iconst hX dX8_all_227 (v := 0) (by decide) ?_
            refine r_goto hX (tgt := 237) dX8_all_228 (by decide) ?_
            obtain ⟨hb54, h⟩ := ite_some h
            refine r_iast hX 17 0 kyR17 (fun _ => rfl) (t0 := 0) rfl hb54 dX8_all_237 (fun μ55 eμ55 => ?_)
            have h := mst_at eμ55 h
            refine r_iload hX dX8_all_238 0 rfl ?_
            exact r_iret hX hQ (pr1 h) (pr2 h) dX8_all_240
        · have h := ite_t hc47 h
          refine r_aload_n hX dX8_all_194 0 rfl ?_
          refine r_aload_n hX dX8_all_195 0 rfl ?_
          refine r_get hX 0 0 kyR0 rfl rfl inlX8 16 (by decide) tw3_56 (v := .ref (ad 16 0)) rfl dX8_all_196 ?_
          refine r_iload_n hX dX8_all_199 2 rfl ?_
          obtain ⟨hb56, h⟩ := ite_some h
          refine r_iald hX 16 0 kyR16 rfl (t0 := 0) rfl hb56 dX8_all_200 ?_
          refine r_iconst hX dX8_all_201 (v := 0) (by decide) ?_
          refine r_iload_n hX dX8_all_202 3 rfl ?_
          refine r_aload_n hX dX8_all_203 0 rfl ?_
          refine r_get hX 0 0 kyR0 rfl rfl inlX8 26 (by decide) tw3_66 (v := .int (μ 0 0 26)) rfl dX8_all_204 ?_
          obtain ⟨μ58, hq57, h⟩ := bind_ex h
          refine r_callV hX 0 0 (As := [.int (μ 16 0 x2.toNatClampNeg), .int 0, .int x3, .int (μ 0 0 26)]) (rest := []) (st' := []) (res := none) (μ' := μ58) (mX8_merge (μ 16 0 x2.toNatClampNeg) 0 x3 (μ 0 0 26) hq57) ckV_X8_188 ⟨rfl, rfl, by decide, by decide⟩ kyR0 rfl rfl rfl rfl (Nat.le_of_ble_eq_true rfl) dX8_all_207 rfl ?_
          refine r_aload_n hX dX8_all_210 0 rfl ?_
          refine r_iload_n hX dX8_all_211 2 rfl ?_
          obtain ⟨q60, hq59, h⟩ := bind_ex h
          refine r_callV hX 0 0 (As := [.int x2]) (rest := []) (st' := [.int q60.1]) (res := (some (.int q60.1))) (μ' := q60.2) (mX8_ends x2 hq59) ckV_X8_175 ⟨rfl, rfl, by decide, by decide⟩ kyR0 rfl rfl rfl rfl (Nat.le_of_ble_eq_true rfl) dX8_all_212 rfl ?_
          refine r_istore hX dX8_all_215 (lv' := [(4, .int q60.1), (0, .ref (ad 0 0)), (1, .int x1), (2, .int x2), (3, .int x3)]) (by decide) rfl ?_
          refine r_aload_n hX dX8_all_217 1 rfl ?_
          refine r_get hX 0 0 kyR0 rfl rfl inlX8 17 (by decide) tw3_57 (v := .ref (ad 17 0)) rfl dX8_all_218 ?_
          refine r_iload_n hX dX8_all_221 2 rfl ?_
          refine r_iload hX dX8_all_222 0 rfl ?_
          refine r_if_ne hX (tgt := 231) dX8_all_224 (by decide) (fun hc61 => ?_) (fun hc61 => ?_)
          · have h := ite_f hc61 h
            refine r_aload_n hX dX8_all_231 1 rfl ?_
            refine r_get hX 0 0 kyR0 rfl rfl inlX8 17 (by decide) tw3_57 (v := .ref (ad 17 0)) rfl dX8_all_232 ?_
            refine r_iload_n hX dX8_all_235 2 rfl ?_
            obtain ⟨hb62, h⟩ := ite_some h
            refine r_iald hX 17 0 kyR17 rfl (t0 := 0) rfl hb62 dX8_all_236 ?_
            obtain ⟨hb63, h⟩ := ite_some h
            refine r_iast hX 17 0 kyR17 (fun _ => rfl) (t0 := 0) rfl hb63 dX8_all_237 (fun μ64 eμ64 => ?_)
            have h := mst_at eμ64 h
            refine r_iload hX dX8_all_238 0 rfl ?_
            exact r_iret hX hQ (pr1 h) (pr2 h) dX8_all_240
          · have h := ite_t hc61 h
            refine r_iconst hX dX8_all_227 (v := 0) (by decide) ?_
            refine r_goto hX (tgt := 237) dX8_all_228 (by decide) ?_
            obtain ⟨hb65, h⟩ := ite_some h
            refine r_iast hX 17 0 kyR17 (fun _ => rfl) (t0 := 0) rfl hb65 dX8_all_237 (fun μ66 eμ66 => ?_)
            have h := mst_at eμ66 h
            refine r_iload hX dX8_all_238 0 rfl ?_
            exact r_iret hX hQ (pr1 h) (pr2 h) dX8_all_240
      · have h := ite_t hc45 h
        refine r_aload_n hX dX8_all_112 0 rfl ?_
        refine r_get hX 0 0 kyR0 rfl rfl inlX8 18 (by decide) tw3_58 (v := .ref (ad 18 0)) rfl dX8_all_113 ?_
        refine r_bipush hX dX8_all_116 (v := 40) (by decide) ?_
        refine r_iload_n hX dX8_all_118 1 rfl ?_
        refine r_imul hX dX8_all_119 ?_
        refine r_iload hX dX8_all_120 4 rfl ?_
        refine r_iadd hX dX8_all_122 ?_
        obtain ⟨hb67, h⟩ := ite_some h
        refine r_iald hX 18 0 kyR18 rfl (t0 := 0) rfl hb67 dX8_all_123 ?_
        refine r_istore hX dX8_all_124 (lv' := [(5, .int (μ 18 0 ((40 * x1) + x4).toNatClampNeg)), (0, .ref (ad 0 0)), (1, .int x1), (2, .int x2), (3, .int x3), (4, .int x4)]) (by decide) rfl ?_
        refine r_aload_n hX dX8_all_126 1 rfl ?_
        refine r_get hX 0 0 kyR0 rfl rfl inlX8 15 (by decide) tw3_55 (v := .ref (ad 15 0)) rfl dX8_all_127 ?_
        refine r_iload_n hX dX8_all_130 3 rfl ?_
        obtain ⟨hb68, h⟩ := ite_some h
        refine r_iald hX 15 0 kyR15 rfl (t0 := 0) rfl hb68 dX8_all_131 ?_
        refine r_iconst hX dX8_all_132 (v := 1) (by decide) ?_
        refine r_icmp_ne hX (tgt := 160) dX8_all_133 (by decide) (fun hc69 => ?_) (fun hc69 => ?_)
        · have h := ite_f hc69 h
          refine r_aload_n hX dX8_all_160 1 rfl ?_
          refine r_aload_n hX dX8_all_161 1 rfl ?_
          refine r_get hX 0 0 kyR0 rfl rfl inlX8 15 (by decide) tw3_55 (v := .ref (ad 15 0)) rfl dX8_all_162 ?_
          refine r_iload_n hX dX8_all_165 3 rfl ?_
          obtain ⟨hb70, h⟩ := ite_some h
          refine r_iald hX 15 0 kyR15 rfl (t0 := 0) rfl hb70 dX8_all_166 ?_
          refine r_aload_n hX dX8_all_167 1 rfl ?_
          refine r_get hX 0 0 kyR0 rfl rfl inlX8 16 (by decide) tw3_56 (v := .ref (ad 16 0)) rfl dX8_all_168 ?_
          refine r_iload_n hX dX8_all_171 3 rfl ?_
          obtain ⟨hb71, h⟩ := ite_some h
          refine r_iald hX 16 0 kyR16 rfl (t0 := 0) rfl hb71 dX8_all_172 ?_
          refine r_iload hX dX8_all_173 0 rfl ?_
          obtain ⟨μ73, hq72, h⟩ := bind_ex h
          refine r_callV hX 0 0 (As := [.int (μ 15 0 x2.toNatClampNeg), .int (μ 16 0 x2.toNatClampNeg), .int (μ 18 0 ((40 * x1) + x4).toNatClampNeg)]) (rest := []) (st' := []) (res := none) (μ' := μ73) (mX8_comes (μ 15 0 x2.toNatClampNeg) (μ 16 0 x2.toNatClampNeg) (μ 18 0 ((40 * x1) + x4).toNatClampNeg) hq72) ckV_X8_171 ⟨rfl, rfl, by decide, by decide⟩ kyR0 rfl rfl rfl rfl (Nat.le_of_ble_eq_true rfl) dX8_all_175 rfl ?_
          refine r_iinc hX dX8_all_178 (j := 5) (v := x4 + 1) (lv' := [(4, .int (x4 + 1)), (5, .int (μ 18 0 ((40 * x1) + x4).toNatClampNeg)), (0, .ref (ad 0 0)), (1, .int x1), (2, .int x2), (3, .int x3)]) rfl (congrArg (x4 + ·) (by decide)) (by decide) rfl ?_
          refine r_goto hX (tgt := 94) dX8_all_181 (by decide) ?_
          refine r_sub [2, 3, 4, 5, 0] rfl ?_
          exact ih μ73 (x4 + 1) h
        · have h := ite_t hc69 h
          refine r_aload_n hX dX8_all_136 1 rfl ?_
          refine r_get hX 0 0 kyR0 rfl rfl inlX8 27 (by decide) tw3_67 (v := .ref (ad 27 0)) rfl dX8_all_137 ?_
          refine r_aload_n hX dX8_all_140 1 rfl ?_
          refine r_get hX 0 0 kyR0 rfl rfl inlX8 26 (by decide) tw3_66 (v := .int (μ 0 0 26)) rfl dX8_all_141 ?_
          refine r_iload hX dX8_all_144 0 rfl ?_
          obtain ⟨hb74, h⟩ := ite_some h
          refine r_iast hX 27 0 kyR27 (fun _ => rfl) (t0 := 0) rfl hb74 dX8_all_146 (fun μ75 eμ75 => ?_)
          have h := mst_at eμ75 h
          refine r_aload_n hX dX8_all_147 1 rfl ?_
          refine r_dup hX dX8_all_148 rfl ?_
          refine r_get hX 0 0 kyR0 rfl rfl inlX8 26 (by decide) tw3_66 (v := .int (μ75 0 0 26)) rfl dX8_all_149 ?_
          refine r_iconst hX dX8_all_152 (v := 1) (by decide) ?_
          refine r_iadd hX dX8_all_153 ?_
          refine r_put hX 0 0 kyR0 rfl rfl inlX8 tyX8 tyX8_ok nmX8 26 (by decide) tw3_66 rfl (tyX8_ok 26 (by decide)) rfl rfl (Nat.le_of_ble_eq_true rfl) rfl dX8_all_154 (fun μ76 eμ76 => ?_)
          have h := mst_at eμ76 h
          refine r_goto hX (tgt := 178) dX8_all_157 (by decide) ?_
          refine r_iinc hX dX8_all_178 (j := 5) (v := x4 + 1) (lv' := [(4, .int (x4 + 1)), (5, .int (μ 18 0 ((40 * x1) + x4).toNatClampNeg)), (0, .ref (ad 0 0)), (1, .int x1), (2, .int x2), (3, .int x3)]) rfl (congrArg (x4 + ·) (by decide)) (by decide) rfl ?_
          refine r_goto hX (tgt := 94) dX8_all_181 (by decide) ?_
          refine r_sub [2, 3, 4, 5, 0] rfl ?_
          exact ih μ76 (x4 + 1) h
noncomputable def jX8_all (μ : Mu) (a1 : Int32) (a2 : Int32) : Option (Int32 × Mu) := (jX8_isTray μ a1).bind (fun r2 => if r2 = 0 then some ((-1), μ) else (jX8_isTray μ a2).bind (fun r5 => if r5 = 0 then some ((-1), μ) else if a1 = a2 then some ((-1), μ) else if inb a1 6 = true then if inb a2 6 = true then if (μ 15 0 a1.toNatClampNeg) = (μ 15 0 a2.toNatClampNeg) then if inb a1 6 = true then if inb a2 6 = true then if (μ 16 0 a1.toNatClampNeg) = (μ 16 0 a2.toNatClampNeg) then if inb a1 6 = true then if inb a2 6 = true then if ((μ 17 0 a1.toNatClampNeg) + (μ 17 0 a2.toNatClampNeg)) ≤ 40 then (jX8_beginAct μ).bind (fun μ18 => (jX8_load μ18 a2).bind (fun μ20 => jX8_all_L94 a1 a2 (μ20 0 0 26) fuel μ20 0)) else some ((-3), μ) else none else none else some ((-2), μ) else none else none else some ((-2), μ) else none else none))
set_option maxHeartbeats 4000000 in
set_option maxRecDepth 100000 in
theorem mX8_all {l : Launch} {D : va_G} {cI cH cT : ClassId} {ad : Nat → Nat → Nat} {Z : va_W} {μ : Mu} {r : Int32} {μ' : Mu} (a1 : Int32) (a2 : Int32) (h : jX8_all μ a1 a2 = some (r, μ')) : CT (gR l D cI cH cT ad Z) yX8_all (.code yX8_all cX8_all 6 (some .int) :: wsL_law) rmX8_all [.ref (ad 0 0), .int a1, .int a2] μ (some (.int r)) μ' := by
  refine ct_of (own := RX8) (by decide) ⟨rfl, rfl⟩ (Nat.le_of_ble_eq_true rfl) rfl (fun X hX hQ => ?_)
  have hX : HX (gR l D cI cH cT ad Z) X cX8_all 6 RX8 rmX8_all (some .int) := hX
  show V (gR l D cI cH cT ad Z) X 6 μ 0 [(0, .ref (ad 0 0)), (1, .int a1), (2, .int a2)] []
  unfold jX8_all at h
  refine r_aload_n hX dX8_all_0 0 rfl ?_
  refine r_iload_n hX dX8_all_1 1 rfl ?_
  obtain ⟨r2, hq1, h⟩ := bind_ex h
  refine r_callV hX 0 0 (As := [.int a1]) (rest := []) (st' := [.int r2]) (res := (some (.int r2))) (μ' := μ) (mX8_isTray a1 hq1) ckV_X8_162 ⟨rfl, rfl, by decide, by decide⟩ kyR0 rfl rfl rfl rfl (Nat.le_of_ble_eq_true rfl) dX8_all_2 rfl ?_
  refine r_if_eq hX (tgt := 21) dX8_all_5 (by decide) (fun hc3 => ?_) (fun hc3 => ?_)
  · have h := ite_t hc3 h
    refine r_iconst hX dX8_all_21 (v := (-1)) (by decide) ?_
    exact r_iret hX hQ (pr1 h) (pr2 h) dX8_all_22
  · have h := ite_f hc3 h
    refine r_aload_n hX dX8_all_8 0 rfl ?_
    refine r_iload_n hX dX8_all_9 2 rfl ?_
    obtain ⟨r5, hq4, h⟩ := bind_ex h
    refine r_callV hX 0 0 (As := [.int a2]) (rest := []) (st' := [.int r5]) (res := (some (.int r5))) (μ' := μ) (mX8_isTray a2 hq4) ckV_X8_162 ⟨rfl, rfl, by decide, by decide⟩ kyR0 rfl rfl rfl rfl (Nat.le_of_ble_eq_true rfl) dX8_all_10 rfl ?_
    refine r_if_eq hX (tgt := 21) dX8_all_13 (by decide) (fun hc6 => ?_) (fun hc6 => ?_)
    · have h := ite_t hc6 h
      refine r_iconst hX dX8_all_21 (v := (-1)) (by decide) ?_
      exact r_iret hX hQ (pr1 h) (pr2 h) dX8_all_22
    · have h := ite_f hc6 h
      refine r_iload_n hX dX8_all_16 1 rfl ?_
      refine r_iload_n hX dX8_all_17 2 rfl ?_
      refine r_icmp_ne hX (tgt := 23) dX8_all_18 (by decide) (fun hc7 => ?_) (fun hc7 => ?_)
      · have h := ite_f hc7 h
        refine r_aload_n hX dX8_all_23 0 rfl ?_
        refine r_get hX 0 0 kyR0 rfl rfl inlX8 15 (by decide) tw3_55 (v := .ref (ad 15 0)) rfl dX8_all_24 ?_
        refine r_iload_n hX dX8_all_27 1 rfl ?_
        obtain ⟨hb8, h⟩ := ite_some h
        refine r_iald hX 15 0 kyR15 rfl (t0 := 0) rfl hb8 dX8_all_28 ?_
        refine r_aload_n hX dX8_all_29 0 rfl ?_
        refine r_get hX 0 0 kyR0 rfl rfl inlX8 15 (by decide) tw3_55 (v := .ref (ad 15 0)) rfl dX8_all_30 ?_
        refine r_iload_n hX dX8_all_33 2 rfl ?_
        obtain ⟨hb9, h⟩ := ite_some h
        refine r_iald hX 15 0 kyR15 rfl (t0 := 0) rfl hb9 dX8_all_34 ?_
        refine r_icmp_ne hX (tgt := 53) dX8_all_35 (by decide) (fun hc10 => ?_) (fun hc10 => ?_)
        · have h := ite_f hc10 h
          refine r_bipush hX dX8_all_53 (v := (-2)) (by decide) ?_
          exact r_iret hX hQ (pr1 h) (pr2 h) dX8_all_55
        · have h := ite_t hc10 h
          refine r_aload_n hX dX8_all_38 0 rfl ?_
          refine r_get hX 0 0 kyR0 rfl rfl inlX8 16 (by decide) tw3_56 (v := .ref (ad 16 0)) rfl dX8_all_39 ?_
          refine r_iload_n hX dX8_all_42 1 rfl ?_
          obtain ⟨hb11, h⟩ := ite_some h
          refine r_iald hX 16 0 kyR16 rfl (t0 := 0) rfl hb11 dX8_all_43 ?_
          refine r_aload_n hX dX8_all_44 0 rfl ?_
          refine r_get hX 0 0 kyR0 rfl rfl inlX8 16 (by decide) tw3_56 (v := .ref (ad 16 0)) rfl dX8_all_45 ?_
          refine r_iload_n hX dX8_all_48 2 rfl ?_
          obtain ⟨hb12, h⟩ := ite_some h
          refine r_iald hX 16 0 kyR16 rfl (t0 := 0) rfl hb12 dX8_all_49 ?_
          refine r_icmp_eq hX (tgt := 56) dX8_all_50 (by decide) (fun hc13 => ?_) (fun hc13 => ?_)
          · have h := ite_t hc13 h
            refine r_aload_n hX dX8_all_56 0 rfl ?_
            refine r_get hX 0 0 kyR0 rfl rfl inlX8 17 (by decide) tw3_57 (v := .ref (ad 17 0)) rfl dX8_all_57 ?_
            refine r_iload_n hX dX8_all_60 1 rfl ?_
            obtain ⟨hb14, h⟩ := ite_some h
            refine r_iald hX 17 0 kyR17 rfl (t0 := 0) rfl hb14 dX8_all_61 ?_
            refine r_aload_n hX dX8_all_62 0 rfl ?_
            refine r_get hX 0 0 kyR0 rfl rfl inlX8 17 (by decide) tw3_57 (v := .ref (ad 17 0)) rfl dX8_all_63 ?_
            refine r_iload_n hX dX8_all_66 2 rfl ?_
            obtain ⟨hb15, h⟩ := ite_some h
            refine r_iald hX 17 0 kyR17 rfl (t0 := 0) rfl hb15 dX8_all_67 ?_
            refine r_iadd hX dX8_all_68 ?_
            refine r_bipush hX dX8_all_69 (v := 40) (by decide) ?_
            refine r_icmp_le hX (tgt := 77) dX8_all_71 (by decide) (fun hc16 => ?_) (fun hc16 => ?_)
            · have h := ite_t hc16 h
              refine r_aload_n hX dX8_all_77 0 rfl ?_
              obtain ⟨μ18, hq17, h⟩ := bind_ex h
              refine r_callV hX 0 0 (As := []) (rest := []) (st' := []) (res := none) (μ' := μ18) (mX8_beginAct  hq17) ckV_X8_165 ⟨rfl, rfl, by decide, by decide⟩ kyR0 rfl rfl rfl rfl (Nat.le_of_ble_eq_true rfl) dX8_all_78 rfl ?_
              refine r_aload_n hX dX8_all_81 0 rfl ?_
              refine r_iload_n hX dX8_all_82 2 rfl ?_
              obtain ⟨μ20, hq19, h⟩ := bind_ex h
              refine r_callV hX 0 0 (As := [.int a2]) (rest := []) (st' := []) (res := none) (μ' := μ20) (mX8_load a2 hq19) ckV_X8_168 ⟨rfl, rfl, by decide, by decide⟩ kyR0 rfl rfl rfl rfl (Nat.le_of_ble_eq_true rfl) dX8_all_83 rfl ?_
              refine r_aload_n hX dX8_all_86 0 rfl ?_
              refine r_get hX 0 0 kyR0 rfl rfl inlX8 26 (by decide) tw3_66 (v := .int (μ20 0 0 26)) rfl dX8_all_87 ?_
              refine r_istore_n hX dX8_all_90 (lv' := [(3, .int (μ20 0 0 26)), (0, .ref (ad 0 0)), (1, .int a1), (2, .int a2)]) (by decide) rfl ?_
              refine r_iconst hX dX8_all_91 (v := 0) (by decide) ?_
              refine r_istore hX dX8_all_92 (lv' := [(4, .int 0), (3, .int (μ20 0 0 26)), (0, .ref (ad 0 0)), (1, .int a1), (2, .int a2)]) (by decide) rfl ?_
              refine r_sub [2, 3, 4, 1, 0] rfl ?_
              exact mX8_all_L94 hX hQ a1 a2 (μ20 0 0 26) fuel μ20 0 h
            · have h := ite_f hc16 h
              refine r_bipush hX dX8_all_74 (v := (-3)) (by decide) ?_
              exact r_iret hX hQ (pr1 h) (pr2 h) dX8_all_76
          · have h := ite_f hc13 h
            refine r_bipush hX dX8_all_53 (v := (-2)) (by decide) ?_
            exact r_iret hX hQ (pr1 h) (pr2 h) dX8_all_55
      · have h := ite_t hc7 h
        refine r_iconst hX dX8_all_21 (v := (-1)) (by decide) ?_
        exact r_iret hX hQ (pr1 h) (pr2 h) dX8_all_22
abbrev rmX8_at : Room := { frames := 2, cells := 0, slots := 0, locals := 46 }
noncomputable def jX8_at (μ : Mu) (a1 : Int32) (a2 : Int32) : Option (Int32) := (jX8_isTray μ a1).bind (fun r2 => if r2 = 0 then some (-1) else if 0 ≤ a2 then if inb a1 6 = true then if (μ 17 0 a1.toNatClampNeg) ≤ a2 then some (-4) else if inb ((40 * a1) + a2) 240 = true then some (μ 18 0 ((40 * a1) + a2).toNatClampNeg) else none else none else some (-1))
set_option maxHeartbeats 4000000 in
set_option maxRecDepth 100000 in
theorem mX8_at {l : Launch} {D : va_G} {cI cH cT : ClassId} {ad : Nat → Nat → Nat} {Z : va_W} {μ : Mu} {r : Int32} (a1 : Int32) (a2 : Int32) (h : jX8_at μ a1 a2 = some r) : CT (gR l D cI cH cT ad Z) yX8_at (.code yX8_at cX8_at 3 (some .int) :: wsL_law) rmX8_at [.ref (ad 0 0), .int a1, .int a2] μ (some (.int r)) μ := by
  refine ct_of (own := RX8) (by decide) ⟨rfl, rfl⟩ (Nat.le_of_ble_eq_true rfl) rfl (fun X hX hQ => ?_)
  have hX : HX (gR l D cI cH cT ad Z) X cX8_at 3 RX8 rmX8_at (some .int) := hX
  show V (gR l D cI cH cT ad Z) X 3 μ 0 [(0, .ref (ad 0 0)), (1, .int a1), (2, .int a2)] []
  unfold jX8_at at h
  refine r_aload_n hX dX8_at_0 0 rfl ?_
  refine r_iload_n hX dX8_at_1 1 rfl ?_
  obtain ⟨r2, hq1, h⟩ := bind_ex h
  refine r_callV hX 0 0 (As := [.int a1]) (rest := []) (st' := [.int r2]) (res := (some (.int r2))) (μ' := μ) (mX8_isTray a1 hq1) ckV_X8_162 ⟨rfl, rfl, by decide, by decide⟩ kyR0 rfl rfl rfl rfl (Nat.le_of_ble_eq_true rfl) dX8_at_2 rfl ?_
  refine r_if_eq hX (tgt := 12) dX8_at_5 (by decide) (fun hc3 => ?_) (fun hc3 => ?_)
  · have h := ite_t hc3 h
    refine r_iconst hX dX8_at_12 (v := (-1)) (by decide) ?_
    refine r_goto hX (tgt := 42) dX8_at_13 (by decide) ?_
    exact r_iret hX hQ (Option.some.inj h) rfl dX8_at_42
  · have h := ite_f hc3 h
    refine r_iload_n hX dX8_at_8 2 rfl ?_
    refine r_if_ge hX (tgt := 16) dX8_at_9 (by decide) (fun hc4 => ?_) (fun hc4 => ?_)
    · have h := ite_t hc4 h
      refine r_iload_n hX dX8_at_16 2 rfl ?_
      refine r_aload_n hX dX8_at_17 0 rfl ?_
      refine r_get hX 0 0 kyR0 rfl rfl inlX8 17 (by decide) tw3_57 (v := .ref (ad 17 0)) rfl dX8_at_18 ?_
      refine r_iload_n hX dX8_at_21 1 rfl ?_
      obtain ⟨hb5, h⟩ := ite_some h
      refine r_iald hX 17 0 kyR17 rfl (t0 := 0) rfl hb5 dX8_at_22 ?_
      refine r_icmp_ge hX (tgt := 40) dX8_at_23 (by decide) (fun hc6 => ?_) (fun hc6 => ?_)
      · have h := ite_t hc6 h
        refine r_bipush hX dX8_at_40 (v := (-4)) (by decide) ?_
        exact r_iret hX hQ (Option.some.inj h) rfl dX8_at_42
      · have h := ite_f hc6 h
        refine r_aload_n hX dX8_at_26 0 rfl ?_
        refine r_get hX 0 0 kyR0 rfl rfl inlX8 18 (by decide) tw3_58 (v := .ref (ad 18 0)) rfl dX8_at_27 ?_
        refine r_bipush hX dX8_at_30 (v := 40) (by decide) ?_
        refine r_iload_n hX dX8_at_32 1 rfl ?_
        refine r_imul hX dX8_at_33 ?_
        refine r_iload_n hX dX8_at_34 2 rfl ?_
        refine r_iadd hX dX8_at_35 ?_
        obtain ⟨hb7, h⟩ := ite_some h
        refine r_iald hX 18 0 kyR18 rfl (t0 := 0) rfl hb7 dX8_at_36 ?_
        refine r_goto hX (tgt := 42) dX8_at_37 (by decide) ?_
        exact r_iret hX hQ (Option.some.inj h) rfl dX8_at_42
    · have h := ite_f hc4 h
      refine r_iconst hX dX8_at_12 (v := (-1)) (by decide) ?_
      refine r_goto hX (tgt := 42) dX8_at_13 (by decide) ?_
      exact r_iret hX hQ (Option.some.inj h) rfl dX8_at_42
abbrev rmX8_whole : Room := { frames := 2, cells := 0, slots := 0, locals := 46 }
noncomputable def jX8_whole_L66 (μ : Mu) (x1 : Int32) (x2 : Int32) : Nat → Int32 → Int32 → Option (Int32)
  | 0, _, _ => none
  | n8 + 1, x3, x4 => if inb x1 6 = true then if (μ 17 0 x1.toNatClampNeg) ≤ x4 then if x3 = 0 then some 0 else some 1 else if inb x1 6 = true then if (μ 15 0 x1.toNatClampNeg) = 0 then if x3 = 0 then some 0 else some 1 else if inb x1 6 = true then if (μ 15 0 x1.toNatClampNeg) = 1 then if x3 = 0 then jX8_whole_L66 μ x1 x2 n8 0 (x4 + 1) else if inb x1 6 = true then if inb ((40 * x1) + x4) 240 = true then if inb ((40 * x1) + (x4 - 1)) 240 = true then (jX8_truth μ (μ 16 0 x1.toNatClampNeg) (μ 18 0 ((40 * x1) + x4).toNatClampNeg) (μ 18 0 ((40 * x1) + (x4 - 1)).toNatClampNeg)).bind (fun r29 => if r29 < 0 then jX8_whole_L66 μ x1 x2 n8 0 (x4 + 1) else jX8_whole_L66 μ x1 x2 n8 1 (x4 + 1)) else none else none else none else if x3 = 0 then jX8_whole_L66 μ x1 x2 n8 0 (x4 + 1) else if inb x1 6 = true then if inb ((40 * x1) + x4) 240 = true then if inb ((40 * x1) + ((x4 - 1) / 2)) 240 = true then (jX8_truth μ (μ 16 0 x1.toNatClampNeg) (μ 18 0 ((40 * x1) + x4).toNatClampNeg) (μ 18 0 ((40 * x1) + ((x4 - 1) / 2)).toNatClampNeg)).bind (fun r22 => if r22 < 0 then jX8_whole_L66 μ x1 x2 n8 0 (x4 + 1) else jX8_whole_L66 μ x1 x2 n8 1 (x4 + 1)) else none else none else none else none else none else none
set_option maxHeartbeats 4000000 in
set_option maxRecDepth 100000 in
theorem mX8_whole_L66 {l : Launch} {D : va_G} {cI cH cT : ClassId} {ad : Nat → Nat → Nat} {Z : va_W} {X : Cx} (hX : HX (gR l D cI cH cT ad Z) X cX8_whole 6 RX8 rmX8_whole (some .int)) {μ : Mu} {r : Int32} (hQ : HQ (gR l D cI cH cT ad Z) X (some (.int r)) μ) (x1 : Int32) (x2 : Int32) : ∀ (n8 : Nat) (x3 : Int32) (x4 : Int32), jX8_whole_L66 μ x1 x2 n8 x3 x4 = some r → V (gR l D cI cH cT ad Z) X 6 μ 66 [(0, .ref (ad 0 0)), (1, .int x1), (2, .int x2), (3, .int x3), (4, .int x4)] [] := by
  intro n8
  induction n8 with
  | zero => intro x3 x4 h; exact none_no h
  | succ n8 ih =>
    intro x3 x4 h
    rw [jX8_whole_L66] at h
    refine r_iload hX dX8_whole_66 4 rfl ?_
    refine r_aload_n hX dX8_whole_68 0 rfl ?_
    refine r_get hX 0 0 kyR0 rfl rfl inlX8 17 (by decide) tw3_57 (v := .ref (ad 17 0)) rfl dX8_whole_69 ?_
    refine r_iload_n hX dX8_whole_72 1 rfl ?_
    obtain ⟨hb9, h⟩ := ite_some h
    refine r_iald hX 17 0 kyR17 rfl (t0 := 0) rfl hb9 dX8_whole_73 ?_
    refine r_icmp_ge hX (tgt := 164) dX8_whole_74 (by decide) (fun hc10 => ?_) (fun hc10 => ?_)
    · have h := ite_t hc10 h
      refine r_iload_n hX dX8_whole_164 3 rfl ?_
      refine r_if_eq hX (tgt := 172) dX8_whole_165 (by decide) (fun hc11 => ?_) (fun hc11 => ?_)
      · have h := ite_t hc11 h
        refine r_iconst hX dX8_whole_172 (v := 0) (by decide) ?_
        exact r_iret hX hQ (Option.some.inj h) rfl dX8_whole_173
      · have h := ite_f hc11 h
        refine r_iconst hX dX8_whole_168 (v := 1) (by decide) ?_
        refine r_goto hX (tgt := 173) dX8_whole_169 (by decide) ?_
        exact r_iret hX hQ (Option.some.inj h) rfl dX8_whole_173
    · have h := ite_f hc10 h
      refine r_aload_n hX dX8_whole_77 0 rfl ?_
      refine r_get hX 0 0 kyR0 rfl rfl inlX8 15 (by decide) tw3_55 (v := .ref (ad 15 0)) rfl dX8_whole_78 ?_
      refine r_iload_n hX dX8_whole_81 1 rfl ?_
      obtain ⟨hb12, h⟩ := ite_some h
      refine r_iald hX 15 0 kyR15 rfl (t0 := 0) rfl hb12 dX8_whole_82 ?_
      refine r_if_eq hX (tgt := 164) dX8_whole_83 (by decide) (fun hc13 => ?_) (fun hc13 => ?_)
      · have h := ite_t hc13 h
        refine r_iload_n hX dX8_whole_164 3 rfl ?_
        refine r_if_eq hX (tgt := 172) dX8_whole_165 (by decide) (fun hc14 => ?_) (fun hc14 => ?_)
        · have h := ite_t hc14 h
          refine r_iconst hX dX8_whole_172 (v := 0) (by decide) ?_
          exact r_iret hX hQ (Option.some.inj h) rfl dX8_whole_173
        · have h := ite_f hc14 h
          refine r_iconst hX dX8_whole_168 (v := 1) (by decide) ?_
          refine r_goto hX (tgt := 173) dX8_whole_169 (by decide) ?_
          exact r_iret hX hQ (Option.some.inj h) rfl dX8_whole_173
      · have h := ite_f hc13 h
        refine r_aload_n hX dX8_whole_86 0 rfl ?_
        refine r_get hX 0 0 kyR0 rfl rfl inlX8 15 (by decide) tw3_55 (v := .ref (ad 15 0)) rfl dX8_whole_87 ?_
        refine r_iload_n hX dX8_whole_90 1 rfl ?_
        obtain ⟨hb15, h⟩ := ite_some h
        refine r_iald hX 15 0 kyR15 rfl (t0 := 0) rfl hb15 dX8_whole_91 ?_
        refine r_iconst hX dX8_whole_92 (v := 1) (by decide) ?_
        refine r_icmp_ne hX (tgt := 103) dX8_whole_93 (by decide) (fun hc16 => ?_) (fun hc16 => ?_)
        · have h := ite_f hc16 h
          refine r_iload hX dX8_whole_103 4 rfl ?_
          refine r_iconst hX dX8_whole_105 (v := 1) (by decide) ?_
          refine r_isub hX dX8_whole_106 ?_
          refine r_iconst hX dX8_whole_107 (v := 2) (by decide) ?_
          refine r_idiv hX dX8_whole_108 (by decide) ?_
          refine r_istore hX dX8_whole_109 (lv' := [(5, .int ((x4 - 1) / 2)), (0, .ref (ad 0 0)), (1, .int x1), (2, .int x2), (3, .int x3), (4, .int x4)]) (by decide) rfl ?_
          refine r_iload_n hX dX8_whole_111 4 rfl ?_
          refine r_if_eq hX (tgt := 156) dX8_whole_112 (by decide) (fun hc17 => ?_) (fun hc17 => ?_)
          · have h := ite_t hc17 h
            refine r_iconst hX dX8_whole_156 (v := 0) (by decide) ?_
            refine r_istore_n hX dX8_whole_157 (lv' := [(3, .int 0), (5, .int ((x4 - 1) / 2)), (0, .ref (ad 0 0)), (1, .int x1), (2, .int x2), (4, .int x4)]) (by decide) rfl ?_
            refine r_iinc hX dX8_whole_158 (j := 5) (v := x4 + 1) (lv' := [(4, .int (x4 + 1)), (3, .int 0), (5, .int ((x4 - 1) / 2)), (0, .ref (ad 0 0)), (1, .int x1), (2, .int x2)]) rfl (congrArg (x4 + ·) (by decide)) (by decide) rfl ?_
            refine r_goto hX (tgt := 66) dX8_whole_161 (by decide) ?_
            refine r_sub [3, 4, 5, 1, 0] rfl ?_
            exact ih 0 (x4 + 1) h
          · have h := ite_f hc17 h
            refine r_aload_n hX dX8_whole_115 1 rfl ?_
            refine r_aload_n hX dX8_whole_116 1 rfl ?_
            refine r_get hX 0 0 kyR0 rfl rfl inlX8 16 (by decide) tw3_56 (v := .ref (ad 16 0)) rfl dX8_whole_117 ?_
            refine r_iload_n hX dX8_whole_120 2 rfl ?_
            obtain ⟨hb18, h⟩ := ite_some h
            refine r_iald hX 16 0 kyR16 rfl (t0 := 0) rfl hb18 dX8_whole_121 ?_
            refine r_aload_n hX dX8_whole_122 1 rfl ?_
            refine r_get hX 0 0 kyR0 rfl rfl inlX8 18 (by decide) tw3_58 (v := .ref (ad 18 0)) rfl dX8_whole_123 ?_
            refine r_bipush hX dX8_whole_126 (v := 40) (by decide) ?_
            refine r_iload_n hX dX8_whole_128 2 rfl ?_
            refine r_imul hX dX8_whole_129 ?_
            refine r_iload hX dX8_whole_130 5 rfl ?_
            refine r_iadd hX dX8_whole_132 ?_
            obtain ⟨hb19, h⟩ := ite_some h
            refine r_iald hX 18 0 kyR18 rfl (t0 := 0) rfl hb19 dX8_whole_133 ?_
            refine r_aload_n hX dX8_whole_134 1 rfl ?_
            refine r_get hX 0 0 kyR0 rfl rfl inlX8 18 (by decide) tw3_58 (v := .ref (ad 18 0)) rfl dX8_whole_135 ?_
            refine r_bipush hX dX8_whole_138 (v := 40) (by decide) ?_
            refine r_iload_n hX dX8_whole_140 2 rfl ?_
            refine r_imul hX dX8_whole_141 ?_
            refine r_iload hX dX8_whole_142 0 rfl ?_
            refine r_iadd hX dX8_whole_144 ?_
            obtain ⟨hb20, h⟩ := ite_some h
            refine r_iald hX 18 0 kyR18 rfl (t0 := 0) rfl hb20 dX8_whole_145 ?_
            obtain ⟨r22, hq21, h⟩ := bind_ex h
            refine r_callV hX 0 0 (As := [.int (μ 16 0 x1.toNatClampNeg), .int (μ 18 0 ((40 * x1) + x4).toNatClampNeg), .int (μ 18 0 ((40 * x1) + ((x4 - 1) / 2)).toNatClampNeg)]) (rest := []) (st' := [.int r22]) (res := (some (.int r22))) (μ' := μ) (mX8_truth (μ 16 0 x1.toNatClampNeg) (μ 18 0 ((40 * x1) + x4).toNatClampNeg) (μ 18 0 ((40 * x1) + ((x4 - 1) / 2)).toNatClampNeg) hq21) ckV_X8_122 ⟨rfl, rfl, by decide, by decide⟩ kyR0 rfl rfl rfl rfl (Nat.le_of_ble_eq_true rfl) dX8_whole_146 rfl ?_
            refine r_if_lt hX (tgt := 156) dX8_whole_149 (by decide) (fun hc23 => ?_) (fun hc23 => ?_)
            · have h := ite_t hc23 h
              refine r_iconst hX dX8_whole_156 (v := 0) (by decide) ?_
              refine r_istore_n hX dX8_whole_157 (lv' := [(3, .int 0), (5, .int ((x4 - 1) / 2)), (0, .ref (ad 0 0)), (1, .int x1), (2, .int x2), (4, .int x4)]) (by decide) rfl ?_
              refine r_iinc hX dX8_whole_158 (j := 5) (v := x4 + 1) (lv' := [(4, .int (x4 + 1)), (3, .int 0), (5, .int ((x4 - 1) / 2)), (0, .ref (ad 0 0)), (1, .int x1), (2, .int x2)]) rfl (congrArg (x4 + ·) (by decide)) (by decide) rfl ?_
              refine r_goto hX (tgt := 66) dX8_whole_161 (by decide) ?_
              refine r_sub [3, 4, 5, 1, 0] rfl ?_
              exact ih 0 (x4 + 1) h
            · have h := ite_f hc23 h
              refine r_iconst hX dX8_whole_152 (v := 1) (by decide) ?_
              refine r_goto hX (tgt := 157) dX8_whole_153 (by decide) ?_
              refine r_istore_n hX dX8_whole_157 (lv' := [(3, .int 1), (5, .int ((x4 - 1) / 2)), (0, .ref (ad 0 0)), (1, .int x1), (2, .int x2), (4, .int x4)]) (by decide) rfl ?_
              refine r_iinc hX dX8_whole_158 (j := 5) (v := x4 + 1) (lv' := [(4, .int (x4 + 1)), (3, .int 1), (5, .int ((x4 - 1) / 2)), (0, .ref (ad 0 0)), (1, .int x1), (2, .int x2)]) rfl (congrArg (x4 + ·) (by decide)) (by decide) rfl ?_
              refine r_goto hX (tgt := 66) dX8_whole_161 (by decide) ?_
              refine r_sub [3, 4, 5, 1, 0] rfl ?_
              exact ih 1 (x4 + 1) h
        · have h := ite_t hc16 h
          refine r_iload hX dX8_whole_96 4 rfl ?_
          refine r_iconst hX dX8_whole_98 (v := 1) (by decide) ?_
          refine r_isub hX dX8_whole_99 ?_
          refine r_goto hX (tgt := 109) dX8_whole_100 (by decide) ?_
          refine r_istore hX dX8_whole_109 (lv' := [(5, .int (x4 - 1)), (0, .ref (ad 0 0)), (1, .int x1), (2, .int x2), (3, .int x3), (4, .int x4)]) (by decide) rfl ?_
          refine r_iload_n hX dX8_whole_111 4 rfl ?_
          refine r_if_eq hX (tgt := 156) dX8_whole_112 (by decide) (fun hc24 => ?_) (fun hc24 => ?_)
          · have h := ite_t hc24 h
            refine r_iconst hX dX8_whole_156 (v := 0) (by decide) ?_
            refine r_istore_n hX dX8_whole_157 (lv' := [(3, .int 0), (5, .int (x4 - 1)), (0, .ref (ad 0 0)), (1, .int x1), (2, .int x2), (4, .int x4)]) (by decide) rfl ?_
            refine r_iinc hX dX8_whole_158 (j := 5) (v := x4 + 1) (lv' := [(4, .int (x4 + 1)), (3, .int 0), (5, .int (x4 - 1)), (0, .ref (ad 0 0)), (1, .int x1), (2, .int x2)]) rfl (congrArg (x4 + ·) (by decide)) (by decide) rfl ?_
            refine r_goto hX (tgt := 66) dX8_whole_161 (by decide) ?_
            refine r_sub [3, 4, 5, 1, 0] rfl ?_
            exact ih 0 (x4 + 1) h
          · have h := ite_f hc24 h
            refine r_aload_n hX dX8_whole_115 1 rfl ?_
            refine r_aload_n hX dX8_whole_116 1 rfl ?_
            refine r_get hX 0 0 kyR0 rfl rfl inlX8 16 (by decide) tw3_56 (v := .ref (ad 16 0)) rfl dX8_whole_117 ?_
            refine r_iload_n hX dX8_whole_120 2 rfl ?_
            obtain ⟨hb25, h⟩ := ite_some h
            refine r_iald hX 16 0 kyR16 rfl (t0 := 0) rfl hb25 dX8_whole_121 ?_
            refine r_aload_n hX dX8_whole_122 1 rfl ?_
            refine r_get hX 0 0 kyR0 rfl rfl inlX8 18 (by decide) tw3_58 (v := .ref (ad 18 0)) rfl dX8_whole_123 ?_
            refine r_bipush hX dX8_whole_126 (v := 40) (by decide) ?_
            refine r_iload_n hX dX8_whole_128 2 rfl ?_
            refine r_imul hX dX8_whole_129 ?_
            refine r_iload hX dX8_whole_130 5 rfl ?_
            refine r_iadd hX dX8_whole_132 ?_
            obtain ⟨hb26, h⟩ := ite_some h
            refine r_iald hX 18 0 kyR18 rfl (t0 := 0) rfl hb26 dX8_whole_133 ?_
            refine r_aload_n hX dX8_whole_134 1 rfl ?_
            refine r_get hX 0 0 kyR0 rfl rfl inlX8 18 (by decide) tw3_58 (v := .ref (ad 18 0)) rfl dX8_whole_135 ?_
            refine r_bipush hX dX8_whole_138 (v := 40) (by decide) ?_
            refine r_iload_n hX dX8_whole_140 2 rfl ?_
            refine r_imul hX dX8_whole_141 ?_
            refine r_iload hX dX8_whole_142 0 rfl ?_
            refine r_iadd hX dX8_whole_144 ?_
            obtain ⟨hb27, h⟩ := ite_some h
            refine r_iald hX 18 0 kyR18 rfl (t0 := 0) rfl hb27 dX8_whole_145 ?_
            obtain ⟨r29, hq28, h⟩ := bind_ex h
            refine r_callV hX 0 0 (As := [.int (μ 16 0 x1.toNatClampNeg), .int (μ 18 0 ((40 * x1) + x4).toNatClampNeg), .int (μ 18 0 ((40 * x1) + (x4 - 1)).toNatClampNeg)]) (rest := []) (st' := [.int r29]) (res := (some (.int r29))) (μ' := μ) (mX8_truth (μ 16 0 x1.toNatClampNeg) (μ 18 0 ((40 * x1) + x4).toNatClampNeg) (μ 18 0 ((40 * x1) + (x4 - 1)).toNatClampNeg) hq28) ckV_X8_122 ⟨rfl, rfl, by decide, by decide⟩ kyR0 rfl rfl rfl rfl (Nat.le_of_ble_eq_true rfl) dX8_whole_146 rfl ?_
            refine r_if_lt hX (tgt := 156) dX8_whole_149 (by decide) (fun hc30 => ?_) (fun hc30 => ?_)
            · have h := ite_t hc30 h
              refine r_iconst hX dX8_whole_156 (v := 0) (by decide) ?_
              refine r_istore_n hX dX8_whole_157 (lv' := [(3, .int 0), (5, .int (x4 - 1)), (0, .ref (ad 0 0)), (1, .int x1), (2, .int x2), (4, .int x4)]) (by decide) rfl ?_
              refine r_iinc hX dX8_whole_158 (j := 5) (v := x4 + 1) (lv' := [(4, .int (x4 + 1)), (3, .int 0), (5, .int (x4 - 1)), (0, .ref (ad 0 0)), (1, .int x1), (2, .int x2)]) rfl (congrArg (x4 + ·) (by decide)) (by decide) rfl ?_
              refine r_goto hX (tgt := 66) dX8_whole_161 (by decide) ?_
              refine r_sub [3, 4, 5, 1, 0] rfl ?_
              exact ih 0 (x4 + 1) h
            · have h := ite_f hc30 h
              refine r_iconst hX dX8_whole_152 (v := 1) (by decide) ?_
              refine r_goto hX (tgt := 157) dX8_whole_153 (by decide) ?_
              refine r_istore_n hX dX8_whole_157 (lv' := [(3, .int 1), (5, .int (x4 - 1)), (0, .ref (ad 0 0)), (1, .int x1), (2, .int x2), (4, .int x4)]) (by decide) rfl ?_
              refine r_iinc hX dX8_whole_158 (j := 5) (v := x4 + 1) (lv' := [(4, .int (x4 + 1)), (3, .int 1), (5, .int (x4 - 1)), (0, .ref (ad 0 0)), (1, .int x1), (2, .int x2)]) rfl (congrArg (x4 + ·) (by decide)) (by decide) rfl ?_
              refine r_goto hX (tgt := 66) dX8_whole_161 (by decide) ?_
              refine r_sub [3, 4, 5, 1, 0] rfl ?_
              exact ih 1 (x4 + 1) h
noncomputable def jX8_whole (μ : Mu) (a1 : Int32) (a2 : Int32) : Option (Int32) := (jX8_isTray μ a1).bind (fun r2 => if r2 = 0 then some (-1) else (jX8_in a2.toInt64 0 (3)).bind (fun r5 => if r5 = 0 then some (-1) else if 3 ≤ a2 then jX8_whole_L66 μ a1 a2 fuel 1 1 else if a2 = 0 then if inb a1 6 = true then some (μ 15 0 a1.toNatClampNeg) else none else if a2 = 1 then if inb a1 6 = true then some (μ 17 0 a1.toNatClampNeg) else none else if inb a1 6 = true then some (μ 16 0 a1.toNatClampNeg) else none))
set_option maxHeartbeats 4000000 in
set_option maxRecDepth 100000 in
theorem mX8_whole {l : Launch} {D : va_G} {cI cH cT : ClassId} {ad : Nat → Nat → Nat} {Z : va_W} {μ : Mu} {r : Int32} (a1 : Int32) (a2 : Int32) (h : jX8_whole μ a1 a2 = some r) : CT (gR l D cI cH cT ad Z) yX8_whole (.code yX8_whole cX8_whole 6 (some .int) :: wsL_law) rmX8_whole [.ref (ad 0 0), .int a1, .int a2] μ (some (.int r)) μ := by
  refine ct_of (own := RX8) (by decide) ⟨rfl, rfl⟩ (Nat.le_of_ble_eq_true rfl) rfl (fun X hX hQ => ?_)
  have hX : HX (gR l D cI cH cT ad Z) X cX8_whole 6 RX8 rmX8_whole (some .int) := hX
  show V (gR l D cI cH cT ad Z) X 6 μ 0 [(0, .ref (ad 0 0)), (1, .int a1), (2, .int a2)] []
  unfold jX8_whole at h
  refine r_aload_n hX dX8_whole_0 0 rfl ?_
  refine r_iload_n hX dX8_whole_1 1 rfl ?_
  obtain ⟨r2, hq1, h⟩ := bind_ex h
  refine r_callV hX 0 0 (As := [.int a1]) (rest := []) (st' := [.int r2]) (res := (some (.int r2))) (μ' := μ) (mX8_isTray a1 hq1) ckV_X8_162 ⟨rfl, rfl, by decide, by decide⟩ kyR0 rfl rfl rfl rfl (Nat.le_of_ble_eq_true rfl) dX8_whole_2 rfl ?_
  refine r_if_eq hX (tgt := 20) dX8_whole_5 (by decide) (fun hc3 => ?_) (fun hc3 => ?_)
  · have h := ite_t hc3 h
    refine r_iconst hX dX8_whole_20 (v := (-1)) (by decide) ?_
    exact r_iret hX hQ (Option.some.inj h) rfl dX8_whole_21
  · have h := ite_f hc3 h
    refine r_iload_n hX dX8_whole_8 2 rfl ?_
    refine r_i2l hX dX8_whole_9 ?_
    refine r_lconst hX dX8_whole_10 (v := 0) (by decide) ?_
    refine r_ldc2 hX dX8_whole_11 tw4_59 ?_
    obtain ⟨r5, hq4, h⟩ := bind_ex h
    refine r_callS hX (As := [.long a2.toInt64, .long 0, .long (3)]) (rest := []) (st' := [.int r5]) (res := (some (.int r5))) (μ' := μ) (mX8_in a2.toInt64 0 (3) hq4) ckS_X8_68 ⟨rfl, rfl, by decide, by decide⟩ rfl rfl (Nat.le_of_ble_eq_true rfl) dX8_whole_14 rfl ?_
    refine r_if_ne hX (tgt := 22) dX8_whole_17 (by decide) (fun hc6 => ?_) (fun hc6 => ?_)
    · have h := ite_f hc6 h
      refine r_iload_n hX dX8_whole_22 2 rfl ?_
      refine r_iconst hX dX8_whole_23 (v := 3) (by decide) ?_
      refine r_icmp_ge hX (tgt := 61) dX8_whole_24 (by decide) (fun hc7 => ?_) (fun hc7 => ?_)
      · have h := ite_t hc7 h
        refine r_iconst hX dX8_whole_61 (v := 1) (by decide) ?_
        refine r_istore_n hX dX8_whole_62 (lv' := [(3, .int 1), (0, .ref (ad 0 0)), (1, .int a1), (2, .int a2)]) (by decide) rfl ?_
        refine r_iconst hX dX8_whole_63 (v := 1) (by decide) ?_
        refine r_istore hX dX8_whole_64 (lv' := [(4, .int 1), (3, .int 1), (0, .ref (ad 0 0)), (1, .int a1), (2, .int a2)]) (by decide) rfl ?_
        refine r_sub [2, 3, 4, 1, 0] rfl ?_
        exact mX8_whole_L66 hX hQ a1 a2 fuel 1 1 h
      · have h := ite_f hc7 h
        refine r_iload_n hX dX8_whole_27 2 rfl ?_
        refine r_if_ne hX (tgt := 40) dX8_whole_28 (by decide) (fun hc31 => ?_) (fun hc31 => ?_)
        · have h := ite_f hc31 h
          refine r_iload_n hX dX8_whole_40 2 rfl ?_
          refine r_iconst hX dX8_whole_41 (v := 1) (by decide) ?_
          refine r_icmp_ne hX (tgt := 54) dX8_whole_42 (by decide) (fun hc32 => ?_) (fun hc32 => ?_)
          · have h := ite_f hc32 h
            refine r_aload_n hX dX8_whole_54 0 rfl ?_
            refine r_get hX 0 0 kyR0 rfl rfl inlX8 16 (by decide) tw3_56 (v := .ref (ad 16 0)) rfl dX8_whole_55 ?_
            refine r_iload_n hX dX8_whole_58 1 rfl ?_
            obtain ⟨hb33, h⟩ := ite_some h
            refine r_iald hX 16 0 kyR16 rfl (t0 := 0) rfl hb33 dX8_whole_59 ?_
            exact r_iret hX hQ (Option.some.inj h) rfl dX8_whole_60
          · have h := ite_t hc32 h
            refine r_aload_n hX dX8_whole_45 0 rfl ?_
            refine r_get hX 0 0 kyR0 rfl rfl inlX8 17 (by decide) tw3_57 (v := .ref (ad 17 0)) rfl dX8_whole_46 ?_
            refine r_iload_n hX dX8_whole_49 1 rfl ?_
            obtain ⟨hb34, h⟩ := ite_some h
            refine r_iald hX 17 0 kyR17 rfl (t0 := 0) rfl hb34 dX8_whole_50 ?_
            refine r_goto hX (tgt := 60) dX8_whole_51 (by decide) ?_
            exact r_iret hX hQ (Option.some.inj h) rfl dX8_whole_60
        · have h := ite_t hc31 h
          refine r_aload_n hX dX8_whole_31 0 rfl ?_
          refine r_get hX 0 0 kyR0 rfl rfl inlX8 15 (by decide) tw3_55 (v := .ref (ad 15 0)) rfl dX8_whole_32 ?_
          refine r_iload_n hX dX8_whole_35 1 rfl ?_
          obtain ⟨hb35, h⟩ := ite_some h
          refine r_iald hX 15 0 kyR15 rfl (t0 := 0) rfl hb35 dX8_whole_36 ?_
          refine r_goto hX (tgt := 60) dX8_whole_37 (by decide) ?_
          exact r_iret hX hQ (Option.some.inj h) rfl dX8_whole_60
    · have h := ite_t hc6 h
      refine r_iconst hX dX8_whole_20 (v := (-1)) (by decide) ?_
      exact r_iret hX hQ (Option.some.inj h) rfl dX8_whole_21
abbrev rmX8_same : Room := { frames := 2, cells := 0, slots := 0, locals := 46 }
noncomputable def jX8_same_L42 (μ : Mu) (x1 : Int32) (x2 : Int32) : Nat → Int32 → Int32 → Option (Int32)
  | 0, _, _ => none
  | n10 + 1, x3, x4 => if inb x1 6 = true then if (μ 17 0 x1.toNatClampNeg) ≤ x4 then if x3 = 0 then some 0 else some 1 else if x3 = 0 then if x3 = 0 then some 0 else some 1 else if inb ((40 * x1) + x4) 240 = true then if inb ((40 * x2) + x4) 240 = true then if (μ 18 0 ((40 * x1) + x4).toNatClampNeg) = (μ 18 0 ((40 * x2) + x4).toNatClampNeg) then jX8_same_L42 μ x1 x2 n10 1 (x4 + 1) else jX8_same_L42 μ x1 x2 n10 0 (x4 + 1) else none else none else none
set_option maxHeartbeats 4000000 in
set_option maxRecDepth 100000 in
theorem mX8_same_L42 {l : Launch} {D : va_G} {cI cH cT : ClassId} {ad : Nat → Nat → Nat} {Z : va_W} {X : Cx} (hX : HX (gR l D cI cH cT ad Z) X cX8_same 5 RX8 rmX8_same (some .int)) {μ : Mu} {r : Int32} (hQ : HQ (gR l D cI cH cT ad Z) X (some (.int r)) μ) (x1 : Int32) (x2 : Int32) : ∀ (n10 : Nat) (x3 : Int32) (x4 : Int32), jX8_same_L42 μ x1 x2 n10 x3 x4 = some r → V (gR l D cI cH cT ad Z) X 5 μ 42 [(0, .ref (ad 0 0)), (1, .int x1), (2, .int x2), (3, .int x3), (4, .int x4)] [] := by
  intro n10
  induction n10 with
  | zero => intro x3 x4 h; exact none_no h
  | succ n10 ih =>
    intro x3 x4 h
    rw [jX8_same_L42] at h
    refine r_iload hX dX8_same_42 4 rfl ?_
    refine r_aload_n hX dX8_same_44 0 rfl ?_
    refine r_get hX 0 0 kyR0 rfl rfl inlX8 17 (by decide) tw3_57 (v := .ref (ad 17 0)) rfl dX8_same_45 ?_
    refine r_iload_n hX dX8_same_48 1 rfl ?_
    obtain ⟨hb11, h⟩ := ite_some h
    refine r_iald hX 17 0 kyR17 rfl (t0 := 0) rfl hb11 dX8_same_49 ?_
    refine r_icmp_ge hX (tgt := 96) dX8_same_50 (by decide) (fun hc12 => ?_) (fun hc12 => ?_)
    · have h := ite_t hc12 h
      refine r_iload_n hX dX8_same_96 3 rfl ?_
      refine r_if_eq hX (tgt := 104) dX8_same_97 (by decide) (fun hc13 => ?_) (fun hc13 => ?_)
      · have h := ite_t hc13 h
        refine r_iconst hX dX8_same_104 (v := 0) (by decide) ?_
        exact r_iret hX hQ (Option.some.inj h) rfl dX8_same_105
      · have h := ite_f hc13 h
        refine r_iconst hX dX8_same_100 (v := 1) (by decide) ?_
        refine r_goto hX (tgt := 105) dX8_same_101 (by decide) ?_
        exact r_iret hX hQ (Option.some.inj h) rfl dX8_same_105
    · have h := ite_f hc12 h
      refine r_iload_n hX dX8_same_53 3 rfl ?_
      refine r_if_eq hX (tgt := 96) dX8_same_54 (by decide) (fun hc14 => ?_) (fun hc14 => ?_)
      · have h := ite_t hc14 h
        refine r_iload_n hX dX8_same_96 3 rfl ?_
        refine r_if_eq hX (tgt := 104) dX8_same_97 (by decide) (fun hc15 => ?_) (fun hc15 => ?_)
        · have h := ite_t hc15 h
          refine r_iconst hX dX8_same_104 (v := 0) (by decide) ?_
          exact r_iret hX hQ (Option.some.inj h) rfl dX8_same_105
        · have h := ite_f hc15 h
          refine r_iconst hX dX8_same_100 (v := 1) (by decide) ?_
          refine r_goto hX (tgt := 105) dX8_same_101 (by decide) ?_
          exact r_iret hX hQ (Option.some.inj h) rfl dX8_same_105
      · have h := ite_f hc14 h
        refine r_aload_n hX dX8_same_57 0 rfl ?_
        refine r_get hX 0 0 kyR0 rfl rfl inlX8 18 (by decide) tw3_58 (v := .ref (ad 18 0)) rfl dX8_same_58 ?_
        refine r_bipush hX dX8_same_61 (v := 40) (by decide) ?_
        refine r_iload_n hX dX8_same_63 1 rfl ?_
        refine r_imul hX dX8_same_64 ?_
        refine r_iload hX dX8_same_65 4 rfl ?_
        refine r_iadd hX dX8_same_67 ?_
        obtain ⟨hb16, h⟩ := ite_some h
        refine r_iald hX 18 0 kyR18 rfl (t0 := 0) rfl hb16 dX8_same_68 ?_
        refine r_aload_n hX dX8_same_69 0 rfl ?_
        refine r_get hX 0 0 kyR0 rfl rfl inlX8 18 (by decide) tw3_58 (v := .ref (ad 18 0)) rfl dX8_same_70 ?_
        refine r_bipush hX dX8_same_73 (v := 40) (by decide) ?_
        refine r_iload_n hX dX8_same_75 2 rfl ?_
        refine r_imul hX dX8_same_76 ?_
        refine r_iload hX dX8_same_77 4 rfl ?_
        refine r_iadd hX dX8_same_79 ?_
        obtain ⟨hb17, h⟩ := ite_some h
        refine r_iald hX 18 0 kyR18 rfl (t0 := 0) rfl hb17 dX8_same_80 ?_
        refine r_icmp_ne hX (tgt := 88) dX8_same_81 (by decide) (fun hc18 => ?_) (fun hc18 => ?_)
        · have h := ite_f hc18 h
          refine r_iconst hX dX8_same_88 (v := 0) (by decide) ?_
          refine r_istore_n hX dX8_same_89 (lv' := [(3, .int 0), (0, .ref (ad 0 0)), (1, .int x1), (2, .int x2), (4, .int x4)]) (by decide) rfl ?_
          refine r_iinc hX dX8_same_90 (j := 4) (v := x4 + 1) (lv' := [(4, .int (x4 + 1)), (3, .int 0), (0, .ref (ad 0 0)), (1, .int x1), (2, .int x2)]) rfl (congrArg (x4 + ·) (by decide)) (by decide) rfl ?_
          refine r_goto hX (tgt := 42) dX8_same_93 (by decide) ?_
          refine r_sub [2, 3, 4, 1, 0] rfl ?_
          exact ih 0 (x4 + 1) h
        · have h := ite_t hc18 h
          refine r_iconst hX dX8_same_84 (v := 1) (by decide) ?_
          refine r_goto hX (tgt := 89) dX8_same_85 (by decide) ?_
          refine r_istore_n hX dX8_same_89 (lv' := [(3, .int 1), (0, .ref (ad 0 0)), (1, .int x1), (2, .int x2), (4, .int x4)]) (by decide) rfl ?_
          refine r_iinc hX dX8_same_90 (j := 4) (v := x4 + 1) (lv' := [(4, .int (x4 + 1)), (3, .int 1), (0, .ref (ad 0 0)), (1, .int x1), (2, .int x2)]) rfl (congrArg (x4 + ·) (by decide)) (by decide) rfl ?_
          refine r_goto hX (tgt := 42) dX8_same_93 (by decide) ?_
          refine r_sub [2, 3, 4, 1, 0] rfl ?_
          exact ih 1 (x4 + 1) h
noncomputable def jX8_same (μ : Mu) (a1 : Int32) (a2 : Int32) : Option (Int32) := (jX8_isTray μ a1).bind (fun r2 => if r2 = 0 then some (-1) else (jX8_isTray μ a2).bind (fun r5 => if r5 = 0 then some (-1) else if inb a1 6 = true then if inb a2 6 = true then if (μ 17 0 a1.toNatClampNeg) = (μ 17 0 a2.toNatClampNeg) then jX8_same_L42 μ a1 a2 fuel 1 0 else jX8_same_L42 μ a1 a2 fuel 0 0 else none else none))
set_option maxHeartbeats 4000000 in
set_option maxRecDepth 100000 in
theorem mX8_same {l : Launch} {D : va_G} {cI cH cT : ClassId} {ad : Nat → Nat → Nat} {Z : va_W} {μ : Mu} {r : Int32} (a1 : Int32) (a2 : Int32) (h : jX8_same μ a1 a2 = some r) : CT (gR l D cI cH cT ad Z) yX8_same (.code yX8_same cX8_same 5 (some .int) :: wsL_law) rmX8_same [.ref (ad 0 0), .int a1, .int a2] μ (some (.int r)) μ := by
  refine ct_of (own := RX8) (by decide) ⟨rfl, rfl⟩ (Nat.le_of_ble_eq_true rfl) rfl (fun X hX hQ => ?_)
  have hX : HX (gR l D cI cH cT ad Z) X cX8_same 5 RX8 rmX8_same (some .int) := hX
  show V (gR l D cI cH cT ad Z) X 5 μ 0 [(0, .ref (ad 0 0)), (1, .int a1), (2, .int a2)] []
  unfold jX8_same at h
  refine r_aload_n hX dX8_same_0 0 rfl ?_
  refine r_iload_n hX dX8_same_1 1 rfl ?_
  obtain ⟨r2, hq1, h⟩ := bind_ex h
  refine r_callV hX 0 0 (As := [.int a1]) (rest := []) (st' := [.int r2]) (res := (some (.int r2))) (μ' := μ) (mX8_isTray a1 hq1) ckV_X8_162 ⟨rfl, rfl, by decide, by decide⟩ kyR0 rfl rfl rfl rfl (Nat.le_of_ble_eq_true rfl) dX8_same_2 rfl ?_
  refine r_if_eq hX (tgt := 16) dX8_same_5 (by decide) (fun hc3 => ?_) (fun hc3 => ?_)
  · have h := ite_t hc3 h
    refine r_iconst hX dX8_same_16 (v := (-1)) (by decide) ?_
    exact r_iret hX hQ (Option.some.inj h) rfl dX8_same_17
  · have h := ite_f hc3 h
    refine r_aload_n hX dX8_same_8 0 rfl ?_
    refine r_iload_n hX dX8_same_9 2 rfl ?_
    obtain ⟨r5, hq4, h⟩ := bind_ex h
    refine r_callV hX 0 0 (As := [.int a2]) (rest := []) (st' := [.int r5]) (res := (some (.int r5))) (μ' := μ) (mX8_isTray a2 hq4) ckV_X8_162 ⟨rfl, rfl, by decide, by decide⟩ kyR0 rfl rfl rfl rfl (Nat.le_of_ble_eq_true rfl) dX8_same_10 rfl ?_
    refine r_if_ne hX (tgt := 18) dX8_same_13 (by decide) (fun hc6 => ?_) (fun hc6 => ?_)
    · have h := ite_f hc6 h
      refine r_aload_n hX dX8_same_18 0 rfl ?_
      refine r_get hX 0 0 kyR0 rfl rfl inlX8 17 (by decide) tw3_57 (v := .ref (ad 17 0)) rfl dX8_same_19 ?_
      refine r_iload_n hX dX8_same_22 1 rfl ?_
      obtain ⟨hb7, h⟩ := ite_some h
      refine r_iald hX 17 0 kyR17 rfl (t0 := 0) rfl hb7 dX8_same_23 ?_
      refine r_aload_n hX dX8_same_24 0 rfl ?_
      refine r_get hX 0 0 kyR0 rfl rfl inlX8 17 (by decide) tw3_57 (v := .ref (ad 17 0)) rfl dX8_same_25 ?_
      refine r_iload_n hX dX8_same_28 2 rfl ?_
      obtain ⟨hb8, h⟩ := ite_some h
      refine r_iald hX 17 0 kyR17 rfl (t0 := 0) rfl hb8 dX8_same_29 ?_
      refine r_icmp_ne hX (tgt := 37) dX8_same_30 (by decide) (fun hc9 => ?_) (fun hc9 => ?_)
      · have h := ite_f hc9 h
        refine r_iconst hX dX8_same_37 (v := 0) (by decide) ?_
        refine r_istore_n hX dX8_same_38 (lv' := [(3, .int 0), (0, .ref (ad 0 0)), (1, .int a1), (2, .int a2)]) (by decide) rfl ?_
        refine r_iconst hX dX8_same_39 (v := 0) (by decide) ?_
        refine r_istore hX dX8_same_40 (lv' := [(4, .int 0), (3, .int 0), (0, .ref (ad 0 0)), (1, .int a1), (2, .int a2)]) (by decide) rfl ?_
        refine r_sub [2, 3, 4, 1, 0] rfl ?_
        exact mX8_same_L42 hX hQ a1 a2 fuel 0 0 h
      · have h := ite_t hc9 h
        refine r_iconst hX dX8_same_33 (v := 1) (by decide) ?_
        refine r_goto hX (tgt := 38) dX8_same_34 (by decide) ?_
        refine r_istore_n hX dX8_same_38 (lv' := [(3, .int 1), (0, .ref (ad 0 0)), (1, .int a1), (2, .int a2)]) (by decide) rfl ?_
        refine r_iconst hX dX8_same_39 (v := 0) (by decide) ?_
        refine r_istore hX dX8_same_40 (lv' := [(4, .int 0), (3, .int 1), (0, .ref (ad 0 0)), (1, .int a1), (2, .int a2)]) (by decide) rfl ?_
        refine r_sub [2, 3, 4, 1, 0] rfl ?_
        exact mX8_same_L42 hX hQ a1 a2 fuel 1 0 h
    · have h := ite_t hc6 h
      refine r_iconst hX dX8_same_16 (v := (-1)) (by decide) ?_
      exact r_iret hX hQ (Option.some.inj h) rfl dX8_same_17
abbrev rmX8_thrown : Room := { frames := 0, cells := 0, slots := 0, locals := 0 }
noncomputable def jX8_thrown (μ : Mu) (a1 : Int32) : Option (Int32) := if a1 = 0 then some (μ 0 0 22) else if a1 = 1 then some (μ 0 0 23) else if a1 = 2 then some (μ 0 0 24) else if a1 = 3 then some (μ 0 0 25) else some (-1)
set_option maxHeartbeats 4000000 in
set_option maxRecDepth 100000 in
theorem mX8_thrown {l : Launch} {D : va_G} {cI cH cT : ClassId} {ad : Nat → Nat → Nat} {Z : va_W} {μ : Mu} {r : Int32} (a1 : Int32) (h : jX8_thrown μ a1 = some r) : CT (gR l D cI cH cT ad Z) yX8_thrown (.code yX8_thrown cX8_thrown 2 (some .int) :: wsL_law) rmX8_thrown [.ref (ad 0 0), .int a1] μ (some (.int r)) μ := by
  refine ct_of (own := RX8) (by decide) ⟨rfl, rfl⟩ (Nat.le_of_ble_eq_true rfl) rfl (fun X hX hQ => ?_)
  have hX : HX (gR l D cI cH cT ad Z) X cX8_thrown 2 RX8 rmX8_thrown (some .int) := hX
  show V (gR l D cI cH cT ad Z) X 2 μ 0 [(0, .ref (ad 0 0)), (1, .int a1)] []
  unfold jX8_thrown at h
  refine r_iload_n hX dX8_thrown_0 1 rfl ?_
  refine r_if_ne hX (tgt := 11) dX8_thrown_1 (by decide) (fun hc1 => ?_) (fun hc1 => ?_)
  · have h := ite_f hc1 h
    refine r_iload_n hX dX8_thrown_11 1 rfl ?_
    refine r_iconst hX dX8_thrown_12 (v := 1) (by decide) ?_
    refine r_icmp_ne hX (tgt := 23) dX8_thrown_13 (by decide) (fun hc2 => ?_) (fun hc2 => ?_)
    · have h := ite_f hc2 h
      refine r_iload_n hX dX8_thrown_23 1 rfl ?_
      refine r_iconst hX dX8_thrown_24 (v := 2) (by decide) ?_
      refine r_icmp_ne hX (tgt := 35) dX8_thrown_25 (by decide) (fun hc3 => ?_) (fun hc3 => ?_)
      · have h := ite_f hc3 h
        refine r_iload_n hX dX8_thrown_35 1 rfl ?_
        refine r_iconst hX dX8_thrown_36 (v := 3) (by decide) ?_
        refine r_icmp_ne hX (tgt := 47) dX8_thrown_37 (by decide) (fun hc4 => ?_) (fun hc4 => ?_)
        · have h := ite_f hc4 h
          refine r_iconst hX dX8_thrown_47 (v := (-1)) (by decide) ?_
          exact r_iret hX hQ (Option.some.inj h) rfl dX8_thrown_48
        · have h := ite_t hc4 h
          refine r_aload_n hX dX8_thrown_40 0 rfl ?_
          refine r_get hX 0 0 kyR0 rfl rfl inlX8 25 (by decide) tw3_65 (v := .int (μ 0 0 25)) rfl dX8_thrown_41 ?_
          refine r_goto hX (tgt := 48) dX8_thrown_44 (by decide) ?_
          exact r_iret hX hQ (Option.some.inj h) rfl dX8_thrown_48
      · have h := ite_t hc3 h
        refine r_aload_n hX dX8_thrown_28 0 rfl ?_
        refine r_get hX 0 0 kyR0 rfl rfl inlX8 24 (by decide) tw3_64 (v := .int (μ 0 0 24)) rfl dX8_thrown_29 ?_
        refine r_goto hX (tgt := 48) dX8_thrown_32 (by decide) ?_
        exact r_iret hX hQ (Option.some.inj h) rfl dX8_thrown_48
    · have h := ite_t hc2 h
      refine r_aload_n hX dX8_thrown_16 0 rfl ?_
      refine r_get hX 0 0 kyR0 rfl rfl inlX8 23 (by decide) tw3_63 (v := .int (μ 0 0 23)) rfl dX8_thrown_17 ?_
      refine r_goto hX (tgt := 48) dX8_thrown_20 (by decide) ?_
      exact r_iret hX hQ (Option.some.inj h) rfl dX8_thrown_48
  · have h := ite_t hc1 h
    refine r_aload_n hX dX8_thrown_4 0 rfl ?_
    refine r_get hX 0 0 kyR0 rfl rfl inlX8 22 (by decide) tw3_62 (v := .int (μ 0 0 22)) rfl dX8_thrown_5 ?_
    refine r_goto hX (tgt := 48) dX8_thrown_8 (by decide) ?_
    exact r_iret hX hQ (Option.some.inj h) rfl dX8_thrown_48
abbrev rmX8_count : Room := { frames := 0, cells := 0, slots := 0, locals := 0 }
noncomputable def jX8_count (μ : Mu) (a1 : Int32) : Option (Int32) := if a1 = 0 then some (μ 0 0 0) else if a1 = 1 then some (μ 0 0 3) else if a1 = 2 then some (μ 0 0 14) else if a1 = 3 then some (μ 0 0 9) else if a1 = 4 then some (μ 0 0 19) else if a1 = 5 then some (μ 0 0 20) else some (-1)
set_option maxHeartbeats 4000000 in
set_option maxRecDepth 100000 in
theorem mX8_count {l : Launch} {D : va_G} {cI cH cT : ClassId} {ad : Nat → Nat → Nat} {Z : va_W} {μ : Mu} {r : Int32} (a1 : Int32) (h : jX8_count μ a1 = some r) : CT (gR l D cI cH cT ad Z) yX8_count (.code yX8_count cX8_count 2 (some .int) :: wsL_law) rmX8_count [.ref (ad 0 0), .int a1] μ (some (.int r)) μ := by
  refine ct_of (own := RX8) (by decide) ⟨rfl, rfl⟩ (Nat.le_of_ble_eq_true rfl) rfl (fun X hX hQ => ?_)
  have hX : HX (gR l D cI cH cT ad Z) X cX8_count 2 RX8 rmX8_count (some .int) := hX
  show V (gR l D cI cH cT ad Z) X 2 μ 0 [(0, .ref (ad 0 0)), (1, .int a1)] []
  unfold jX8_count at h
  refine r_iload_n hX dX8_count_0 1 rfl ?_
  refine r_if_ne hX (tgt := 11) dX8_count_1 (by decide) (fun hc1 => ?_) (fun hc1 => ?_)
  · have h := ite_f hc1 h
    refine r_iload_n hX dX8_count_11 1 rfl ?_
    refine r_iconst hX dX8_count_12 (v := 1) (by decide) ?_
    refine r_icmp_ne hX (tgt := 23) dX8_count_13 (by decide) (fun hc2 => ?_) (fun hc2 => ?_)
    · have h := ite_f hc2 h
      refine r_iload_n hX dX8_count_23 1 rfl ?_
      refine r_iconst hX dX8_count_24 (v := 2) (by decide) ?_
      refine r_icmp_ne hX (tgt := 35) dX8_count_25 (by decide) (fun hc3 => ?_) (fun hc3 => ?_)
      · have h := ite_f hc3 h
        refine r_iload_n hX dX8_count_35 1 rfl ?_
        refine r_iconst hX dX8_count_36 (v := 3) (by decide) ?_
        refine r_icmp_ne hX (tgt := 47) dX8_count_37 (by decide) (fun hc4 => ?_) (fun hc4 => ?_)
        · have h := ite_f hc4 h
          refine r_iload_n hX dX8_count_47 1 rfl ?_
          refine r_iconst hX dX8_count_48 (v := 4) (by decide) ?_
          refine r_icmp_ne hX (tgt := 59) dX8_count_49 (by decide) (fun hc5 => ?_) (fun hc5 => ?_)
          · have h := ite_f hc5 h
            refine r_iload_n hX dX8_count_59 1 rfl ?_
            refine r_iconst hX dX8_count_60 (v := 5) (by decide) ?_
            refine r_icmp_ne hX (tgt := 71) dX8_count_61 (by decide) (fun hc6 => ?_) (fun hc6 => ?_)
            · have h := ite_f hc6 h
              refine r_iconst hX dX8_count_71 (v := (-1)) (by decide) ?_
              exact r_iret hX hQ (Option.some.inj h) rfl dX8_count_72
            · have h := ite_t hc6 h
              refine r_aload_n hX dX8_count_64 0 rfl ?_
              refine r_get hX 0 0 kyR0 rfl rfl inlX8 20 (by decide) tw3_60 (v := .int (μ 0 0 20)) rfl dX8_count_65 ?_
              refine r_goto hX (tgt := 72) dX8_count_68 (by decide) ?_
              exact r_iret hX hQ (Option.some.inj h) rfl dX8_count_72
          · have h := ite_t hc5 h
            refine r_aload_n hX dX8_count_52 0 rfl ?_
            refine r_get hX 0 0 kyR0 rfl rfl inlX8 19 (by decide) tw3_59 (v := .int (μ 0 0 19)) rfl dX8_count_53 ?_
            refine r_goto hX (tgt := 72) dX8_count_56 (by decide) ?_
            exact r_iret hX hQ (Option.some.inj h) rfl dX8_count_72
        · have h := ite_t hc4 h
          refine r_aload_n hX dX8_count_40 0 rfl ?_
          refine r_get hX 0 0 kyR0 rfl rfl inlX8 9 (by decide) tw3_49 (v := .int (μ 0 0 9)) rfl dX8_count_41 ?_
          refine r_goto hX (tgt := 72) dX8_count_44 (by decide) ?_
          exact r_iret hX hQ (Option.some.inj h) rfl dX8_count_72
      · have h := ite_t hc3 h
        refine r_aload_n hX dX8_count_28 0 rfl ?_
        refine r_get hX 0 0 kyR0 rfl rfl inlX8 14 (by decide) tw3_54 (v := .int (μ 0 0 14)) rfl dX8_count_29 ?_
        refine r_goto hX (tgt := 72) dX8_count_32 (by decide) ?_
        exact r_iret hX hQ (Option.some.inj h) rfl dX8_count_72
    · have h := ite_t hc2 h
      refine r_aload_n hX dX8_count_16 0 rfl ?_
      refine r_get hX 0 0 kyR0 rfl rfl inlX8 3 (by decide) tw3_43 (v := .int (μ 0 0 3)) rfl dX8_count_17 ?_
      refine r_goto hX (tgt := 72) dX8_count_20 (by decide) ?_
      exact r_iret hX hQ (Option.some.inj h) rfl dX8_count_72
  · have h := ite_t hc1 h
    refine r_aload_n hX dX8_count_4 0 rfl ?_
    refine r_get hX 0 0 kyR0 rfl rfl inlX8 0 (by decide) tw3_40 (v := .int (μ 0 0 0)) rfl dX8_count_5 ?_
    refine r_goto hX (tgt := 72) dX8_count_8 (by decide) ?_
    exact r_iret hX hQ (Option.some.inj h) rfl dX8_count_72
