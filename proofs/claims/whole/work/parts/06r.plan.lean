/-! plan. -/
theorem Rel.newPl {nc nh nt : Nat} {rows : Nat → List Int32} {b : Int32} {μ ν μ' ν' : Mu} (h : Rel nc nh nt rows b μ ν) (m : ∀ c, ¬ (c = 5 ∨ c = 6 ∨ c = 7 ∨ c = 8) → μ' c = μ c) (n : ∀ c, ¬ (c = 0 ∨ c = 10 ∨ c = 11 ∨ c = 12 ∨ c = 13) → ν' c = ν c) (n0 : ∀ j, j ≠ 9 → ν' 0 0 j = ν 0 0 j) {np : Nat} (hP : RPl np μ' ν') : Rel nc nh nt rows b μ' ν' := by
  obtain ⟨hD, hH, -, hL, hT⟩ := h
  exact ⟨hD.to (m 2 (by decide)) (m 3 (by decide)) (m 4 (by decide)) (n0 0 (by decide)) (n 1 (by decide)) (n 2 (by decide)), hH.to (m 1 (by decide)) (m 11 (by decide)) (n0 3 (by decide)) (n 4 (by decide)) (n 5 (by decide)) (n 6 (by decide)) (n 7 (by decide)) (n 8 (by decide)), ⟨np, hP⟩, hL.to (m 9 (by decide)) (n0 19 (by decide)) (n0 20 (by decide)) (n0 22 (by decide)) (n0 23 (by decide)) (n0 24 (by decide)) (n0 25 (by decide)), hT.to (m 0 (by decide)) (fun k => by rw [m 11 (by decide)]) (m 13 (by decide)) (fun t _ => by rw [m 14 (by decide)]) (fun t _ => by rw [m 15 (by decide)]) (n0 14 (by decide)) (n 15 (by decide)) (n 16 (by decide)) (n 17 (by decide)) (n 18 (by decide))⟩
theorem m4_ne {j : Nat} (h : j < 100000) : ¬ nI j = (-4 : Int32) := by
  intro q
  have := congrArg Int32.toInt q
  rw [nI_toInt (by omega)] at this
  have h4 : (-4 : Int32).toInt = -4 := rfl
  rw [h4] at this
  omega
/-- the reference's new plan is written behind the others -/
theorem planJ98_at {ν : Mu} {np h : Nat} (hn : np < 12) (hs : ν 0 0 9 = nI np) (hh : h < 8) (c : Int32) {a2 a3 a4 x5 : Int32} (hc : ν 6 0 h + a2 = c) : ∃ ν', jX8_plan_J98 ν (nI h) a2 a3 a4 x5 = some (nI (np + 1), ν') ∧ (∀ k, ¬ (k = 0 ∨ k = 10 ∨ k = 11 ∨ k = 12 ∨ k = 13) → ν' k = ν k) ∧ (∀ j, j ≠ 9 → ν' 0 0 j = ν 0 0 j) ∧ ν' 0 0 9 = nI (np + 1) ∧ (∀ i, ν' 10 0 i = if i = np then nI h else ν 10 0 i) ∧ (∀ i, ν' 11 0 i = if i = np then c else ν 11 0 i) ∧ (∀ i, ν' 12 0 i = if i = np then a3 else ν 12 0 i) ∧ ∀ i, ν' 13 0 i = if i = np then a4 else ν 13 0 i := by
  have i1 : inb (nI np) 12 = true := by rw [n_in (by omega)]; exact decide_eq_true (by omega)
  have i2 : inb (nI h) 8 = true := by rw [n_in (by omega)]; exact decide_eq_true (by omega)
  unfold jX8_plan_J98
  simp only [mst, mu_st_app, Nat.reduceEqDiff, false_and, and_false, and_true, true_and, if_true, if_false, hs, i1, i2, n_cl (show np < 100000 by omega), n_cl (show h < 100000 by omega), hc]
  rw [zl1, n_add]
  refine ⟨_, rfl, fun k hk => ?_, fun j hj => ?_, ?_, fun i => ?_, fun i => ?_, fun i => ?_, fun i => ?_⟩
  · rw [mu_st_nc (by omega), mu_st_nc (by omega), mu_st_nc (by omega), mu_st_nc (by omega), mu_st_nc (by omega)]
  · simp [mu_st_app, hj]
  · simp [mu_st_app]
  · simp [mu_st_app]
  · simp [mu_st_app]
  · simp [mu_st_app]
  · simp [mu_st_app]
theorem plR_push {ν ν' : Mu} {np : Nat} {k c w f : Int32} (t10 : ∀ i, ν' 10 0 i = if i = np then k else ν 10 0 i) (t11 : ∀ i, ν' 11 0 i = if i = np then c else ν 11 0 i) (t12 : ∀ i, ν' 12 0 i = if i = np then w else ν 12 0 i) (t13 : ∀ i, ν' 13 0 i = if i = np then f else ν 13 0 i) : plR ν' (np + 1) = plR ν np ++ [(k, c, effR w f)] := by
  unfold plR
  rw [List.range_succ, List.map_append]
  congr 1
  · apply List.map_congr_left
    intro i hi
    have := List.mem_range.mp hi
    rw [t10, t11, t12, t13]
    simp [show ¬ i = np by omega]
  · simp [t10, t11, t12, t13]
theorem plan_core {nc nh nt : Nat} {rows : Nat → List Int32} {μ ν : Mu} (h : RelE μ ν) (hR : Rel nc nh nt rows 0 μ ν) {j : Nat} (hj : j < nh) (a2 a3 a4 : Int32) (hv : (a3 = 0 ∧ 0 < a4) ∨ a3 = 1 ∨ a3 = 2) : ∃ (r : Int32) (μ' ν' : Mu), jX7_plan_J50 μ (nI j) a2 a3 a4 = some (r, μ') ∧ jX8_plan_J51 ν (nI j) a2 a3 a4 = some (r, ν') ∧ RelE μ' ν' := by
  obtain ⟨hD, hH, ⟨np, hP⟩, hL, hT⟩ := id hR
  have hn := hH.1
  have hnp := hP.1
  have i8 : inb (nI j) 8 = true := by rw [n_in (by omega)]; exact decide_eq_true (by omega)
  have hc : ν 6 0 j + a2 = μ 11 j 2 + a2 := by rw [(hH.2.2.2.2.1 j (by omega)).1]
  have he : jX7_plannedEffect a3 a4 = some (effR a3 a4) := by
    unfold jX7_plannedEffect effR
    rcases hv with ⟨rfl, -⟩ | rfl | rfl <;> rfl
  unfold jX7_plan_J50 jX8_plan_J51 jX8_plan_J85
  rw [callsOf_at hn hH.2.1 hj, Option.bind_some, he, Option.bind_some, if_pos i8, n_cl (show j < 100000 by omega), hc]
  generalize hcc : μ 11 j 2 + a2 = c at hc
  unfold jX4_stand
  rcases find_both hP (nI j) c with ⟨i, i', hi, hi', k1, k2, k3, k4, ke, q1, q2⟩ | ⟨k1, k2, q1, q2⟩
  · have ii : inb (nI i) 12 = true := by rw [n_in (by omega)]; exact decide_eq_true (by omega)
    rw [q1, q2, Option.bind_some, Option.bind_some, if_neg (m4_ne (show i < 100000 by omega)), if_neg (m4_ne (show i' < 100000 by omega)), if_neg (m4_ne (show i' < 100000 by omega))]
    obtain ⟨ν14, g1, g2, g3, g4, g5, g6, g7, g8⟩ := dropPlan_at hP.1 hP.2.2.1 hi'
    obtain ⟨n, rfl⟩ : ∃ n, np = n + 1 := ⟨np - 1, by omega⟩
    rw [Nat.add_sub_cancel] at *
    obtain ⟨ν', e1, e2, e3, e4, e5, e6, e7, e8⟩ := planJ98_at (ν := ν14) (np := n) (h := j) (a2 := a2) (a3 := a3) (a4 := a4) (x5 := nI i') (by omega) g4 (by omega) c (by rw [g2 6 (by decide)]; exact hc)
    rw [g1, Option.bind_some, e1]
    simp only [mst, mu_st_app, Nat.reduceEqDiff, false_and, and_false, and_true, true_and, if_true, if_false, ii, n_cl (show i < 100000 by omega), hP.2.1]
    refine ⟨_, _, _, rfl, rfl, nc, nh, nt, rows, hR.newPl (np := n + 1) (fun k hk => ?_) (fun k hk => ?_) (fun q hq => ?_) ?_⟩
    · dsimp only
      rw [mu_st_nc (by omega), mu_st_nc (by omega), mu_st_nc (by omega)]
    · rw [e2 k hk, g2 k hk]
    · rw [e3 q hq, g3 0 q (by omega)]
    · have p2 : (plR ν (n + 1)).Perm ((ν 10 0 i', ν 11 0 i', effR (ν 12 0 i') (ν 13 0 i')) :: plR ν14 n) := by
        refine (swap_remove (fun z => (ν 10 0 z, ν 11 0 z, effR (ν 12 0 z) (ν 13 0 z))) (show i' ≤ n by omega)).trans ?_
        rw [show plR ν14 n = (List.range n).map (fun z => if z = i' then (ν 10 0 n, ν 11 0 n, effR (ν 12 0 n) (ν 13 0 n)) else (ν 10 0 z, ν 11 0 z, effR (ν 12 0 z) (ν 13 0 z))) from List.map_congr_left (fun z _ => by
          show (ν14 10 0 z, ν14 11 0 z, effR (ν14 12 0 z) (ν14 13 0 z)) = _
          rw [g5, g6, g7, g8]
          by_cases e : z = i' <;> simp [e])]
      have p1 := perm_at (fun z => (μ 6 0 z, μ 7 0 z, μ 8 0 z)) hi
      have ex : (μ 6 0 i, μ 7 0 i, μ 8 0 i) = (ν 10 0 i', ν 11 0 i', effR (ν 12 0 i') (ν 13 0 i')) := by rw [k1, k2, ke, k3, k4]
      have pE : (((List.range (n + 1)).erase i).map (fun z => (μ 6 0 z, μ 7 0 z, μ 8 0 z))).Perm (plR ν14 n) := by
        have p3 := (p1.symm.trans hP.2.2.2.1).trans p2
        rw [ex] at p3
        exact p3.cons_inv
      generalize hμ : mu_st (mu_st (mu_st μ 6 0 i (nI j)) 7 0 i c) 8 0 i (effR a3 a4) = μ'
      have s6 : ∀ z, μ' 6 0 z = μ 6 0 z := fun z => by
        rw [← hμ]
        simp only [mu_st_app, Nat.reduceEqDiff, false_and, if_false, true_and]
        by_cases e : z = i
        · rw [if_pos e, e, k1]
        · rw [if_neg e]
      have s7 : ∀ z, μ' 7 0 z = μ 7 0 z := fun z => by
        rw [← hμ]
        simp only [mu_st_app, Nat.reduceEqDiff, false_and, if_false, true_and]
        by_cases e : z = i
        · rw [if_pos e, e, k2]
        · rw [if_neg e]
      have s8 : ∀ z, μ' 8 0 z = if z = i then effR a3 a4 else μ 8 0 z := fun z => by rw [← hμ]; simp [mu_st_app]
      have hR98 := plR_push e5 e6 e7 e8
      refine ⟨by omega, by rw [← hμ]; simp [mu_st_app, hP.2.1], e4, ?_, ?_, fun z hz => ?_⟩
      · rw [hR98]
        have p4 := perm_at (fun z => (μ' 6 0 z, μ' 7 0 z, μ' 8 0 z)) hi
        rw [erase_congr (g := fun z => (μ 6 0 z, μ 7 0 z, μ 8 0 z)) (fun z _ hz => by simp only [s6, s7, s8, hz, if_false])] at p4
        refine p4.trans ?_
        simp only [s6, s7, s8, if_true, k1, k2]
        exact (pE.cons _).trans (List.perm_append_singleton _ _).symm
      · have : (plC μ' (n + 1)).map plK = (plC μ (n + 1)).map plK := by
          unfold plC
          rw [List.map_map, List.map_map]
          apply List.map_congr_left
          intro z _
          simp [plK, s6, s7]
        rw [this]
        exact hP.2.2.2.2.1
      · rw [e7, e8]
        by_cases e : z = n
        · rw [if_pos e, if_pos e]; exact hv
        · rw [if_neg e, if_neg e, g7, g8]
          by_cases e2 : z = i'
          · rw [if_pos e2, if_pos e2]; exact hP.2.2.2.2.2 n (by omega)
          · rw [if_neg e2, if_neg e2]; exact hP.2.2.2.2.2 z (by omega)
  · rw [q1, q2, Option.bind_some, Option.bind_some, if_pos rfl, if_pos rfl, if_pos rfl, hP.2.1, hP.2.2.1]
    by_cases q : np = 12
    · rw [if_neg (show ¬ nI np < 12 by rw [zl12, n_lt (by omega) (by omega)]; omega), if_pos (show nI np = 12 by rw [zl12, n_eq (by omega) (by omega)]; exact q)]
      exact ⟨_, _, _, rfl, rfl, h⟩
    · have ii : inb (nI np) 12 = true := by rw [n_in (by omega)]; exact decide_eq_true (by omega)
      obtain ⟨ν', e1, e2, e3, e4, e5, e6, e7, e8⟩ := planJ98_at (ν := ν) (np := np) (h := j) (a2 := a2) (a3 := a3) (a4 := a4) (x5 := -4) (by omega) hP.2.2.1 (by omega) c hc
      rw [if_pos (show nI np < 12 by rw [zl12, n_lt (by omega) (by omega)]; omega), if_neg (show ¬ nI np = 12 by rw [zl12, n_eq (by omega) (by omega)]; exact q), e1]
      simp only [mst, mu_st_app, Nat.reduceEqDiff, false_and, and_false, and_true, true_and, if_true, if_false, ii, n_cl (show np < 100000 by omega)]
      rw [zl1, n_add]
      refine ⟨_, _, _, rfl, rfl, nc, nh, nt, rows, hR.newPl (np := np + 1) (fun k hk => ?_) e2 e3 ?_⟩
      · dsimp only
        rw [mu_st_nc (by omega), mu_st_nc (by omega), mu_st_nc (by omega), mu_st_nc (by omega)]
      · generalize hμ : mu_st (mu_st (mu_st (mu_st μ 5 0 3 (nI (np + 1))) 6 0 np (nI j)) 7 0 np c) 8 0 np (effR a3 a4) = μ'
        have s6 : ∀ z, μ' 6 0 z = if z = np then nI j else μ 6 0 z := fun z => by rw [← hμ]; simp [mu_st_app]
        have s7 : ∀ z, μ' 7 0 z = if z = np then c else μ 7 0 z := fun z => by rw [← hμ]; simp [mu_st_app]
        have s8 : ∀ z, μ' 8 0 z = if z = np then effR a3 a4 else μ 8 0 z := fun z => by rw [← hμ]; simp [mu_st_app]
        have hC : plC μ' (np + 1) = plC μ np ++ [(nI j, c, effR a3 a4)] := by
          unfold plC
          rw [List.range_succ, List.map_append]
          congr 1
          · apply List.map_congr_left
            intro z hz
            have := List.mem_range.mp hz
            rw [s6, s7, s8]
            simp [show ¬ z = np by omega]
          · simp [s6, s7, s8]
        refine ⟨by omega, by rw [← hμ]; simp [mu_st_app], e4, ?_, ?_, fun z hz => ?_⟩
        · rw [hC, plR_push e5 e6 e7 e8]
          exact hP.2.2.2.1.append_right _
        · rw [hC, List.map_append, List.nodup_append]
          refine ⟨hP.2.2.2.2.1, List.nodup_cons.mpr ⟨List.not_mem_nil, List.nodup_nil⟩, fun x hx y hy e => ?_⟩
          rw [List.map_cons, List.map_nil, List.mem_singleton] at hy
          obtain ⟨w, hw, rfl⟩ := List.mem_map.mp hx
          obtain ⟨z, hz, rfl⟩ := plC_mem.mp hw
          rw [hy] at e
          unfold plK at e
          exact k1 z hz ⟨congrArg (fun p : Int32 × Int32 => p.1) e, congrArg (fun p : Int32 × Int32 => p.2) e⟩
        · rw [e7, e8]
          by_cases e : z = np
          · rw [if_pos e, if_pos e]; exact hv
          · rw [if_neg e, if_neg e]; exact hP.2.2.2.2.2 z (by omega)
theorem sim_plan {μ ν : Mu} (h : RelE μ ν) (a b c d : Int32) : ∃ (r : Int32) (μ' ν' : Mu), jX7_plan μ a b c d = some (r, μ') ∧ jX8_plan ν a b c d = some (r, ν') ∧ RelE μ' ν' := by
  obtain ⟨nc, nh, nt, rows, hR⟩ := id h
  have hn := hR.2.1.1
  unfold jX7_plan jX8_plan jX7_plan_J31 jX8_plan_J49
  rw [(hasHook_gen hR a).1, (hasHook_gen hR a).2, Option.bind_some, Option.bind_some, isWithin_at, isWithin_at, isWithin_at, in_at, in_at, in_at]
  simp only [Int32.toInt_toInt64, Option.bind_some, show (1000 : Int64).toInt = 1000 from rfl, show (1000 : Int32).toInt = 1000 from rfl, show (99 : Int64).toInt = 99 from rfl, show (99 : Int32).toInt = 99 from rfl, show (1 : Int64).toInt = 1 from rfl, show (1 : Int32).toInt = 1 from rfl, show (2 : Int64).toInt = 2 from rfl, show (2 : Int32).toInt = 2 from rfl, show (0 : Int64).toInt = 0 from rfl, show (0 : Int32).toInt = 0 from rfl, ite10]
  by_cases v : vl a nh
  · rw [if_pos v, if_pos v]
    by_cases v2 : wi b.toInt 1 1000
    · rw [if_pos v2, if_pos v2]
      by_cases v3 : wi c.toInt 0 2
      · rw [if_pos v3, if_pos v3]
        obtain ⟨j, hj, rfl⟩ := vl_nI v (by omega)
        by_cases q0 : c = 0
        · rw [if_pos q0, if_pos q0]
          by_cases v4 : wi d.toInt 1 99
          · rw [if_pos v4, if_pos v4]
            exact plan_core h hR hj b c d (Or.inl ⟨q0, by rw [Int32.lt_iff_toInt_lt]; unfold wi at v4; have : (0 : Int32).toInt = 0 := rfl; omega⟩)
          · rw [if_neg v4, if_neg v4]
            exact ⟨_, _, _, rfl, rfl, h⟩
        · rw [if_neg q0, if_neg q0]
          refine plan_core h hR hj b c d (Or.inr ?_)
          obtain ⟨i, hi, e⟩ := vl_nI (n := 3) (a := c) (by unfold vl; unfold wi at v3; omega) (by omega)
          rcases (show i = 0 ∨ i = 1 ∨ i = 2 by omega) with rfl | rfl | rfl
          · exact absurd e q0
          · exact Or.inl e
          · exact Or.inr e
      · rw [if_neg v3, if_neg v3]
        exact ⟨_, _, _, rfl, rfl, h⟩
    · rw [if_neg v2, if_neg v2]
      exact ⟨_, _, _, rfl, rfl, h⟩
  · rw [if_neg v, if_neg v]
    exact ⟨_, _, _, rfl, rfl, h⟩
