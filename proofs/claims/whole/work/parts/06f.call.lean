/-! A call of a hook, on both sides. -/
theorem Rel.call {nc nh nt : Nat} {rows : Nat → List Int32} {μ ν μ' ν' : Mu} (hR : Rel nc nh nt rows 0 μ ν) {h : Nat} (hh : h < nh) (d b : Int32) (hP : ∃ np, RPl np μ' ν') (hL : RLate b μ' ν') (m : ∀ c, ¬ (c = 5 ∨ c = 6 ∨ c = 7 ∨ c = 8 ∨ c = 9 ∨ c = 11) → μ' c = μ c) (m11 : ∀ k j, μ' 11 k j = if k = h ∧ j = 2 then μ 11 h 2 + 1 else if k = h ∧ j = 3 then μ 11 h 3 + 1 else if k = h ∧ j = 4 then μ 11 h 4 + d else μ 11 k j) (n : ∀ c, ¬ (c = 0 ∨ c = 6 ∨ c = 7 ∨ c = 8 ∨ c = 10 ∨ c = 11 ∨ c = 12 ∨ c = 13) → ν' c = ν c) (n0 : ν' 0 0 0 = ν 0 0 0) (n3 : ν' 0 0 3 = ν 0 0 3) (n14 : ν' 0 0 14 = ν 0 0 14) (n6 : ∀ i, ν' 6 0 i = if i = h then ν 6 0 h + 1 else ν 6 0 i) (n7 : ∀ i, ν' 7 0 i = if i = h then ν 7 0 h + 1 else ν 7 0 i) (n8 : ∀ i, ν' 8 0 i = if i = h then ν 8 0 h + d else ν 8 0 i) : Rel nc nh nt rows b μ' ν' := by
  obtain ⟨hD, hH, -, -, hT⟩ := hR
  refine ⟨hD.to (m 2 (by omega)) (m 3 (by omega)) (m 4 (by omega)) n0 (n 1 (by omega)) (n 2 (by omega)), hH.call hh d (m 1 (by omega)) m11 n3 (n 4 (by omega)) (n 5 (by omega)) n6 n7 n8, hP, hL, ?_⟩
  exact hT.to (m 0 (by omega)) (fun k => by rw [m11]; simp) (m 13 (by omega)) (fun t _ => by rw [m 14 (by omega)]) (fun t _ => by rw [m 15 (by omega)]) n14 (n 15 (by omega)) (n 16 (by omega)) (n 17 (by omega)) (n 18 (by omega))
set_option maxHeartbeats 4000000 in
theorem call_sim {nc nh nt : Nat} {rows : Nat → List Int32} {μ ν : Mu} (hR : Rel nc nh nt rows 0 μ ν) (ht : ν 0 0 21 = 0) {h : Nat} (hh : h < nh) : ∃ (eff : Int32) (μ' : Mu) (lies : Int32) (ν' : Mu), jX1_beginCall μ (nI h) = some (eff, μ') ∧ jX8_begins ν (nI h) = some (lies, ν') ∧ CallFr μ μ' ν ν' ∧ ((¬ eff ≤ 0 ∧ lies = 0 ∧ ν' 0 0 21 = 1 ∧ Rel nc nh nt rows 1 μ' ν') ∨ (eff ≤ 0 ∧ ν' 0 0 21 = 0 ∧ Rel nc nh nt rows 0 μ' ν' ∧ ((eff = -1 ∧ lies = 1) ∨ (eff ≠ -1 ∧ lies = 0)))) := by
  obtain ⟨hD, hH, ⟨np, hP⟩, hL, hT⟩ := id hR
  have hh8 : h < 8 := by have := hH.1; omega
  have hin : inb (nI h) 8 = true := by rw [n_in (by omega)]; exact decide_eq_true hh8
  have hcl : (nI h).toNatClampNeg = h := n_cl (by omega)
  obtain ⟨b2, b3, b4⟩ := hH.2.2.2.2.1 h hh8
  -- the memories behind the counting
  obtain ⟨μ6, e6⟩ : ∃ x, x = mu_st (mu_st μ 11 h 2 (μ 11 h 2 + 1)) 11 h 3 (mu_st μ 11 h 2 (μ 11 h 2 + 1) 11 h 3 + 1) := ⟨_, rfl⟩
  obtain ⟨ν6, f6⟩ : ∃ x, x = mu_st (mu_st ν 6 0 h (ν 6 0 h + 1)) 7 0 h (mu_st ν 6 0 h (ν 6 0 h + 1) 7 0 h + 1) := ⟨_, rfl⟩
  have m6 : ∀ c, c ≠ 11 → μ6 c = μ c := fun c hc => by rw [e6, mu_st_nc hc, mu_st_nc hc]
  have m611 : ∀ k j, μ6 11 k j = if k = h ∧ j = 2 then μ 11 h 2 + 1 else if k = h ∧ j = 3 then μ 11 h 3 + 1 else μ 11 k j := fun k j => by
    rw [e6, mu_st_app, mu_st_app, mu_st_app]
    by_cases q1 : k = h ∧ j = 2
    · obtain ⟨rfl, rfl⟩ := q1; simp
    · by_cases q2 : k = h ∧ j = 3
      · obtain ⟨rfl, rfl⟩ := q2; simp
      · simp [q1, q2]
  have n6c : ∀ c, ¬ (c = 6 ∨ c = 7) → ν6 c = ν c := fun c hc => by rw [f6, mu_st_nc (by omega), mu_st_nc (by omega)]
  have n66 : ∀ i, ν6 6 0 i = if i = h then ν 6 0 h + 1 else ν 6 0 i := fun i => by rw [f6, mu_st_nc (by decide), mu_st_app]; simp
  have n67 : ∀ i, ν6 7 0 i = if i = h then ν 7 0 h + 1 else ν 7 0 i := fun i => by rw [f6, mu_st_app, mu_st_nc (by decide)]; simp
  have hP6 : RPl np μ6 ν6 := hP.to (m6 5 (by decide)) (m6 6 (by decide)) (m6 7 (by decide)) (m6 8 (by decide)) (by rw [n6c 0 (by decide)]) (n6c 10 (by decide)) (n6c 11 (by decide)) (n6c 12 (by decide)) (n6c 13 (by decide))
  have hcall : μ6 11 h 2 = ν6 6 0 h := by rw [m611, n66]; simp [b2]
  have hnp := hP.1
  have hC0 : jX1_beginCall μ (nI h) = (jX4_indexOf μ6 (nI h) (μ6 11 h 2)).bind (fun r8 => (jX4_effectOf μ6 r8).bind (fun r10 => (jX4_drop μ6 r8).bind (fun μ12 => if r10 ≤ 0 then if r10 = (-2) then mst (mu_st μ12 11 h 4 ((μ12 11 h 4) + 1)) (fun μ15 => some (r10, μ15)) else some (r10, μ12) else (jX3_fail μ12 r10 (nI h) (μ12 11 h 2)).bind (fun μ17 => some (r10, μ17))))) := by
    unfold jX1_beginCall
    rw [hasHook_at hH.1 hH.2.1 hh, Option.bind_some, if_neg (by decide), if_pos hin, hcl]
    simp only [mst]
    rw [← e6]
  have hR0 : jX8_begins ν (nI h) = (jX8_planOf ν6 (nI h) (ν6 6 0 h)).bind (fun r9 => if r9 = (-4) then some (0, ν6) else if inb r9 12 = true then if inb r9 12 = true then (jX8_dropPlan ν6 r9).bind (fun μ14 => if (ν6 12 0 r9.toNatClampNeg) = 0 then mst (mu_st μ14 0 0 21 1) (fun μ24 => mst (mu_st μ24 0 0 22 (ν6 13 0 r9.toNatClampNeg)) (fun μ25 => mst (mu_st μ25 0 0 23 (nI h)) (fun μ26 => mst (mu_st μ26 0 0 24 (μ26 6 0 h)) (fun μ28 => jX8_begins_J90 μ28 (nI h) r9 (ν6 12 0 r9.toNatClampNeg) (ν6 13 0 r9.toNatClampNeg))))) else jX8_begins_J90 μ14 (nI h) r9 (ν6 12 0 r9.toNatClampNeg) (ν6 13 0 r9.toNatClampNeg)) else none else none) := by
    unfold jX8_begins
    simp only [mst, hin, if_true, hcl]
    rw [← f6]
  rcases find_both hP6 (nI h) (μ6 11 h 2) with ⟨j, j', hj, hj', k1, k2, k3, k4, ke, q1, q2⟩ | ⟨k1, k2, q1, q2⟩
  · -- a plan stands for this call
    rw [hcall] at q2
    obtain ⟨μ12, d1, d2, d3, d4, d5, d6⟩ := drop_at hP6.1 hP6.2.1 hj
    obtain ⟨ν14, g1, g2, g3, g4, g5, g6, g7, g8⟩ := dropPlan_at hP6.1 hP6.2.2.1 hj'
    have hP12 := (drop_both hP6 hj hj' (k1.trans k3.symm) (k2.trans k4.symm) d3 d4 d5 d6 g4 g5 g6 g7 g8).1
    have heff : jX4_effectOf μ6 (nI j) = some (μ6 8 0 j) := by
      unfold jX4_effectOf
      rw [hP6.2.1, zl0, if_neg (by rw [n_lt (by omega) (by omega)]; omega), if_neg (by rw [n_le (by omega) (by omega)]; omega), if_pos (by rw [n_in (by omega)]; exact decide_eq_true (by omega)), n_cl (by omega)]
    have hj'4 : ¬ nI j' = (-4 : Int32) := by
      intro q
      have := congrArg Int32.toInt q
      rw [nI_toInt (by omega)] at this
      have h4 : (-4 : Int32).toInt = -4 := rfl
      rw [h4] at this
      omega
    have hinj : inb (nI j') 12 = true := by rw [n_in (by omega)]; exact decide_eq_true (by omega)
    have hclj : (nI j').toNatClampNeg = j' := n_cl (by omega)
    rw [hC0, q1, Option.bind_some, heff, Option.bind_some, d1, Option.bind_some, hR0, q2, Option.bind_some, if_neg hj'4, if_pos hinj, if_pos hinj, g1, Option.bind_some, hclj, ke]
    have m12 : ∀ c, ¬ (c = 5 ∨ c = 6 ∨ c = 7 ∨ c = 8 ∨ c = 11) → μ12 c = μ c := fun c hc => by rw [d2 c (by omega), m6 c (by omega)]
    have m1211 : ∀ k j, μ12 11 k j = if k = h ∧ j = 2 then μ 11 h 2 + 1 else if k = h ∧ j = 3 then μ 11 h 3 + 1 else μ 11 k j := fun k j => by rw [d2 11 (by omega)]; exact m611 k j
    have n14c : ∀ c, ¬ (c = 0 ∨ c = 6 ∨ c = 7 ∨ c = 10 ∨ c = 11 ∨ c = 12 ∨ c = 13) → ν14 c = ν c := fun c hc => by rw [g2 c (by omega), n6c c (by omega)]
    have n140 : ∀ i, i ≠ 9 → ν14 0 0 i = ν 0 0 i := fun i hi => by rw [g3 0 i (by omega), n6c 0 (by decide)]
    have n146 : ∀ i, ν14 6 0 i = if i = h then ν 6 0 h + 1 else ν 6 0 i := fun i => by rw [g2 6 (by omega)]; exact n66 i
    have n147 : ∀ i, ν14 7 0 i = if i = h then ν 7 0 h + 1 else ν 7 0 i := fun i => by rw [g2 7 (by omega)]; exact n67 i
    have hJ : ∀ (x : Mu) (w f : Int32), jX8_begins_J90 x (nI h) (nI j') w f = some (if w = 1 then 1 else 0, mu_st x 8 0 h (x 8 0 h + if w = 2 then 1 else 0)) := by
      intro x w f
      unfold jX8_begins_J90
      simp only [mst, hin, if_true, hcl]
      by_cases w2 : w = 2
      · subst w2; rfl
      · by_cases w1 : w = 1
        · subst w1; rfl
        · rw [if_neg w2, if_neg w1, if_neg w1, if_neg w2]
    rcases eff_pos (hP6.2.2.2.2.2 j' hj') with ⟨z1, z2, z3⟩ | ⟨z1, z2⟩ | ⟨z1, z2⟩
    · -- it throws
      rw [z3] at z1
      rw [z3, if_neg (i_le_of_lt z1), if_pos z2, z2]
      unfold jX3_fail
      simp only [mst, Option.bind_some, hJ]
      refine ⟨_, _, _, _, rfl, rfl, ⟨fun c hc => ?_, fun k => ?_, fun c hc => ?_, ⟨?_, ?_, ?_, ?_⟩, ?_⟩, Or.inl ⟨i_le_of_lt z1, rfl, ?_, ?_⟩⟩
      · rw [mu_st_nc (by omega), mu_st_nc (by omega), mu_st_nc (by omega), mu_st_nc (by omega), m12 c (by omega)]
      · simp [mu_st_app, m1211]
      · rw [mu_st_nc (by omega), mu_st_nc (by omega), mu_st_nc (by omega), mu_st_nc (by omega), mu_st_nc (by omega), n14c c (by omega)]
      · simp [mu_st_app, n140]
      · simp [mu_st_app, n140]
      · simp [mu_st_app, n140]
      · simp [mu_st_app, n140]
      · simp [mu_st_app, m12]
      · simp [mu_st_app]
      · refine Rel.call hR hh 0 1 ⟨np - 1, hP12.to ?_ ?_ ?_ ?_ ?_ ?_ ?_ ?_ ?_⟩ ?_ (fun c hc => ?_) (fun k i => ?_) (fun c hc => ?_) ?_ ?_ ?_ (fun i => ?_) (fun i => ?_) (fun i => ?_)
        · rw [mu_st_nc (by decide), mu_st_nc (by decide), mu_st_nc (by decide), mu_st_nc (by decide)]
        · rw [mu_st_nc (by decide), mu_st_nc (by decide), mu_st_nc (by decide), mu_st_nc (by decide)]
        · rw [mu_st_nc (by decide), mu_st_nc (by decide), mu_st_nc (by decide), mu_st_nc (by decide)]
        · rw [mu_st_nc (by decide), mu_st_nc (by decide), mu_st_nc (by decide), mu_st_nc (by decide)]
        · simp [mu_st_app]
        · rw [mu_st_nc (by decide), mu_st_nc (by decide), mu_st_nc (by decide), mu_st_nc (by decide), mu_st_nc (by decide)]
        · rw [mu_st_nc (by decide), mu_st_nc (by decide), mu_st_nc (by decide), mu_st_nc (by decide), mu_st_nc (by decide)]
        · rw [mu_st_nc (by decide), mu_st_nc (by decide), mu_st_nc (by decide), mu_st_nc (by decide), mu_st_nc (by decide)]
        · rw [mu_st_nc (by decide), mu_st_nc (by decide), mu_st_nc (by decide), mu_st_nc (by decide), mu_st_nc (by decide)]
        · obtain ⟨l0, l1, l2, l3, l4, l5⟩ := hL
          refine ⟨?_, ?_, ?_, ?_, ?_, ?_⟩
          · simp [mu_st_app]
          · simp [mu_st_app]
          · simp [mu_st_app, m1211, n146, b2]
          · simp [mu_st_app, m12, n140, l3]
          · simp [mu_st_app, m12, n140, l4]
          · simp [mu_st_app, m12, n140, l5]
        · rw [mu_st_nc (by omega), mu_st_nc (by omega), mu_st_nc (by omega), mu_st_nc (by omega), m12 c (by omega)]
        · simp only [mu_st_app, m1211]
          by_cases q : k = h ∧ i = 4
          · obtain ⟨rfl, rfl⟩ := q; simp
          · simp [q]
        · rw [mu_st_nc (by omega), mu_st_nc (by omega), mu_st_nc (by omega), mu_st_nc (by omega), mu_st_nc (by omega), n14c c (by omega)]
        · simp [mu_st_app, n140]
        · simp [mu_st_app, n140]
        · simp [mu_st_app, n140]
        · simp [mu_st_app, n146]
        · simp [mu_st_app, n147]
        · simp [mu_st_app, n14c]
    · -- it lies
      have hw : ¬ ν6 12 0 j' = 0 := by rw [z2]; decide
      rw [z1, if_pos (by decide), if_neg (by decide), if_neg hw, hJ, z2]
      refine ⟨_, _, _, _, rfl, rfl, ⟨fun c hc => ?_, fun k => ?_, fun c hc => ?_, ⟨?_, ?_, ?_, ?_⟩, ?_⟩, Or.inr ⟨by decide, ?_, ?_, Or.inl ⟨rfl, rfl⟩⟩⟩
      · exact m12 c (by omega)
      · simp [m1211]
      · rw [mu_st_nc (by omega), n14c c (by omega)]
      · simp [mu_st_app, n140]
      · simp [mu_st_app, n140]
      · simp [mu_st_app, n140]
      · simp [mu_st_app, n140]
      · simp [m12]
      · simp [mu_st_app, n140, ht]
      · refine Rel.call hR hh 0 0 ⟨np - 1, hP12.to rfl rfl rfl rfl ?_ ?_ ?_ ?_ ?_⟩ ?_ (fun c hc => m12 c (by omega)) (fun k i => ?_) (fun c hc => ?_) ?_ ?_ ?_ (fun i => ?_) (fun i => ?_) (fun i => ?_)
        · simp [mu_st_app]
        · rw [mu_st_nc (by decide)]
        · rw [mu_st_nc (by decide)]
        · rw [mu_st_nc (by decide)]
        · rw [mu_st_nc (by decide)]
        · exact hL.to (m12 9 (by omega)) (by simp [mu_st_app, n140]) (by simp [mu_st_app, n140]) (by simp [mu_st_app, n140]) (by simp [mu_st_app, n140]) (by simp [mu_st_app, n140]) (by simp [mu_st_app, n140])
        · rw [m1211]
          by_cases q : k = h ∧ i = 4
          · obtain ⟨rfl, rfl⟩ := q; simp
          · simp [q]
        · rw [mu_st_nc (by omega), n14c c (by omega)]
        · simp [mu_st_app, n140]
        · simp [mu_st_app, n140]
        · simp [mu_st_app, n140]
        · simp [mu_st_app, n146]
        · simp [mu_st_app, n147]
        · simp [mu_st_app, n14c]
    · -- it calls back
      have hw : ¬ ν6 12 0 j' = 0 := by rw [z2]; decide
      rw [z1, if_pos (by decide), if_pos rfl, if_neg hw, hJ, z2]
      simp only [mst]
      refine ⟨_, _, _, _, rfl, rfl, ⟨fun c hc => ?_, fun k => ?_, fun c hc => ?_, ⟨?_, ?_, ?_, ?_⟩, ?_⟩, Or.inr ⟨by decide, ?_, ?_, Or.inr ⟨by decide, rfl⟩⟩⟩
      · rw [mu_st_nc (by omega)]; exact m12 c (by omega)
      · simp [mu_st_app, m1211]
      · rw [mu_st_nc (by omega), n14c c (by omega)]
      · simp [mu_st_app, n140]
      · simp [mu_st_app, n140]
      · simp [mu_st_app, n140]
      · simp [mu_st_app, n140]
      · simp [mu_st_app, m12]
      · simp [mu_st_app, n140, ht]
      · refine Rel.call hR hh 1 0 ⟨np - 1, hP12.to ?_ ?_ ?_ ?_ ?_ ?_ ?_ ?_ ?_⟩ ?_ (fun c hc => ?_) (fun k i => ?_) (fun c hc => ?_) ?_ ?_ ?_ (fun i => ?_) (fun i => ?_) (fun i => ?_)
        · rw [mu_st_nc (by decide)]
        · rw [mu_st_nc (by decide)]
        · rw [mu_st_nc (by decide)]
        · rw [mu_st_nc (by decide)]
        · simp [mu_st_app]
        · rw [mu_st_nc (by decide)]
        · rw [mu_st_nc (by decide)]
        · rw [mu_st_nc (by decide)]
        · rw [mu_st_nc (by decide)]
        · exact hL.to (by rw [mu_st_nc (by decide)]; exact m12 9 (by omega)) (by simp [mu_st_app, n140]) (by simp [mu_st_app, n140]) (by simp [mu_st_app, n140]) (by simp [mu_st_app, n140]) (by simp [mu_st_app, n140]) (by simp [mu_st_app, n140])
        · rw [mu_st_nc (by omega)]; exact m12 c (by omega)
        · simp only [mu_st_app, m1211]
          by_cases q : k = h ∧ i = 4
          · obtain ⟨rfl, rfl⟩ := q; simp
          · simp [q]
        · rw [mu_st_nc (by omega), n14c c (by omega)]
        · simp [mu_st_app, n140]
        · simp [mu_st_app, n140]
        · simp [mu_st_app, n140]
        · simp [mu_st_app, n146]
        · simp [mu_st_app, n147]
        · simp [mu_st_app, n14c]
  · -- none stands
    rw [hcall] at q2
    rw [hC0, q1, Option.bind_some, hR0, q2, Option.bind_some, if_pos rfl]
    refine ⟨0, μ6, 0, ν6, ?_, rfl, ⟨fun c hc => m6 c (by omega), fun k => ?_, fun c hc => n6c c (by omega), ?_, ?_⟩, Or.inr ⟨by decide, ?_, ?_, Or.inr ⟨by decide, rfl⟩⟩⟩
    · unfold jX4_effectOf jX4_drop
      rfl
    · simp [m611]
    · rw [n6c 0 (by decide)]; exact ⟨rfl, rfl, rfl, rfl⟩
    · rw [m6 9 (by decide)]
    · rw [n6c 0 (by decide)]; exact ht
    · refine Rel.call hR hh 0 0 ⟨np, hP6⟩ ?_ (fun c hc => m6 c (by omega)) (fun k i => ?_) (fun c hc => n6c c (by omega)) (by rw [n6c 0 (by decide)]) (by rw [n6c 0 (by decide)]) (by rw [n6c 0 (by decide)]) n66 n67 (fun i => ?_)
      · exact hL.to (m6 9 (by decide)) (by rw [n6c 0 (by decide)]) (by rw [n6c 0 (by decide)]) (by rw [n6c 0 (by decide)]) (by rw [n6c 0 (by decide)]) (by rw [n6c 0 (by decide)]) (by rw [n6c 0 (by decide)])
      · rw [m611]
        by_cases q : k = h ∧ i = 4
        · obtain ⟨rfl, rfl⟩ := q; simp
        · simp [q]
      · rw [n6c 8 (by decide)]
        by_cases q : i = h
        · subst q; simp
        · simp [q]
