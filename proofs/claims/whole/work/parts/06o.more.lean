/-! clearPlans, about, tray, at, same, thrown, count, whole. -/
theorem sim_clearPlans {μ ν : Mu} (h : RelE μ ν) : ∃ (r : Int32) (μ' ν' : Mu), jX7_clearPlans μ = some (r, μ') ∧ jX8_clearPlans ν = some (r, ν') ∧ RelE μ' ν' := by
  obtain ⟨nc, nh, nt, rows, hR⟩ := id h
  obtain ⟨hD, hH, ⟨np, hP⟩, hL, hT⟩ := id hR
  unfold jX7_clearPlans jX4_clear jX8_clearPlans
  simp only [mst, Option.bind_some]
  rw [hP.2.1, hP.2.2.1]
  refine ⟨_, _, _, rfl, rfl, nc, nh, nt, rows, hD.to (mu_st_nc (by decide)) (mu_st_nc (by decide)) (mu_st_nc (by decide)) (by simp [mu_st_app]) (mu_st_nc (by decide)) (mu_st_nc (by decide)), hH.to (mu_st_nc (by decide)) (mu_st_nc (by decide)) (by simp [mu_st_app]) (mu_st_nc (by decide)) (mu_st_nc (by decide)) (mu_st_nc (by decide)) (mu_st_nc (by decide)) (mu_st_nc (by decide)), ⟨0, by decide, ?_, ?_, ?_, ?_, fun i hi => absurd hi (Nat.not_lt_zero _)⟩, hL.to (mu_st_nc (by decide)) (by simp [mu_st_app]) (by simp [mu_st_app]) (by simp [mu_st_app]) (by simp [mu_st_app]) (by simp [mu_st_app]) (by simp [mu_st_app]), hT.to (mu_st_nc (by decide)) (fun k => by rw [mu_st_nc (by decide)]) (mu_st_nc (by decide)) (fun t _ => by rw [mu_st_nc (by decide)]) (fun t _ => by rw [mu_st_nc (by decide)]) (by simp [mu_st_app]) (mu_st_nc (by decide)) (mu_st_nc (by decide)) (mu_st_nc (by decide)) (mu_st_nc (by decide))⟩
  · simp [mu_st_app]; rfl
  · simp [mu_st_app]; rfl
  · exact List.Perm.refl _
  · exact List.nodup_nil
def cf (f : Nat → Int32) (h : Int32) : Nat → Nat
  | 0 => 0
  | n + 1 => cf f h n + if f n = h then 1 else 0
theorem cf_le (f : Nat → Int32) (h : Int32) (n : Nat) : cf f h n ≤ n := by
  induction n with
  | zero => exact Nat.le_refl _
  | succ n ih =>
    rw [cf]
    by_cases q : f n = h
    · rw [if_pos q]; omega
    · rw [if_neg q]; omega
theorem cf_count (f : Nat → Int32) (g : Nat → Int32 × Int32) (h : Int32) (n : Nat) : cf f h n = ((List.range n).map (fun i => (f i, g i))).countP (fun q => q.1 == h) := by
  induction n with
  | zero => rfl
  | succ n ih =>
    rw [cf, List.range_succ, List.map_append, List.countP_append, ← ih]
    by_cases q : f n = h
    · simp [q]
    · simp [q]
theorem standingFor_L {μ : Mu} {np : Nat} (hn : np ≤ 12) (hs : μ 5 0 3 = nI np) (h : Int32) : ∀ (n i : Nat), i ≤ np → np - i < n → jX4_standingFor_L4 μ h n (nI (cf (μ 6 0) h i)) (nI i) = some (nI (cf (μ 6 0) h np)) := by
  intro n
  induction n with
  | zero => intro i _ q; exact absurd q (Nat.not_lt_zero _)
  | succ n ih =>
    intro i hi hf
    rw [jX4_standingFor_L4, hs]
    by_cases hq : i = np
    · subst hq
      rw [if_pos (by rw [n_le (by omega) (by omega)]; omega)]
    · rw [if_neg (by rw [n_le (by omega) (by omega)]; omega), if_pos (by rw [n_in (by omega)]; exact decide_eq_true (by omega)), n_cl (by omega), zl1, n_add, n_add]
      have hi2 := ih (i + 1) (by omega) (by omega)
      rw [cf] at hi2
      by_cases q : μ 6 0 i = h
      · rw [if_pos q] at hi2 ⊢
        exact hi2
      · rw [if_neg q] at hi2 ⊢
        exact hi2
theorem about_L {ν : Mu} {np : Nat} (hn : np ≤ 12) (hs : ν 0 0 9 = nI np) (h x2 : Int32) : ∀ (n i : Nat), i ≤ np → np - i < n → jX8_about_L80 ν h x2 n (nI (cf (ν 10 0) h i)) (nI i) = some (nI (cf (ν 10 0) h np)) := by
  intro n
  induction n with
  | zero => intro i _ q; exact absurd q (Nat.not_lt_zero _)
  | succ n ih =>
    intro i hi hf
    rw [jX8_about_L80, hs]
    by_cases hq : i = np
    · subst hq
      rw [if_pos (by rw [n_le (by omega) (by omega)]; omega)]
    · rw [if_neg (by rw [n_le (by omega) (by omega)]; omega), if_pos (by rw [n_in (by omega)]; exact decide_eq_true (by omega)), n_cl (by omega), Int32.add_zero, zl1, n_add, n_add]
      have hi2 := ih (i + 1) (by omega) (by omega)
      rw [cf] at hi2
      by_cases q : ν 10 0 i = h
      · rw [if_pos q] at hi2 ⊢
        exact hi2
      · rw [if_neg q] at hi2 ⊢
        exact hi2
theorem standing_both {np : Nat} {μ ν : Mu} (h : RPl np μ ν) (a x2 : Int32) : ∃ r, jX4_standingFor μ a = some r ∧ jX8_about_L80 ν a x2 fuel 0 0 = some r := by
  have hn := h.1
  have e : cf (μ 6 0) a np = cf (ν 10 0) a np := by
    rw [cf_count (μ 6 0) (fun i => (μ 7 0 i, μ 8 0 i)), cf_count (ν 10 0) (fun i => (ν 11 0 i, effR (ν 12 0 i) (ν 13 0 i)))]
    exact h.2.2.2.1.countP_eq _
  refine ⟨nI (cf (μ 6 0) a np), ?_, ?_⟩
  · unfold jX4_standingFor
    rw [zl0]
    exact standingFor_L hn h.2.1 a fuel 0 (Nat.zero_le _) (by have := fuel_ge; omega)
  · rw [e, zl0]
    exact about_L hn h.2.2.1 a x2 fuel 0 (Nat.zero_le _) (by have := fuel_ge; omega)
theorem kindOf_at {μ : Mu} {nh h : Nat} (hn : nh ≤ 8) (hs : μ 1 0 4 = nI nh) (hh : h < nh) : jX1_kindOf μ (nI h) = some (μ 11 h 0) := by
  unfold jX1_kindOf
  rw [hasHook_at hn hs hh, Option.bind_some, if_neg (by decide), if_pos (by rw [n_in (by omega)]; exact decide_eq_true (by omega)), n_cl (by omega)]
theorem callsOf_at {μ : Mu} {nh h : Nat} (hn : nh ≤ 8) (hs : μ 1 0 4 = nI nh) (hh : h < nh) : jX1_callsOf μ (nI h) = some (μ 11 h 2) := by
  unfold jX1_callsOf
  rw [hasHook_at hn hs hh, Option.bind_some, if_neg (by decide), if_pos (by rw [n_in (by omega)]; exact decide_eq_true (by omega)), n_cl (by omega)]
theorem latestOf_at {μ : Mu} {nh h : Nat} (hn : nh ≤ 8) (hs : μ 1 0 4 = nI nh) (hh : h < nh) : jX1_latestCallsOf μ (nI h) = some (μ 11 h 3) := by
  unfold jX1_latestCallsOf
  rw [hasHook_at hn hs hh, Option.bind_some, if_neg (by decide), if_pos (by rw [n_in (by omega)]; exact decide_eq_true (by omega)), n_cl (by omega)]
theorem misusesOf_at {μ : Mu} {nh h : Nat} (hn : nh ≤ 8) (hs : μ 1 0 4 = nI nh) (hh : h < nh) : jX1_misusesOf μ (nI h) = some (μ 11 h 4) := by
  unfold jX1_misusesOf
  rw [hasHook_at hn hs hh, Option.bind_some, if_neg (by decide), if_pos (by rw [n_in (by omega)]; exact decide_eq_true (by omega)), n_cl (by omega)]
theorem i_ne {b : Int32} {k : Int32} {n : Int} (hk : k.toInt = n) (h : ¬ b = k) : ¬ b.toInt = n := fun y => h (Int32.toInt_inj.mp (by rw [y, hk]))
theorem sim_about {μ ν : Mu} (h : RelE μ ν) (a b : Int32) : ∃ (r : Int32), jX7_about μ a b = some r ∧ jX8_about ν a b = some r := by
  obtain ⟨nc, nh, nt, rows, hR⟩ := id h
  obtain ⟨hD, hH, ⟨np, hP⟩, hL, hT⟩ := id hR
  have hn := hH.1
  unfold jX7_about jX8_about
  rw [(hasHook_gen hR a).1, (hasHook_gen hR a).2, in_at, Int32.toInt_toInt64, Option.bind_some, Option.bind_some, Option.bind_some, show (4 : Int64).toInt = 4 from rfl, show (0 : Int64).toInt = 0 from rfl, ite10, ite10, ite10]
  by_cases v : vl a nh
  · rw [if_pos v, if_pos v]
    obtain ⟨j, hj, rfl⟩ := vl_nI v (by omega)
    have hin : inb (nI j) 8 = true := by rw [n_in (by omega)]; exact decide_eq_true (by omega)
    rw [kindOf_at hn hH.2.1 hj, callsOf_at hn hH.2.1 hj, latestOf_at hn hH.2.1 hj, misusesOf_at hn hH.2.1 hj, Option.bind_some, Option.bind_some, Option.bind_some, Option.bind_some]
    simp only [hin, if_true, n_cl (show j < 100000 by omega)]
    obtain ⟨r, s1, s2⟩ := standing_both hP (nI j) b
    rw [s1, s2, Option.bind_some, ← (hH.2.2.2.1 j hj).1, ← (hH.2.2.2.2.1 j (by omega)).1, ← (hH.2.2.2.2.1 j (by omega)).2.1, ← (hH.2.2.2.2.1 j (by omega)).2.2]
    by_cases q0 : b = 0
    · subst q0; exact ⟨_, rfl, rfl⟩
    by_cases q1 : b = 1
    · subst q1; exact ⟨_, rfl, rfl⟩
    by_cases q2 : b = 2
    · subst q2; exact ⟨_, rfl, rfl⟩
    by_cases q3 : b = 3
    · subst q3; exact ⟨_, rfl, rfl⟩
    by_cases q4 : b = 4
    · subst q4; exact ⟨_, rfl, rfl⟩
    have h0 := i_ne (n := 0) rfl q0
    have h1 := i_ne (n := 1) rfl q1
    have h2 := i_ne (n := 2) rfl q2
    have h3 := i_ne (n := 3) rfl q3
    have h4 := i_ne (n := 4) rfl q4
    rw [if_neg q0, if_neg q1, if_neg q2, if_neg q3, if_neg q4, if_neg (show ¬ wi b.toInt 0 4 by unfold wi; omega)]
    exact ⟨_, rfl, rfl⟩
  · rw [if_neg v, if_neg v]
    exact ⟨_, rfl, rfl⟩
theorem sim_thrown {μ ν : Mu} (h : RelE μ ν) (a : Int32) : ∃ (r : Int32), jX7_thrown μ a = some r ∧ jX8_thrown ν a = some r := by
  obtain ⟨nc, nh, nt, rows, hD, hH, ⟨np, hP⟩, ⟨l0, l1, l2, l3, l4, l5⟩, hT⟩ := h
  unfold jX7_thrown jX8_thrown
  rw [l0, l1, l2, l3]
  by_cases q0 : a = 0
  · rw [if_pos q0]; exact ⟨_, rfl, rfl⟩
  rw [if_neg q0]
  by_cases q1 : a = 1
  · rw [if_pos q1]; exact ⟨_, rfl, rfl⟩
  rw [if_neg q1]
  by_cases q2 : a = 2
  · rw [if_pos q2]; exact ⟨_, rfl, rfl⟩
  rw [if_neg q2]
  by_cases q3 : a = 3
  · rw [if_pos q3]; exact ⟨_, rfl, rfl⟩
  rw [if_neg q3]
  exact ⟨_, rfl, rfl⟩
theorem sim_count {μ ν : Mu} (h : RelE μ ν) (a : Int32) : ∃ (r : Int32), jX7_count μ a = some r ∧ jX8_count ν a = some r := by
  obtain ⟨nc, nh, nt, rows, hD, hH, ⟨np, hP⟩, ⟨l0, l1, l2, l3, l4, l5⟩, hT⟩ := h
  unfold jX7_count jX8_count
  rw [hD.2.1, hD.2.2.1, hH.2.1, hH.2.2.1, hT.2.1, hT.2.2.1, hP.2.1, hP.2.2.1, l4, l5, Int32.add_zero]
  by_cases q0 : a = 0
  · rw [if_pos q0]; exact ⟨_, rfl, rfl⟩
  rw [if_neg q0]
  by_cases q1 : a = 1
  · rw [if_pos q1]; exact ⟨_, rfl, rfl⟩
  rw [if_neg q1]
  by_cases q2 : a = 2
  · rw [if_pos q2]; exact ⟨_, rfl, rfl⟩
  rw [if_neg q2]
  by_cases q3 : a = 3
  · rw [if_pos q3]; exact ⟨_, rfl, rfl⟩
  rw [if_neg q3]
  by_cases q4 : a = 4
  · rw [if_pos q4]; exact ⟨_, rfl, rfl⟩
  rw [if_neg q4]
  by_cases q5 : a = 5
  · rw [if_pos q5]; exact ⟨_, rfl, rfl⟩
  rw [if_neg q5]
  exact ⟨_, rfl, rfl⟩
theorem Rel.row {nc nh nt : Nat} {rows : Nat → List Int32} {b : Int32} {μ ν : Mu} (h : Rel nc nh nt rows b μ ν) {t : Nat} (ht : t < 6) : RowIs μ t (rows t) ∧ HeldIs ν t (rows t) ∧ ∀ c ∈ rows t, isCd nc c := h.2.2.2.2.2.2.2.2.1 t ht
theorem sim_at {μ ν : Mu} (h : RelE μ ν) (a b : Int32) : ∃ (r : Int32), jX7_at μ a b = some r ∧ jX8_at ν a b = some r := by
  obtain ⟨nc, nh, nt, rows, hR⟩ := id h
  have h6 := hR.nt6
  unfold jX7_at jX8_at
  rw [(hasTray_at hR a).1, (hasTray_at hR a).2, Option.bind_some, Option.bind_some, ite10, ite10]
  by_cases v : vl a nt
  · rw [if_pos v, if_pos v]
    obtain ⟨t, ht, rfl⟩ := vl_nI v (by omega)
    have hin : inb (nI t) 6 = true := by rw [n_in (by omega)]; exact decide_eq_true (by omega)
    by_cases q : 0 ≤ b
    · rw [if_pos q, if_pos q, if_pos hin, if_pos hin, n_cl (by omega)]
      obtain ⟨r1, r2, r3⟩ := hR.row (show t < 6 by omega)
      generalize rows t = l at r1 r2 r3
      have hl := r1.1
      rw [r2.2.1]
      by_cases v2 : vl b l.length
      · obtain ⟨i, hi, rfl⟩ := vl_nI v2 (by omega)
        rw [cardAt_at r1 i hi, Option.bind_some, if_neg (by rw [n_le (by omega) (by omega)]; omega), zl40, pk_mul, n_add, if_pos (by rw [n_in (by omega)]; exact decide_eq_true (by omega)), n_cl (by omega)]
        exact ⟨_, rfl, by rw [show ν 18 0 (40 * t + i) = μ 15 t i from Option.some.inj ((r2.2.2 i hi).symm.trans (r1.2.2 i hi))]⟩
      · have hb0 : 0 ≤ b.toInt := Int32.le_iff_toInt_le.mp q
        have hle : nI l.length ≤ b := (i_nle (by omega) b).mpr (by unfold vl at v2; omega)
        rw [if_pos hle]
        unfold jX5_cardAt jX5_hasPlace
        rw [r1.2.1, if_neg (by rw [i_lt0]; omega), if_pos hle, Option.bind_some, if_pos rfl, Option.bind_some]
        exact ⟨_, rfl, rfl⟩
    · rw [if_neg q, if_neg q]
      exact ⟨_, rfl, rfl⟩
  · rw [if_neg v, if_neg v]
    exact ⟨_, rfl, rfl⟩
