/-! tray, same, whole. -/
theorem Rel.addTray {nc nh nt : Nat} {rows : Nat → List Int32} {μ ν μ' ν' : Mu} (h : Rel nc nh nt rows 0 μ ν) (hn : nt < 6) (kd hk : Int32) (hv : (kd = 0 ∧ hk = -4) ∨ ((kd = 1 ∨ kd = 2) ∧ ∃ q, q < nh ∧ hk = nI q ∧ isCmp μ q)) (m : ∀ c, ¬ (c = 0 ∨ c = 13) → μ' c = μ c) (m0 : μ' 0 0 2 = nI (nt + 1)) (m1 : ∀ t, μ' 13 t 1 = if t = nt then kd else μ 13 t 1) (m2 : ∀ t, μ' 13 t 2 = if t = nt then hk else μ 13 t 2) (n : ∀ c, ¬ (c = 0 ∨ c = 15 ∨ c = 16) → ν' c = ν c) (n0 : ∀ j, j ≠ 14 → ν' 0 0 j = ν 0 0 j) (n14 : ν' 0 0 14 = nI (nt + 1)) (n15 : ∀ t, ν' 15 0 t = if t = nt then kd else ν 15 0 t) (n16 : ∀ t, ν' 16 0 t = if t = nt then hk else ν 16 0 t) : Rel nc nh (nt + 1) rows 0 μ' ν' := by
  obtain ⟨hD, hH, ⟨np, hP⟩, hL, hT⟩ := h
  refine ⟨hD.to (m 2 (by decide)) (m 3 (by decide)) (m 4 (by decide)) (n0 0 (by decide)) (n 1 (by decide)) (n 2 (by decide)), hH.to (m 1 (by decide)) (m 11 (by decide)) (n0 3 (by decide)) (n 4 (by decide)) (n 5 (by decide)) (n 6 (by decide)) (n 7 (by decide)) (n 8 (by decide)), ⟨np, hP.to (m 5 (by decide)) (m 6 (by decide)) (m 7 (by decide)) (m 8 (by decide)) (n0 9 (by decide)) (n 10 (by decide)) (n 11 (by decide)) (n 12 (by decide)) (n 13 (by decide))⟩, hL.to (m 9 (by decide)) (n0 19 (by decide)) (n0 20 (by decide)) (n0 22 (by decide)) (n0 23 (by decide)) (n0 24 (by decide)) (n0 25 (by decide)), ?_⟩
  obtain ⟨a1, a2, a3, a4, a5, a6⟩ := hT
  refine ⟨by omega, m0, n14, fun t ht => ?_, fun t ht => ?_, fun t ht => a6 t (by omega)⟩
  · unfold isCmp
    rw [m1, m2, n15, n16, m 11 (by decide)]
    by_cases e : t = nt
    · simp only [e, if_true]
      exact ⟨trivial, trivial, hv⟩
    · simp only [e, if_false]
      exact a4 t (by omega)
  · obtain ⟨b1, b2, b3⟩ := a5 t ht
    refine ⟨?_, ?_, b3⟩
    · unfold RowIs
      rw [m 14 (by decide), m 15 (by decide)]
      exact b1
    · unfold HeldIs
      rw [n 17 (by decide), n 18 (by decide)]
      exact b2
theorem compares_both {nc nh nt : Nat} {rows : Nat → List Int32} {b : Int32} {μ ν : Mu} (hR : Rel nc nh nt rows b μ ν) {h : Nat} (hh : h < nh) : (isCmp μ h ∧ jX1_compares μ (nI h) = some 1 ∧ jX8_compares ν (nI h) = some 1) ∨ (¬ isCmp μ h ∧ jX1_compares μ (nI h) = some 0 ∧ jX8_compares ν (nI h) = some 0) := by
  have hH := hR.2.1
  have hn := hH.1
  obtain ⟨e1, -, q, hq, e2⟩ := hH.2.2.2.1 h hh
  unfold jX1_compares jX8_compares isCmp
  rw [kindOf_at hn hH.2.1 hh, Option.bind_some, if_pos (show inb (nI h) 8 = true by rw [n_in (by omega)]; exact decide_eq_true (by omega)), n_cl (by omega), ← e1, e2]
  rcases (show q = 0 ∨ q = 1 ∨ q = 2 ∨ q = 3 ∨ q = 4 by omega) with rfl | rfl | rfl | rfl | rfl
  · exact Or.inl ⟨Or.inl rfl, rfl, rfl⟩
  · exact Or.inl ⟨Or.inr (Or.inl rfl), rfl, rfl⟩
  · exact Or.inl ⟨Or.inr (Or.inr rfl), rfl, rfl⟩
  · exact Or.inr ⟨by decide, rfl, rfl⟩
  · exact Or.inr ⟨by decide, rfl, rfl⟩
theorem tray_end {nc nh nt : Nat} {rows : Nat → List Int32} {μ ν : Mu} (h : RelE μ ν) (hR : Rel nc nh nt rows 0 μ ν) (a b : Int32) (hv : a = 0 ∨ ((a = 1 ∨ a = 2) ∧ ∃ q, q < nh ∧ b = nI q ∧ isCmp μ q)) : ∃ (r : Int32) (μ' ν' : Mu), jX7_tray_J44 μ a b = some (r, μ') ∧ jX8_tray_J41 ν a b = some (r, ν') ∧ RelE μ' ν' := by
  have h6 := hR.nt6
  have s1 := hR.2.2.2.2.2.1
  have s2 := hR.2.2.2.2.2.2.1
  unfold jX7_tray_J44 jX8_tray_J41
  rw [s1, s2]
  by_cases q : nt = 6
  · rw [if_neg (by rw [zl6, n_lt (by omega) (by omega)]; omega), if_pos (by rw [zl6, n_eq (by omega) (by omega)]; exact q)]
    exact ⟨_, _, _, rfl, rfl, h⟩
  · have hin : inb (nI nt) 6 = true := by rw [n_in (by omega)]; exact decide_eq_true (by omega)
    unfold jX6_become
    rw [if_pos (show nI nt < 6 by rw [zl6, n_lt (by omega) (by omega)]; omega), if_neg (show ¬ nI nt = 6 by rw [zl6, n_eq (by omega) (by omega)]; exact q), if_pos hin, if_pos hin, n_cl (by omega)]
    simp only [mst, Option.bind_some, mu_st_app, Nat.reduceEqDiff, false_and, and_false, and_true, true_and, if_true, if_false, s1, s2, hin, n_cl (show nt < 100000 by omega)]
    rw [zl1, n_add, n_sub (by omega), Nat.add_sub_cancel]
    by_cases q0 : a = 0
    · subst q0
      rw [if_pos rfl, if_pos rfl]
      refine ⟨_, _, _, rfl, rfl, nc, nh, nt + 1, rows, hR.addTray (by omega) 0 (-4) (Or.inl ⟨rfl, rfl⟩) (fun c hc => ?_) ?_ (fun t => ?_) (fun t => ?_) (fun c hc => ?_) (fun j hj => ?_) ?_ (fun t => ?_) (fun t => ?_)⟩
      · rw [mu_st_nc (by omega), mu_st_nc (by omega), mu_st_nc (by omega)]
      · simp [mu_st_app]
      · simp [mu_st_app]
      · simp [mu_st_app]
      · rw [mu_st_nc (by omega), mu_st_nc (by omega), mu_st_nc (by omega)]
      · simp [mu_st_app, hj]
      · simp [mu_st_app]
      · simp [mu_st_app]
      · simp [mu_st_app]
    · rw [if_neg q0, if_neg q0]
      refine ⟨_, _, _, rfl, rfl, nc, nh, nt + 1, rows, hR.addTray (by omega) a b (Or.inr (hv.resolve_left q0)) (fun c hc => ?_) ?_ (fun t => ?_) (fun t => ?_) (fun c hc => ?_) (fun j hj => ?_) ?_ (fun t => ?_) (fun t => ?_)⟩
      · rw [mu_st_nc (by omega), mu_st_nc (by omega), mu_st_nc (by omega)]
      · simp [mu_st_app]
      · simp [mu_st_app]
      · simp [mu_st_app]
      · rw [mu_st_nc (by omega), mu_st_nc (by omega), mu_st_nc (by omega)]
      · simp [mu_st_app, hj]
      · simp [mu_st_app]
      · simp [mu_st_app]
      · simp [mu_st_app]
theorem sim_tray {μ ν : Mu} (h : RelE μ ν) (a b : Int32) : ∃ (r : Int32) (μ' ν' : Mu), jX7_tray μ a b = some (r, μ') ∧ jX8_tray ν a b = some (r, ν') ∧ RelE μ' ν' := by
  obtain ⟨nc, nh, nt, rows, hR⟩ := id h
  have hn := hR.2.1.1
  unfold jX7_tray jX8_tray jX7_tray_J24 jX8_tray_J24 jX7_tray_J26 jX8_tray_J26
  rw [isWithin_at, in_at, Int32.toInt_toInt64, Option.bind_some, Option.bind_some, show (2 : Int64).toInt = 2 from rfl, show (0 : Int64).toInt = 0 from rfl, show (2 : Int32).toInt = 2 from rfl, show (0 : Int32).toInt = 0 from rfl, ite10, ite10]
  by_cases v : wi a.toInt 0 2
  · rw [if_pos v, if_pos v]
    by_cases q0 : a = 0
    · rw [if_pos q0, if_pos q0, if_pos q0, if_pos q0]
      exact tray_end h hR a b (Or.inl q0)
    · have ha : a = 1 ∨ a = 2 := by
        obtain ⟨j, hj, e⟩ := vl_nI (n := 3) (a := a) (by unfold vl; unfold wi at v; omega) (by omega)
        rcases (show j = 0 ∨ j = 1 ∨ j = 2 by omega) with rfl | rfl | rfl
        · exact absurd e q0
        · exact Or.inl e
        · exact Or.inr e
      rw [if_neg q0, if_neg q0, if_neg q0, if_neg q0, (hasHook_gen hR b).1, (hasHook_gen hR b).2, Option.bind_some, Option.bind_some, ite10, ite10]
      by_cases w : vl b nh
      · rw [if_pos w, if_pos w]
        obtain ⟨j, hj, rfl⟩ := vl_nI w (by omega)
        rcases compares_both hR hj with ⟨c1, c2, c3⟩ | ⟨c1, c2, c3⟩
        · rw [c2, c3, Option.bind_some, Option.bind_some, if_neg (by decide), if_neg (by decide)]
          exact tray_end h hR a (nI j) (Or.inr ⟨ha, j, hj, rfl, c1⟩)
        · rw [c2, c3, Option.bind_some, Option.bind_some, if_pos rfl, if_pos rfl]
          exact ⟨_, _, _, rfl, rfl, h⟩
      · rw [if_neg w, if_neg w]
        exact ⟨_, _, _, rfl, rfl, h⟩
  · rw [if_neg v, if_neg v]
    exact ⟨_, _, _, rfl, rfl, h⟩
theorem same_L {μ ν : Mu} {t u : Nat} {l1 l2 : List Int32} (ht : t < 6) (hu : u < 6) (r1 : RowIs μ t l1) (r2 : RowIs μ u l2) (s1 : HeldIs ν t l1) (s2 : HeldIs ν u l2) (hlen : l1.length = l2.length) : ∀ (n n' i : Nat), i ≤ l1.length → l1.length - i < n → l1.length - i + 1 < n' → ∃ r, jX5_isLike_L15 μ t u n (nI i) = some r ∧ jX8_same_L42 ν (nI t) (nI u) n' 1 (nI i) = some r ∧ (r = 0 ∨ r = 1) := by
  have hl := r1.1
  intro n
  induction n with
  | zero => intro n' i _ q; exact absurd q (Nat.not_lt_zero _)
  | succ n ih =>
    intro n' i hi hn hn'
    obtain ⟨n', rfl⟩ : ∃ z, n' = z + 1 := ⟨n' - 1, by omega⟩
    have it : inb (nI t) 6 = true := by rw [n_in (by omega)]; exact decide_eq_true (by omega)
    rw [jX5_isLike_L15, jX8_same_L42, if_pos it, n_cl (show t < 100000 by omega), r1.2.1, s1.2.1]
    by_cases hq : i = l1.length
    · have e : nI l1.length ≤ nI i := by rw [n_le (by omega) (by omega)]; omega
      rw [if_pos e, if_pos e]
      exact ⟨1, rfl, rfl, Or.inr rfl⟩
    · have e : ¬ nI l1.length ≤ nI i := by rw [n_le (by omega) (by omega)]; omega
      have i1 : inb (nI i) 40 = true := by rw [n_in (by omega)]; exact decide_eq_true (by omega)
      rw [if_neg e, if_neg e, if_pos i1, if_pos i1, n_cl (show i < 100000 by omega), if_neg (show ¬ (1 : Int32) = 0 by decide), zl40, pk_mul, pk_mul, n_add, n_add, if_pos (show inb (nI (40 * t + i)) 240 = true by rw [n_in (by omega)]; exact decide_eq_true (by omega)), if_pos (show inb (nI (40 * u + i)) 240 = true by rw [n_in (by omega)]; exact decide_eq_true (by omega)), n_cl (show 40 * t + i < 100000 by omega), n_cl (show 40 * u + i < 100000 by omega), show ν 18 0 (40 * t + i) = μ 15 t i from Option.some.inj ((s1.2.2 i (by omega)).symm.trans (r1.2.2 i (by omega))), show ν 18 0 (40 * u + i) = μ 15 u i from Option.some.inj ((s2.2.2 i (by omega)).symm.trans (r2.2.2 i (by omega)))]
      rw [show nI i + 1 = nI (i + 1) from by rw [zl1, n_add]]
      by_cases q : μ 15 t i = μ 15 u i
      · rw [if_pos q, if_pos q]
        exact ih n' (i + 1) (by omega) (by omega) (by omega)
      · rw [if_neg q, if_neg q]
        obtain ⟨n2, rfl⟩ : ∃ z, n' = z + 1 := ⟨n' - 1, by omega⟩
        refine ⟨0, rfl, ?_, Or.inl rfl⟩
        rw [jX8_same_L42, if_pos it]
        by_cases z : ν 17 0 (nI t).toNatClampNeg ≤ nI (i + 1)
        · rw [if_pos z]; rfl
        · rw [if_neg z]; rfl
theorem same_0 {ν : Mu} {t : Nat} (ht : t < 6) (x2 x4 : Int32) : jX8_same_L42 ν (nI t) x2 fuel 0 x4 = some 0 := by
  have it : inb (nI t) 6 = true := by rw [n_in (by omega)]; exact decide_eq_true (by omega)
  rw [fuel_s, jX8_same_L42, if_pos it]
  by_cases z : ν 17 0 (nI t).toNatClampNeg ≤ x4
  · rw [if_pos z]; rfl
  · rw [if_neg z]; rfl
theorem sim_same {μ ν : Mu} (h : RelE μ ν) (a b : Int32) : ∃ (r : Int32), jX7_same μ a b = some r ∧ jX8_same ν a b = some r := by
  obtain ⟨nc, nh, nt, rows, hR⟩ := id h
  have h6 := hR.nt6
  unfold jX7_same jX8_same
  rw [(hasTray_at hR a).1, (hasTray_at hR a).2, (hasTray_at hR b).1, (hasTray_at hR b).2, Option.bind_some, Option.bind_some, Option.bind_some, Option.bind_some, ite10, ite10, ite10, ite10]
  by_cases v : vl a nt
  · rw [if_pos v, if_pos v]
    by_cases w : vl b nt
    · rw [if_pos w, if_pos w]
      obtain ⟨t, ht, rfl⟩ := vl_nI v (by omega)
      obtain ⟨u, hu, rfl⟩ := vl_nI w (by omega)
      have it : inb (nI t) 6 = true := by rw [n_in (by omega)]; exact decide_eq_true (by omega)
      have iu : inb (nI u) 6 = true := by rw [n_in (by omega)]; exact decide_eq_true (by omega)
      obtain ⟨r1, s1, -⟩ := hR.row (show t < 6 by omega)
      obtain ⟨r2, s2, -⟩ := hR.row (show u < 6 by omega)
      have hl1 := r1.1
      have hl2 := r2.1
      rw [if_pos it, if_pos it, if_pos iu, if_pos iu, n_cl (show t < 100000 by omega), n_cl (show u < 100000 by omega)]
      unfold jX5_isLike
      rw [r1.2.1, r2.2.1, s1.2.1, s2.2.1]
      by_cases q : (rows t).length = (rows u).length
      · have e : nI (rows t).length = nI (rows u).length := by rw [q]
        rw [if_pos e, if_pos e]
        obtain ⟨r, c1, c2, c3⟩ := same_L (show t < 6 by omega) (show u < 6 by omega) r1 r2 s1 s2 q fuel fuel 0 (Nat.zero_le _) (by have := fuel_ge; omega) (by have := fuel_ge; omega)
        rw [← zl0] at c1 c2
        rw [c1, c2, Option.bind_some]
        rcases c3 with rfl | rfl
        · exact ⟨_, rfl, rfl⟩
        · exact ⟨_, rfl, rfl⟩
      · have e : ¬ nI (rows t).length = nI (rows u).length := by rw [n_eq (by omega) (by omega)]; exact q
        rw [if_neg e, if_neg e, Option.bind_some, if_pos rfl, same_0 (show t < 6 by omega)]
        exact ⟨_, rfl, rfl⟩
    · rw [if_neg w, if_neg w]
      exact ⟨_, rfl, rfl⟩
  · rw [if_neg v, if_neg v]
    exact ⟨_, rfl, rfl⟩
