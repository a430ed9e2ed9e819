/-! whole, plan. -/
theorem whole_0 {ν : Mu} {t : Nat} (ht : t < 6) {len : Nat} (hl : len ≤ 40) (hs : ν 17 0 t = nI len) (x2 : Int32) (hk : ν 15 0 t = 1 ∨ ν 15 0 t = 2) : ∀ (n i : Nat), i ≤ 41 → 41 - i < n → jX8_whole_L66 ν (nI t) x2 n 0 (nI i) = some 0 := by
  have it : inb (nI t) 6 = true := by rw [n_in (by omega)]; exact decide_eq_true (by omega)
  have hk0 : ¬ ν 15 0 t = 0 := by rcases hk with e | e <;> rw [e] <;> decide
  intro n
  induction n with
  | zero => intro i _ q; exact absurd q (Nat.not_lt_zero _)
  | succ n ih =>
    intro i hi hn
    rw [jX8_whole_L66]
    simp only [it, if_true, n_cl (show t < 100000 by omega), hs, hk0, if_false]
    by_cases z : nI len ≤ nI i
    · rw [if_pos z]
    · rw [if_neg z]
      rw [n_le (by omega) (by omega)] at z
      rw [show nI i + 1 = nI (i + 1) from by rw [zl1, n_add], ih (i + 1) (by omega) (by omega)]
      by_cases q : ν 15 0 t = 1
      · rw [if_pos q]
      · rw [if_neg q]
theorem whole_L {nc nh nt : Nat} {rows : Nat → List Int32} {μ ν : Mu} (hR : Rel nc nh nt rows 0 μ ν) {t : Nat} (ht : t < nt) (x2 : Int32) {h : Nat} (hh : h < nh) (hk : μ 13 t 2 = nI h) (hc : isCmp μ h) (hkd : μ 13 t 1 = 1 ∨ μ 13 t 1 = 2) : ∀ (n n' i : Nat), 1 ≤ i → i ≤ 41 → 41 - i < n → 42 - i < n' → ∃ r, jX7_isWhole_L11 μ t n (nI i) = some r ∧ jX8_whole_L66 ν (nI t) x2 n' 1 (nI i) = some r ∧ (r = 0 ∨ r = 1) := by
  have h6 := hR.nt6
  obtain ⟨k1, k2, -⟩ := hR.2.2.2.2.2.2.2.1 t ht
  obtain ⟨r1, s1, hl⟩ := hR.row (show t < 6 by omega)
  generalize rows t = l at r1 s1 hl
  have hl40 := r1.1
  have it : inb (nI t) 6 = true := by rw [n_in (by omega)]; exact decide_eq_true (by omega)
  have hk0 : ¬ μ 13 t 1 = 0 := by rcases hkd with e | e <;> rw [e] <;> decide
  have hcard : ∀ j, j < l.length → ∃ q, q < nc ∧ μ 15 t j = nI q ∧ ν 18 0 (40 * t + j) = nI q := fun j hj => by
    obtain ⟨q, hq, e⟩ := hl _ (List.mem_of_getElem? (r1.2.2 j hj))
    exact ⟨q, hq, e, by rw [← e]; exact Option.some.inj ((s1.2.2 j hj).symm.trans (r1.2.2 j hj))⟩
  intro n
  induction n with
  | zero => intro n' i _ _ q; exact absurd q (Nat.not_lt_zero _)
  | succ n ih =>
    intro n' i h1 hi hn hn'
    obtain ⟨n', rfl⟩ : ∃ z, n' = z + 1 := ⟨n' - 1, by omega⟩
    rw [jX7_isWhole_L11, jX8_whole_L66]
    simp only [it, if_true, n_cl (show t < 100000 by omega), s1.2.1, r1.2.1, ← k1, ← k2, hk0, if_false, show ¬ (1 : Int32) = 0 by decide, hk]
    by_cases z : nI l.length ≤ nI i
    · rw [if_pos z, if_pos z]
      exact ⟨1, rfl, rfl, Or.inr rfl⟩
    · rw [if_neg z, if_neg z]
      rw [n_le (by omega) (by omega)] at z
      have step : ∀ j, j < l.length → ∃ r, (jX5_cardAt μ t (nI i)).bind (fun r13 => (jX5_cardAt μ t (nI j)).bind (fun r15 => (jX1_compareTruly μ (nI h) r13 r15).bind (fun r17 => if 0 ≤ r17 then jX7_isWhole_L11 μ t n (nI i + 1) else some 0))) = some r ∧ (if inb (nI 40 * nI t + nI i) 240 = true then if inb (nI 40 * nI t + nI j) 240 = true then (jX8_truth ν (nI h) (ν 18 0 (nI 40 * nI t + nI i).toNatClampNeg) (ν 18 0 (nI 40 * nI t + nI j).toNatClampNeg)).bind (fun r29 => if r29 < 0 then jX8_whole_L66 ν (nI t) x2 n' 0 (nI i + 1) else jX8_whole_L66 ν (nI t) x2 n' 1 (nI i + 1)) else none else none) = some r ∧ (r = 0 ∨ r = 1) := by
        intro j hj
        rw [cardAt_at r1 i (by omega), Option.bind_some, cardAt_at r1 j hj, Option.bind_some, pk_mul, n_add, n_add, if_pos (show inb (nI (40 * t + i)) 240 = true by rw [n_in (by omega)]; exact decide_eq_true (by omega)), if_pos (show inb (nI (40 * t + j)) 240 = true by rw [n_in (by omega)]; exact decide_eq_true (by omega)), n_cl (show 40 * t + i < 100000 by omega), n_cl (show 40 * t + j < 100000 by omega)]
        obtain ⟨x, hx, e1, e2⟩ := hcard i (by omega)
        obtain ⟨y, hy, e3, e4⟩ := hcard j hj
        rw [e1, e2, e3, e4, compareTruly_at hR.1 hR.2.1 hh hc hx hy, truth_at hR.1 hR.2.1 hh hx hy, Option.bind_some, Option.bind_some, show nI i + 1 = nI (i + 1) from by rw [zl1, n_add]]
        have hv := trueV_v μ h x y
        generalize trueV μ h x y = v at hv
        rcases hv with rfl | rfl | rfl
        · rw [if_neg (by decide), if_pos (by decide), whole_0 (show t < 6 by omega) hl40 s1.2.1 x2 (by rw [← k1]; exact hkd) n' (i + 1) (by omega) (by omega)]
          exact ⟨0, rfl, rfl, Or.inl rfl⟩
        · rw [if_pos (by decide), if_neg (by decide)]
          exact ih n' (i + 1) (by omega) (by omega) (by omega) (by omega)
        · rw [if_pos (by decide), if_neg (by decide)]
          exact ih n' (i + 1) (by omega) (by omega) (by omega) (by omega)
      by_cases q : μ 13 t 1 = 1
      · rw [if_pos q, if_pos q, show nI i - 1 = nI (i - 1) from by rw [zl1, n_sub (by omega)], zl40]
        exact step (i - 1) (by omega)
      · rw [if_neg q, if_neg q, par_nI (by omega) (by omega), zl40]
        exact step ((i - 1) / 2) (by omega)
theorem sim_whole {μ ν : Mu} (h : RelE μ ν) (a b : Int32) : ∃ (r : Int32), jX7_whole μ a b = some r ∧ jX8_whole ν a b = some r := by
  obtain ⟨nc, nh, nt, rows, hR⟩ := id h
  have h6 := hR.nt6
  unfold jX7_whole jX8_whole
  rw [(hasTray_at hR a).1, (hasTray_at hR a).2, in_at, Int32.toInt_toInt64, Option.bind_some, Option.bind_some, Option.bind_some, show (3 : Int64).toInt = 3 from rfl, show (0 : Int64).toInt = 0 from rfl, ite10, ite10, ite10]
  by_cases v : vl a nt
  · rw [if_pos v, if_pos v]
    obtain ⟨t, ht, rfl⟩ := vl_nI v (by omega)
    have it : inb (nI t) 6 = true := by rw [n_in (by omega)]; exact decide_eq_true (by omega)
    obtain ⟨k1, k2, k3⟩ := hR.2.2.2.2.2.2.2.1 t ht
    obtain ⟨r1, s1, -⟩ := hR.row (show t < 6 by omega)
    simp only [it, if_true, n_cl (show t < 100000 by omega), s1.2.1, r1.2.1, ← k1, ← k2]
    by_cases q0 : b = 0
    · subst q0; exact ⟨_, rfl, rfl⟩
    by_cases q1 : b = 1
    · subst q1; exact ⟨_, rfl, rfl⟩
    by_cases q2 : b = 2
    · subst q2; exact ⟨_, rfl, rfl⟩
    by_cases q3 : b = 3
    · subst q3
      have e : ∃ r, jX7_isWhole μ t = some r ∧ jX8_whole_L66 ν (nI t) 3 fuel 1 1 = some r ∧ (r = 0 ∨ r = 1) := by
        unfold jX7_isWhole
        rcases k3 with ⟨z, -⟩ | ⟨z, hk, c1, c2, c3⟩
        · rw [if_pos z, fuel_s, jX8_whole_L66]
          simp only [it, if_true, n_cl (show t < 100000 by omega), ← k1, z]
          refine ⟨1, rfl, ?_, Or.inr rfl⟩
          by_cases y : ν 17 0 t ≤ 1
          · rw [if_pos y]; rfl
          · rw [if_neg y]; rfl
        · rw [if_neg (by rcases z with e | e <;> rw [e] <;> decide), zl1]
          have w := whole_L hR ht 3 c1 c2 c3 z fuel fuel 1 (by omega) (by omega) (by have := fuel_ge; omega) (by have := fuel_ge; omega)
          rw [zl1] at w
          exact w
      obtain ⟨r, e1, e2, e3⟩ := e
      rw [e1, e2, Option.bind_some]
      rcases e3 with rfl | rfl
      · exact ⟨_, rfl, rfl⟩
      · exact ⟨_, rfl, rfl⟩
    have h0 := i_ne (n := 0) rfl q0
    have h1 := i_ne (n := 1) rfl q1
    have h2 := i_ne (n := 2) rfl q2
    have h3 := i_ne (n := 3) rfl q3
    rw [if_neg q0, if_neg q1, if_neg q2, if_neg q3, if_neg (show ¬ wi b.toInt 0 3 by unfold wi; omega)]
    exact ⟨_, rfl, rfl⟩
  · rw [if_neg v, if_neg v]
    exact ⟨_, rfl, rfl⟩
