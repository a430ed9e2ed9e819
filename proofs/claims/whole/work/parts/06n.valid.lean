/-! Which numbers are told; cards, hooks, trays come. -/
abbrev vl (a : Int32) (n : Nat) : Prop := 0 ≤ a.toInt ∧ a.toInt < n
theorem vl_nI {a : Int32} {n : Nat} (h : vl a n) (hn : n ≤ 1000) : ∃ j, j < n ∧ a = nI j := by
  obtain ⟨j, hj⟩ := Int.eq_ofNat_of_zero_le h.1
  refine ⟨j, by have := h.2; omega, ?_⟩
  apply Int32.toInt_inj.mp
  rw [nI_toInt (by have := h.2; omega), hj]
theorem nI_vl {j n : Nat} (h : j < n) (hn : n ≤ 1000) : vl (nI j) n := by
  unfold vl
  rw [nI_toInt (by omega)]
  omega
theorem i_lt0 (a : Int32) : a < 0 ↔ a.toInt < 0 := by rw [Int32.lt_iff_toInt_lt]; rfl
theorem i_nle {n : Nat} (hn : n ≤ 1000) (a : Int32) : nI n ≤ a ↔ (n : Int) ≤ a.toInt := by rw [Int32.le_iff_toInt_le, nI_toInt (by omega)]
theorem has_gen {n : Nat} (hn : n ≤ 1000) (a : Int32) : (if a < 0 then some (0 : Int32) else if nI n ≤ a then some 0 else some 1) = some (if vl a n then 1 else 0) := by
  by_cases h1 : a < 0
  · have := (i_lt0 a).mp h1
    rw [if_pos h1, if_neg (by unfold vl; omega)]
  · have h1' : ¬ a.toInt < 0 := fun q => h1 ((i_lt0 a).mpr q)
    rw [if_neg h1]
    by_cases h2 : nI n ≤ a
    · have := (i_nle hn a).mp h2
      rw [if_pos h2, if_neg (by unfold vl; omega)]
    · have h2' : ¬ (n : Int) ≤ a.toInt := fun q => h2 ((i_nle hn a).mpr q)
      rw [if_neg h2, if_pos (by unfold vl; omega)]
abbrev wi (a lo hi : Int) : Prop := lo ≤ a ∧ a ≤ hi
theorem isWithin_at (a lo hi : Int32) : jX7_isWithin a lo hi = some (if wi a.toInt lo.toInt hi.toInt then 1 else 0) := by
  unfold jX7_isWithin
  by_cases h1 : a < lo
  · have := Int32.lt_iff_toInt_lt.mp h1
    rw [if_pos h1, if_neg (by unfold wi; omega)]
  · have h1' : ¬ a.toInt < lo.toInt := fun q => h1 (Int32.lt_iff_toInt_lt.mpr q)
    rw [if_neg h1]
    by_cases h2 : hi < a
    · have := Int32.lt_iff_toInt_lt.mp h2
      rw [if_pos h2, if_neg (by unfold wi; omega)]
    · have h2' : ¬ hi.toInt < a.toInt := fun q => h2 (Int32.lt_iff_toInt_lt.mpr q)
      rw [if_neg h2, if_pos (by unfold wi; omega)]
theorem cmp_neg (x y : Int64) : lg_cmp x y < 0 ↔ x.toInt < y.toInt := by
  unfold lg_cmp
  by_cases h1 : x > y
  · have := Int64.lt_iff_toInt_lt.mp h1
    rw [if_pos h1]
    constructor
    · intro q; exact absurd q (by decide)
    · intro q; omega
  · by_cases h2 : x = y
    · subst h2
      rw [if_neg h1, if_pos rfl]
      constructor
      · intro q; exact absurd q (by decide)
      · intro q; omega
    · rw [if_neg h1, if_neg h2]
      constructor
      · intro _
        have h3 : ¬ y.toInt < x.toInt := fun q => h1 (Int64.lt_iff_toInt_lt.mpr q)
        have h4 : ¬ x.toInt = y.toInt := fun q => h2 (Int64.toInt_inj.mp q)
        omega
      · intro _; decide
theorem cmp_pos (x y : Int64) : 0 < lg_cmp x y ↔ y.toInt < x.toInt := by
  unfold lg_cmp
  by_cases h1 : x > y
  · have := Int64.lt_iff_toInt_lt.mp h1
    rw [if_pos h1]
    constructor
    · intro _; omega
    · intro _; decide
  · have h3 : ¬ y.toInt < x.toInt := fun q => h1 (Int64.lt_iff_toInt_lt.mpr q)
    by_cases h2 : x = y
    · rw [if_neg h1, if_pos h2]
      constructor
      · intro q; exact absurd q (by decide)
      · intro q; omega
    · rw [if_neg h1, if_neg h2]
      constructor
      · intro q; exact absurd q (by decide)
      · intro q; omega
theorem in_at (a lo hi : Int64) : jX8_in a lo hi = some (if wi a.toInt lo.toInt hi.toInt then 1 else 0) := by
  unfold jX8_in
  by_cases h1 : lg_cmp a lo < 0
  · have := (cmp_neg a lo).mp h1
    rw [if_pos h1, if_neg (by unfold wi; omega)]
  · have h1' : ¬ a.toInt < lo.toInt := fun q => h1 ((cmp_neg a lo).mpr q)
    rw [if_neg h1]
    by_cases h2 : 0 < lg_cmp a hi
    · have := (cmp_pos a hi).mp h2
      rw [if_pos h2, if_neg (by unfold wi; omega)]
    · have h2' : ¬ hi.toInt < a.toInt := fun q => h2 ((cmp_pos a hi).mpr q)
      rw [if_neg h2, if_pos (by unfold wi; omega)]
theorem is_gen {n : Nat} (hn : n ≤ 1000) (a : Int32) : (jX8_in a.toInt64 0 ((nI n - 1).toInt64)).bind (fun r2 => if r2 = 0 ∨ r2 = 1 then some r2 else none) = some (if vl a n then 1 else 0) := by
  have e : (nI n - 1).toInt = (n : Int) - 1 := by rw [zl1]; exact pk_sub_toInt (by omega) (by omega)
  rw [in_at, Option.bind_some, Int32.toInt_toInt64, Int32.toInt_toInt64, e, show (0 : Int64).toInt = 0 from rfl]
  by_cases h : vl a n
  · have hw : wi a.toInt 0 ((n : Int) - 1) := by unfold wi; unfold vl at h; omega
    rw [if_pos hw, if_pos (show (1 : Int32) = 0 ∨ (1 : Int32) = 1 from Or.inr rfl), if_pos h]
  · have hw : ¬ wi a.toInt 0 ((n : Int) - 1) := by unfold wi; unfold vl at h; omega
    rw [if_neg hw, if_pos (show (0 : Int32) = 0 ∨ (0 : Int32) = 1 from Or.inl rfl), if_neg h]
def RelE (μ ν : Mu) : Prop := ∃ (nc nh nt : Nat) (rows : Nat → List Int32), Rel nc nh nt rows 0 μ ν
theorem hasTray_at {nc nh nt : Nat} {rows : Nat → List Int32} {b : Int32} {μ ν : Mu} (h : Rel nc nh nt rows b μ ν) (a : Int32) : jX7_hasTray μ a = some (if vl a nt then 1 else 0) ∧ jX8_isTray ν a = some (if vl a nt then 1 else 0) := by
  have h6 := h.nt6
  unfold jX7_hasTray jX8_isTray
  rw [h.2.2.2.2.2.1, h.2.2.2.2.2.2.1]
  exact ⟨has_gen (by omega) a, is_gen (by omega) a⟩
theorem hasCard_at {nc nh nt : Nat} {rows : Nat → List Int32} {b : Int32} {μ ν : Mu} (h : Rel nc nh nt rows b μ ν) (a : Int32) : jX0_has μ a = some (if vl a nc then 1 else 0) ∧ jX8_isCard ν a = some (if vl a nc then 1 else 0) := by
  have h6 := h.1.1
  unfold jX0_has jX8_isCard
  rw [h.1.2.1, h.1.2.2.1]
  exact ⟨has_gen (by omega) a, is_gen (by omega) a⟩
theorem hasHook_gen {nc nh nt : Nat} {rows : Nat → List Int32} {b : Int32} {μ ν : Mu} (h : Rel nc nh nt rows b μ ν) (a : Int32) : jX1_hasHook μ a = some (if vl a nh then 1 else 0) ∧ jX8_isHook ν a = some (if vl a nh then 1 else 0) := by
  have h6 := h.2.1.1
  unfold jX1_hasHook jX8_isHook
  rw [h.2.1.2.1, h.2.1.2.2.1]
  exact ⟨has_gen (by omega) a, is_gen (by omega) a⟩
theorem ite10 {α : Type} {c : Prop} [Decidable c] (A B : α) : (if (if c then (1 : Int32) else 0) = 0 then A else B) = if c then B else A := by
  by_cases h : c
  · rw [if_pos h, if_pos h, if_neg (by decide)]
  · rw [if_neg h, if_neg h, if_pos rfl]
/-- one more card -/
theorem Rel.addCard {nc nh nt : Nat} {rows : Nat → List Int32} {b : Int32} {μ ν μ' ν' : Mu} (h : Rel nc nh nt rows b μ ν) (hn : nc < 120) (w k : Int32) (m : ∀ c, ¬ (c = 2 ∨ c = 3 ∨ c = 4) → μ' c = μ c) (m2 : μ' 2 0 2 = nI (nc + 1)) (m3 : ∀ i, μ' 3 0 i = if i = nc then w else μ 3 0 i) (m4 : ∀ i, μ' 4 0 i = if i = nc then k else μ 4 0 i) (n : ∀ c, ¬ (c = 0 ∨ c = 1 ∨ c = 2) → ν' c = ν c) (n0 : ∀ j, j ≠ 0 → ν' 0 0 j = ν 0 0 j) (n00 : ν' 0 0 0 = nI (nc + 1)) (n1 : ∀ i, ν' 1 0 i = if i = nc then w else ν 1 0 i) (n2 : ∀ i, ν' 2 0 i = if i = nc then k else ν 2 0 i) : Rel (nc + 1) nh nt rows b μ' ν' := by
  obtain ⟨hD, hH, ⟨np, hP⟩, hL, hT⟩ := h
  refine ⟨⟨by omega, m2, n00, fun i hi => ?_⟩, hH.to (m 1 (by decide)) (m 11 (by decide)) (n0 3 (by decide)) (n 4 (by decide)) (n 5 (by decide)) (n 6 (by decide)) (n 7 (by decide)) (n 8 (by decide)), ⟨np, hP.to (m 5 (by decide)) (m 6 (by decide)) (m 7 (by decide)) (m 8 (by decide)) (n0 9 (by decide)) (n 10 (by decide)) (n 11 (by decide)) (n 12 (by decide)) (n 13 (by decide))⟩, hL.to (m 9 (by decide)) (n0 19 (by decide)) (n0 20 (by decide)) (n0 22 (by decide)) (n0 23 (by decide)) (n0 24 (by decide)) (n0 25 (by decide)), ?_⟩
  · rw [m3, m4, n1, n2]
    by_cases e : i = nc
    · simp [e]
    · simp only [e, if_false]
      exact hD.2.2.2 i (by omega)
  · have hT' := hT.to (μ' := μ') (ν' := ν') (m 0 (by decide)) (fun k => by rw [m 11 (by decide)]) (m 13 (by decide)) (fun t _ => by rw [m 14 (by decide)]) (fun t _ => by rw [m 15 (by decide)]) (n0 14 (by decide)) (n 15 (by decide)) (n 16 (by decide)) (n 17 (by decide)) (n 18 (by decide))
    obtain ⟨a1, a2, a3, a4, a5, a6⟩ := hT'
    exact ⟨a1, a2, a3, a4, fun t ht => ⟨(a5 t ht).1, (a5 t ht).2.1, fun c hc => by obtain ⟨q, h1, h2⟩ := (a5 t ht).2.2 c hc; exact ⟨q, by omega, h2⟩⟩, a6⟩
theorem add_at {μ : Mu} {nc : Nat} (hn : nc < 120) (hs : μ 2 0 2 = nI nc) (w k : Int32) : ∃ μ', jX0_add μ w k = some (nI nc, μ') ∧ (∀ c, ¬ (c = 2 ∨ c = 3 ∨ c = 4) → μ' c = μ c) ∧ μ' 2 0 2 = nI (nc + 1) ∧ (∀ i, μ' 3 0 i = if i = nc then w else μ 3 0 i) ∧ ∀ i, μ' 4 0 i = if i = nc then k else μ 4 0 i := by
  have hin : inb (nI nc) 120 = true := by rw [n_in (by omega)]; exact decide_eq_true (by omega)
  unfold jX0_add
  rw [hs, if_pos (by rw [zl120, n_lt (by omega) (by omega)]; exact hn), if_pos hin, n_cl (by omega)]
  simp only [mst, mu_st_app, Nat.reduceEqDiff, false_and, and_false, and_true, true_and, if_true, if_false, hs, hin, n_cl (show nc < 100000 by omega)]
  rw [zl1, n_add, n_sub (by omega), Nat.add_sub_cancel]
  refine ⟨_, rfl, fun c hc => ?_, ?_, fun i => ?_, fun i => ?_⟩
  · rw [mu_st_nc (by omega), mu_st_nc (by omega), mu_st_nc (by omega)]
  · simp [mu_st_app]
  · simp [mu_st_app]
  · simp [mu_st_app]
theorem sim_card {μ ν : Mu} (h : RelE μ ν) (a b : Int32) : ∃ (r : Int32) (μ' ν' : Mu), jX7_card μ a b = some (r, μ') ∧ jX8_card ν a b = some (r, ν') ∧ RelE μ' ν' := by
  obtain ⟨nc, nh, nt, rows, hR⟩ := id h
  have hn := hR.1.1
  unfold jX7_card jX8_card
  rw [isWithin_at, in_at, Int32.toInt_toInt64, Option.bind_some, Option.bind_some, show (99 : Int64).toInt = 99 from rfl, show (0 : Int64).toInt = 0 from rfl, show (99 : Int32).toInt = 99 from rfl, show (0 : Int32).toInt = 0 from rfl, ite10, ite10]
  by_cases v : wi b.toInt 0 99
  · rw [if_pos v, if_pos v, hR.1.2.2.1]
    by_cases q : nc = 120
    · unfold jX0_add
      rw [hR.1.2.1, if_neg (by rw [zl120, n_lt (by omega) (by omega)]; omega), if_pos (by rw [zl120, n_eq (by omega) (by omega)]; exact q)]
      exact ⟨_, _, _, rfl, rfl, h⟩
    · obtain ⟨μ', e1, e2, e3, e4, e5⟩ := add_at (show nc < 120 by omega) hR.1.2.1 a b
      have hin : inb (nI nc) 120 = true := by rw [n_in (by omega)]; exact decide_eq_true (by omega)
      rw [e1, Option.bind_some, if_neg (by rw [zl120, n_eq (by omega) (by omega)]; exact q), if_pos hin, n_cl (by omega)]
      simp only [mst, mu_st_app, Nat.reduceEqDiff, false_and, and_false, and_true, true_and, if_true, if_false, hR.1.2.2.1, hin, n_cl (show nc < 100000 by omega)]
      rw [zl1, n_add, n_sub (by omega), Nat.add_sub_cancel]
      refine ⟨_, _, _, rfl, rfl, nc + 1, nh, nt, rows, hR.addCard (by omega) a b e2 e3 e4 e5 (fun c hc => ?_) (fun j hj => ?_) ?_ (fun i => ?_) (fun i => ?_)⟩
      · rw [mu_st_nc (by omega), mu_st_nc (by omega), mu_st_nc (by omega)]
      · simp [mu_st_app, hj]
      · simp [mu_st_app]
      · simp [mu_st_app]
      · simp [mu_st_app]
  · rw [if_neg v, if_neg v]
    exact ⟨_, _, _, rfl, rfl, h⟩
theorem sim_told {μ ν : Mu} (h : RelE μ ν) (a b : Int32) : ∃ (r : Int64), jX7_told μ a b = some r ∧ jX8_told ν a b = some r := by
  obtain ⟨nc, nh, nt, rows, hR⟩ := id h
  have hn := hR.1.1
  unfold jX7_told jX8_told
  rw [(hasCard_at hR a).1, (hasCard_at hR a).2, in_at, Int32.toInt_toInt64, Option.bind_some, Option.bind_some, Option.bind_some, show (1 : Int64).toInt = 1 from rfl, show (0 : Int64).toInt = 0 from rfl, ite10, ite10, ite10]
  by_cases v : vl a nc
  · rw [if_pos v, if_pos v]
    obtain ⟨j, hj, rfl⟩ := vl_nI v (by omega)
    have hin : inb (nI j) 120 = true := by rw [n_in (by omega)]; exact decide_eq_true (by omega)
    rw [if_pos hin, if_pos hin, weightOf_at hn hR.1.2.1 hj, markOf_at hn hR.1.2.1 hj, Option.bind_some, Option.bind_some, n_cl (by omega), ← (hR.1.2.2.2 j hj).1, ← (hR.1.2.2.2 j hj).2]
    by_cases q0 : b = 0
    · subst q0
      exact ⟨_, rfl, rfl⟩
    · rw [if_neg q0, if_neg q0]
      by_cases q1 : b = 1
      · subst q1
        exact ⟨_, rfl, rfl⟩
      · rw [if_neg q1, if_neg]
        · exact ⟨_, rfl, rfl⟩
        · intro z
          have h0 : ¬ b.toInt = 0 := fun y => q0 (Int32.toInt_inj.mp y)
          have h1 : ¬ b.toInt = 1 := fun y => q1 (Int32.toInt_inj.mp y)
          unfold wi at z
          omega
  · rw [if_neg v, if_neg v]
    exact ⟨_, rfl, rfl⟩
theorem sim_hook {μ ν : Mu} (h : RelE μ ν) (a b : Int32) : ∃ (r : Int32) (μ' ν' : Mu), jX7_hook μ a b = some (r, μ') ∧ jX8_hook ν a b = some (r, ν') ∧ RelE μ' ν' := by
  obtain ⟨nc, nh, nt, rows, hR⟩ := id h
  obtain ⟨hD, hH, ⟨np, hP⟩, hL, hT⟩ := id hR
  have hn := hH.1
  unfold jX7_hook jX8_hook
  rw [isWithin_at, in_at, Int32.toInt_toInt64, Option.bind_some, Option.bind_some, show (4 : Int64).toInt = 4 from rfl, show (0 : Int64).toInt = 0 from rfl, show (4 : Int32).toInt = 4 from rfl, show (0 : Int32).toInt = 0 from rfl, ite10, ite10]
  by_cases v : wi a.toInt 0 4
  · rw [if_pos v, if_pos v]
    unfold jX1_addHook
    rw [hH.2.1, hH.2.2.1]
    by_cases q : nh = 8
    · rw [if_neg (by rw [zl8, n_lt (by omega) (by omega)]; omega), if_pos (by rw [zl8, n_eq (by omega) (by omega)]; exact q)]
      exact ⟨_, _, _, rfl, rfl, h⟩
    · have hin : inb (nI nh) 8 = true := by rw [n_in (by omega)]; exact decide_eq_true (by omega)
      unfold jX2_become
      rw [if_pos (show nI nh < 8 by rw [zl8, n_lt (by omega) (by omega)]; omega), if_neg (show ¬ nI nh = 8 by rw [zl8, n_eq (by omega) (by omega)]; exact q), if_pos hin, if_pos hin, n_cl (by omega)]
      simp only [mst, Option.bind_some, mu_st_app, Nat.reduceEqDiff, false_and, and_false, and_true, true_and, if_true, if_false, hH.2.1, hH.2.2.1, hin, n_cl (show nh < 100000 by omega)]
      rw [zl1, n_add, n_sub (by omega), Nat.add_sub_cancel]
      have hk : ∃ q, q ≤ 4 ∧ a = nI q := by
        obtain ⟨j, hj, e⟩ := vl_nI (n := 5) (a := a) (by unfold vl; unfold wi at v; omega) (by omega)
        exact ⟨j, by omega, e⟩
      refine ⟨_, _, _, rfl, rfl, nc, nh + 1, nt, rows, hD.to ?_ ?_ ?_ ?_ ?_ ?_, ⟨by omega, ?_, ?_, fun i hi => ?_, fun i hi => ?_, fun i h1 h2 => ?_⟩, ⟨np, hP.to ?_ ?_ ?_ ?_ ?_ ?_ ?_ ?_ ?_⟩, hL.to ?_ ?_ ?_ ?_ ?_ ?_ ?_, ?_⟩
      · rw [mu_st_nc (by decide), mu_st_nc (by decide), mu_st_nc (by decide)]
      · rw [mu_st_nc (by decide), mu_st_nc (by decide), mu_st_nc (by decide)]
      · rw [mu_st_nc (by decide), mu_st_nc (by decide), mu_st_nc (by decide)]
      · simp [mu_st_app]
      · rw [mu_st_nc (by decide), mu_st_nc (by decide), mu_st_nc (by decide)]
      · rw [mu_st_nc (by decide), mu_st_nc (by decide), mu_st_nc (by decide)]
      · simp [mu_st_app]
      · simp [mu_st_app]
      · by_cases e : i = nh
        · subst e
          simp [mu_st_app, hk]
        · simp [mu_st_app, e]
          exact hH.2.2.2.1 i (by omega)
      · simp [mu_st_app]
        exact hH.2.2.2.2.1 i hi
      · simp [mu_st_app]
        exact hH.2.2.2.2.2 i (by omega) h2
      · rw [mu_st_nc (by decide), mu_st_nc (by decide), mu_st_nc (by decide)]
      · rw [mu_st_nc (by decide), mu_st_nc (by decide), mu_st_nc (by decide)]
      · rw [mu_st_nc (by decide), mu_st_nc (by decide), mu_st_nc (by decide)]
      · rw [mu_st_nc (by decide), mu_st_nc (by decide), mu_st_nc (by decide)]
      · simp [mu_st_app]
      · rw [mu_st_nc (by decide), mu_st_nc (by decide), mu_st_nc (by decide)]
      · rw [mu_st_nc (by decide), mu_st_nc (by decide), mu_st_nc (by decide)]
      · rw [mu_st_nc (by decide), mu_st_nc (by decide), mu_st_nc (by decide)]
      · rw [mu_st_nc (by decide), mu_st_nc (by decide), mu_st_nc (by decide)]
      · rw [mu_st_nc (by decide), mu_st_nc (by decide), mu_st_nc (by decide)]
      · simp [mu_st_app]
      · simp [mu_st_app]
      · simp [mu_st_app]
      · simp [mu_st_app]
      · simp [mu_st_app]
      · simp [mu_st_app]
      · obtain ⟨a1, a2, a3, a4, a5, a6⟩ := hT
        refine ⟨a1, ?_, ?_, fun t ht => ?_, fun t ht => ?_, a6⟩
        · simp [mu_st_app]; exact a2
        · simp [mu_st_app]; exact a3
        · obtain ⟨b1, b2, b3⟩ := a4 t ht
          refine ⟨by simp [mu_st_app]; exact b1, by simp [mu_st_app]; exact b2, ?_⟩
          rcases b3 with b3 | ⟨b3, hk, c1, c2, c3⟩
          · exact Or.inl (by simp [mu_st_app]; exact b3)
          · refine Or.inr ⟨by simp [mu_st_app]; exact b3, hk, by omega, by simp [mu_st_app]; exact c2, ?_⟩
            unfold isCmp
            simp only [mu_st_app, Nat.reduceEqDiff, false_and, if_false, true_and, show ¬ hk = nh by omega]
            exact c3
        · obtain ⟨b1, b2, b3⟩ := a5 t ht
          refine ⟨?_, ?_, b3⟩
          · unfold RowIs
            rw [mu_st_nc (by decide), mu_st_nc (by decide), mu_st_nc (by decide), mu_st_nc (by decide), mu_st_nc (by decide), mu_st_nc (by decide)]
            exact b1
          · unfold HeldIs
            rw [mu_st_nc (by decide), mu_st_nc (by decide), mu_st_nc (by decide), mu_st_nc (by decide), mu_st_nc (by decide), mu_st_nc (by decide)]
            exact b2
  · rw [if_neg v, if_neg v]
    exact ⟨_, _, _, rfl, rfl, h⟩
