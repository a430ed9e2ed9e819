/-! How an act begins and ends; a card comes, a card goes. -/
theorem beginC_L {nh : Nat} (hn : nh ≤ 8) : ∀ (n i : Nat) (μ : Mu), μ 1 0 4 = nI nh → i ≤ nh → nh - i < n → ∃ μ', jX1_beginAct_L9 n μ (nI i) = some μ' ∧ (∀ c, c ≠ 11 → μ' c = μ c) ∧ ∀ k j, μ' 11 k j = if j = 3 ∧ i ≤ k ∧ k < nh then 0 else μ 11 k j := by
  intro n
  induction n with
  | zero => intro i μ _ _ q; exact absurd q (Nat.not_lt_zero _)
  | succ n ih =>
    intro i μ hs hi hf
    rw [jX1_beginAct_L9, hs]
    by_cases hq : i = nh
    · rw [if_pos (by rw [n_le (by omega) (by omega)]; omega)]
      exact ⟨μ, rfl, fun _ _ => rfl, fun k j => by rw [if_neg (by omega)]⟩
    · rw [if_neg (by rw [n_le (by omega) (by omega)]; omega), if_pos (by rw [n_in (by omega)]; exact decide_eq_true (by omega)), n_cl (by omega), zl1, n_add]
      simp only [mst]
      obtain ⟨μ2, e2, a2, b2⟩ := ih (i + 1) (mu_st μ 11 i 3 0) (by rw [mu_st_ne (by simp)]; exact hs) (by omega) (by omega)
      refine ⟨μ2, e2, fun c hc => by rw [a2 c hc, mu_st_nc hc], fun k j => ?_⟩
      rw [b2, mu_st_app]
      by_cases q1 : j = 3 ∧ i + 1 ≤ k ∧ k < nh
      · rw [if_pos q1, if_pos (by omega)]
      · rw [if_neg q1]
        by_cases q2 : k = i ∧ j = 3
        · rw [if_pos (by omega), if_pos (by omega)]
        · rw [if_neg (by omega), if_neg (by omega)]
theorem beginR_L : ∀ (n i : Nat) (ν : Mu), i ≤ 8 → 8 - i < n → ∃ ν', jX8_beginAct_L38 n ν (nI i) = some ν' ∧ (∀ c, c ≠ 7 → ν' c = ν c) ∧ ∀ j, ν' 7 0 j = if i ≤ j ∧ j < 8 then 0 else ν 7 0 j := by
  intro n
  induction n with
  | zero => intro i ν _ q; exact absurd q (Nat.not_lt_zero _)
  | succ n ih =>
    intro i ν hi hf
    rw [jX8_beginAct_L38]
    by_cases hq : i = 8
    · subst hq
      rw [if_pos (by decide)]
      exact ⟨ν, rfl, fun _ _ => rfl, fun j => by rw [if_neg (by omega)]⟩
    · rw [if_neg (by rw [zl8, n_le (by omega) (by omega)]; omega), if_pos (by rw [n_in (by omega)]; exact decide_eq_true (by omega)), n_cl (by omega), zl1, n_add]
      simp only [mst]
      obtain ⟨ν2, e2, a2, b2⟩ := ih (i + 1) (mu_st ν 7 0 i 0) (by omega) (by omega)
      refine ⟨ν2, e2, fun c hc => by rw [a2 c hc, mu_st_nc hc], fun j => ?_⟩
      rw [b2, mu_st_app]
      by_cases q1 : i + 1 ≤ j ∧ j < 8
      · rw [if_pos q1, if_pos (by omega)]
      · rw [if_neg q1]
        by_cases q2 : j = i
        · rw [if_pos (by omega), if_pos (by omega)]
        · rw [if_neg (by omega), if_neg (by omega)]
theorem begin_sim {nc nh nt : Nat} {rows : Nat → List Int32} {μ ν : Mu} (hR : Rel nc nh nt rows 0 μ ν) : ∃ (μ' ν' : Mu), jX1_beginAct μ = some μ' ∧ jX8_beginAct ν = some ν' ∧ Rel nc nh nt rows 0 μ' ν' ∧ ν' 0 0 21 = 0 ∧ (∀ c, ¬ (c = 9 ∨ c = 11) → μ' c = μ c) ∧ (∀ h, μ' 11 h 0 = μ 11 h 0) ∧ (∀ c, ¬ (c = 0 ∨ c = 7) → ν' c = ν c) := by
  obtain ⟨hD, hH, ⟨np, hP⟩, hL, hT⟩ := hR
  unfold jX1_beginAct jX3_begin jX8_beginAct
  simp only [mst, Option.bind_some]
  generalize hμ : mu_st (mu_st (mu_st (mu_st (mu_st μ 9 0 0 0) 9 0 1 (-4)) 9 0 2 0) 9 0 3 0) 9 0 4 (mu_st (mu_st (mu_st (mu_st μ 9 0 0 0) 9 0 1 (-4)) 9 0 2 0) 9 0 3 0 9 0 4 + 1) = μ2
  generalize hν : mu_st (mu_st (mu_st (mu_st (mu_st (mu_st ν 0 0 19 (ν 0 0 19 + 1)) 0 0 21 0) 0 0 22 0) 0 0 23 (-4)) 0 0 24 0) 0 0 25 0 = ν2
  obtain ⟨μ', e1, a1, b1⟩ := beginC_L (nh := nh) hH.1 fuel 0 μ2 (by rw [← hμ]; simp [mu_st_app]; exact hH.2.1) (Nat.zero_le _) (by have := hH.1; have := fuel_ge; omega)
  obtain ⟨ν', e2, a2, b2⟩ := beginR_L fuel 0 ν2 (Nat.zero_le _) (by have := fuel_ge; omega)
  rw [← zl0] at e1 e2
  rw [e1, e2]
  have m : ∀ c, ¬ (c = 9 ∨ c = 11) → μ' c = μ c := fun c hc => by
    rw [a1 c (by omega), ← hμ, mu_st_nc (by omega), mu_st_nc (by omega), mu_st_nc (by omega), mu_st_nc (by omega), mu_st_nc (by omega)]
  have m11 : ∀ k j, μ' 11 k j = if j = 3 ∧ k < nh then 0 else μ 11 k j := fun k j => by
    rw [b1, ← hμ]
    simp only [mu_st_app, Nat.reduceEqDiff, false_and, if_false, Nat.zero_le, true_and]
  have n : ∀ c, ¬ (c = 0 ∨ c = 7) → ν' c = ν c := fun c hc => by
    rw [a2 c (by omega), ← hν, mu_st_nc (by omega), mu_st_nc (by omega), mu_st_nc (by omega), mu_st_nc (by omega), mu_st_nc (by omega), mu_st_nc (by omega)]
  have n0 : ∀ j, ¬ (j = 19 ∨ j = 21 ∨ j = 22 ∨ j = 23 ∨ j = 24 ∨ j = 25) → ν' 0 0 j = ν 0 0 j := fun j hj => by
    rw [a2 0 (by decide), ← hν]
    simp only [mu_st_app]
    rw [if_neg (by omega), if_neg (by omega), if_neg (by omega), if_neg (by omega), if_neg (by omega), if_neg (by omega)]
  refine ⟨μ', ν', rfl, rfl, ⟨hD.to (m 2 (by decide)) (m 3 (by decide)) (m 4 (by decide)) (n0 0 (by decide)) (n 1 (by decide)) (n 2 (by decide)), ?_, ⟨np, hP.to (m 5 (by decide)) (m 6 (by decide)) (m 7 (by decide)) (m 8 (by decide)) (n0 9 (by decide)) (n 10 (by decide)) (n 11 (by decide)) (n 12 (by decide)) (n 13 (by decide))⟩, ?_, hT.to (m 0 (by decide)) (fun k => by rw [m11]; simp) (m 13 (by decide)) (fun t _ => by rw [m 14 (by decide)]) (fun t _ => by rw [m 15 (by decide)]) (n0 14 (by decide)) (n 15 (by decide)) (n 16 (by decide)) (n 17 (by decide)) (n 18 (by decide))⟩, ?_, m, fun h => by rw [m11]; simp, n⟩
  · obtain ⟨c1, c2, c3, c4, c5, c6⟩ := hH
    refine ⟨c1, by rw [m 1 (by decide)]; exact c2, by rw [n0 3 (by decide)]; exact c3, fun i hi => ?_, fun i hi => ?_, fun i h1 h2 => ?_⟩
    · rw [n 4 (by decide), n 5 (by decide), m11, m11]
      simpa using c4 i hi
    · obtain ⟨d1, d2, d3⟩ := c5 i hi
      rw [n 6 (by decide), n 8 (by decide), b2, m11, m11, m11]
      refine ⟨by simpa using d1, ?_, by simpa using d3⟩
      rw [if_pos (show 0 ≤ i ∧ i < 8 by omega)]
      by_cases q : i < nh
      · rw [if_pos ⟨rfl, q⟩]
      · rw [if_neg (by omega)]
        exact c6 i (by omega) hi
    · rw [m11]
      rw [if_neg (by omega)]
      exact c6 i h1 h2
  · obtain ⟨l0, l1, l2, l3, l4, l5⟩ := hL
    unfold RLate
    rw [a1 9 (by decide), a2 0 (by decide), ← hμ, ← hν]
    simp [mu_st_app, l4, l5]
  · rw [a2 0 (by decide), ← hν]
    simp [mu_st_app]
def setR (rows : Nat → List Int32) (t : Nat) (l : List Int32) : Nat → List Int32 := fun i => if i = t then l else rows i
theorem Rel.giveRow {nc nh nt : Nat} {rows : Nat → List Int32} {b : Int32} {μ ν μ' ν' : Mu} (h : Rel nc nh nt rows b μ ν) {t : Nat} (ht : t < nt) {l : List Int32} (o : OnlyRow t μ μ') (r : RowIs μ' t l) (o2 : OnlyHeld t ν ν') (r2 : HeldIs ν' t l) (hl : ∀ x ∈ l, isCd nc x) : Rel nc nh nt (setR rows t l) b μ' ν' := by
  obtain ⟨hD, hH, ⟨np, hP⟩, hL, hT⟩ := h
  have m : ∀ c, c ≠ 14 → c ≠ 15 → μ' c = μ c := fun c h1 h2 => by funext k'; exact o c k' (by omega)
  have n0 : ∀ j, ν' 0 0 j = ν 0 0 j := fun j => o2 0 0 j (by omega)
  have n : ∀ c, ¬ (c = 17 ∨ c = 18) → ν' c = ν c := fun c hc => by funext k j; exact o2 c k j (by omega)
  refine ⟨hD.to (m 2 (by decide) (by decide)) (m 3 (by decide) (by decide)) (m 4 (by decide) (by decide)) (n0 0) (n 1 (by decide)) (n 2 (by decide)), hH.to (m 1 (by decide) (by decide)) (m 11 (by decide) (by decide)) (n0 3) (n 4 (by decide)) (n 5 (by decide)) (n 6 (by decide)) (n 7 (by decide)) (n 8 (by decide)), ⟨np, hP.to (m 5 (by decide) (by decide)) (m 6 (by decide) (by decide)) (m 7 (by decide) (by decide)) (m 8 (by decide) (by decide)) (n0 9) (n 10 (by decide)) (n 11 (by decide)) (n 12 (by decide)) (n 13 (by decide))⟩, hL.to (m 9 (by decide) (by decide)) (n0 19) (n0 20) (n0 22) (n0 23) (n0 24) (n0 25), ?_⟩
  obtain ⟨a1, a2, a3, a4, a5, a6⟩ := hT
  refine ⟨a1, by rw [m 0 (by decide) (by decide)]; exact a2, by rw [n0 14]; exact a3, fun u hu => ?_, fun u hu => ?_, fun u hu => ?_⟩
  · unfold isCmp
    rw [m 13 (by decide) (by decide), n 15 (by decide), n 16 (by decide), m 11 (by decide) (by decide)]
    exact a4 u hu
  · unfold setR
    by_cases e : u = t
    · subst e
      rw [if_pos rfl]
      exact ⟨r, r2, hl⟩
    · rw [if_neg e]
      obtain ⟨b1, b2, b3⟩ := a5 u hu
      exact ⟨o.row e b1, o2.held e b2, b3⟩
  · unfold setR
    rw [if_neg (by omega)]
    exact a6 u hu
theorem Rel.nt6 {nc nh nt : Nat} {rows : Nat → List Int32} {b : Int32} {μ ν : Mu} (h : Rel nc nh nt rows b μ ν) : nt ≤ 6 := h.2.2.2.2.1
theorem end_ok {nc nh nt : Nat} {rows : Nat → List Int32} {b : Int32} {μ ν : Mu} (hR : Rel nc nh nt rows b μ ν) (hth : ν 0 0 21 = 0) {t : Nat} (ht : t < nt) {l : List Int32} (h6 : RowIs μ 6 l) (hr : RowR ν l) (hl : ∀ x ∈ l, isCd nc x) : ∃ (μ' ν' : Mu), jX7_keepDraft μ t 1 = some (0, μ') ∧ jX8_ends ν (nI t) = some (0, ν') ∧ Rel nc nh nt (setR rows t l) b μ' ν' := by
  have h6t := hR.nt6
  obtain ⟨μ', e1, o1, r1⟩ := copy_row (show t ≠ 6 by omega) h6
  obtain ⟨ν', e2, o2, r2⟩ := give_row (show t < 6 by omega) h6.1 hr
  refine ⟨μ', ν', ?_, ?_, hR.giveRow ht o1 r1 o2 r2 hl⟩
  · unfold jX7_keepDraft
    rw [if_neg (by decide), e1, Option.bind_some]
  · unfold jX8_ends
    rw [if_pos hth, e2, Option.bind_some]
theorem end_thr {nc nh nt : Nat} {rows : Nat → List Int32} {μ ν : Mu} (hR : Rel nc nh nt rows 1 μ ν) (hth : ν 0 0 21 = 1) (t : Nat) : ∃ (ν' : Mu), jX7_keepDraft μ t 0 = some (1, μ) ∧ jX8_ends ν (nI t) = some (1, ν') ∧ Rel nc nh nt rows 0 μ ν' ∧ ∀ c, c ≠ 0 → ν' c = ν c := by
  obtain ⟨hD, hH, ⟨np, hP⟩, hL, hT⟩ := hR
  refine ⟨mu_st ν 0 0 20 (ν 0 0 20 + 1), ?_, ?_, ⟨hD.to rfl rfl rfl (by simp [mu_st_app]) (mu_st_nc (by decide)) (mu_st_nc (by decide)), hH.to rfl rfl (by simp [mu_st_app]) (mu_st_nc (by decide)) (mu_st_nc (by decide)) (mu_st_nc (by decide)) (mu_st_nc (by decide)) (mu_st_nc (by decide)), ⟨np, hP.to rfl rfl rfl rfl (by simp [mu_st_app]) (mu_st_nc (by decide)) (mu_st_nc (by decide)) (mu_st_nc (by decide)) (mu_st_nc (by decide))⟩, ?_, hT.to rfl (fun _ => rfl) rfl (fun _ _ => rfl) (fun _ _ => rfl) (by simp [mu_st_app]) (mu_st_nc (by decide)) (mu_st_nc (by decide)) (mu_st_nc (by decide)) (mu_st_nc (by decide))⟩, fun c hc => mu_st_nc hc⟩
  · unfold jX7_keepDraft
    rw [if_pos rfl]
  · unfold jX8_ends
    rw [if_neg (by rw [hth]; decide)]
    rfl
  · obtain ⟨l0, l1, l2, l3, l4, l5⟩ := hL
    unfold RLate
    simp [mu_st_app, l0, l1, l2, l3, l4, l5]
/-- a card comes onto the working row -/
theorem place_sim {nc nh nt : Nat} {rows : Nat → List Int32} {μ ν : Mu} (hR : Rel nc nh nt rows 0 μ ν) (hth : ν 0 0 21 = 0) {t : Nat} (ht : t < nt) {l : List Int32} {c : Int32} (h6 : RowIs μ 6 l) (hr : RowR ν l) (hl : ∀ x ∈ l, isCd nc x) (hlen : l.length < 40) (hcd : isCd nc c) : ∃ (res : Int32) (μ' ν' : Mu), jX7_placeOnDraft μ t c = some (res, μ') ∧ jX8_comes ν (μ 13 t 1) (μ 13 t 2) c = some ν' ∧ Fr 6 μ μ' ν ν' ∧ ((res = 0 ∧ ν' 0 0 21 = 1 ∧ Rel nc nh nt rows 1 μ' ν') ∨ (res = 1 ∧ ν' 0 0 21 = 0 ∧ Rel nc nh nt rows 0 μ' ν' ∧ ∃ l', RowIs μ' 6 l' ∧ RowR ν' l' ∧ l'.length = l.length + 1 ∧ ∀ x ∈ l', isCd nc x)) := by
  obtain ⟨k1, k2, k3⟩ := hR.2.2.2.2.2.2.2.1 t ht
  unfold jX7_placeOnDraft jX8_comes
  by_cases q1 : μ 13 t 1 = 1
  · rw [if_pos q1, if_pos q1]
    obtain ⟨h, hh, hk, hc⟩ : ∃ h, h < nh ∧ μ 13 t 2 = nI h ∧ isCmp μ h := by
      rcases k3 with ⟨z, -⟩ | ⟨-, z⟩
      · rw [z] at q1; cases q1
      · exact z
    rw [hk]
    unfold jX5_placeFor jX8_halving
    rw [h6.2.1, hr.2.1, zl0]
    obtain ⟨a, μ', p, ν', e1, e2, fr, hp, hs⟩ := halving_sim hh hcd h6.1 hl fuel fuel 0 l.length μ ν hR hth hc h6 hr (Nat.zero_le _) (Nat.le_refl _) (by have := fuel_ge; omega) (by have := fuel_ge; omega)
    rw [e1, e2, Option.bind_some, Option.bind_some]
    dsimp only
    obtain ⟨ν2, f1, f2, f3⟩ := insertR_row (fr.rowR hr) (by omega) p hp c
    rw [f1, Option.bind_some]
    rcases hs with ⟨s1, s2, s3⟩ | ⟨s1, s2, s3⟩
    · rw [if_pos s1]
      exact ⟨_, _, _, rfl, rfl, fr.fr.tr (Fr.scr OnlyRow.rf f2), Or.inl ⟨rfl, by rw [f2 0 0 21 (by omega)]; exact s2, s3.scr (k := 6) (by decide) OnlyRow.rf f2⟩⟩
    · rw [if_neg (by rw [s1]; exact a_ne (by omega)), s1]
      obtain ⟨μ2, g1, g2, g3⟩ := insert_row (fr.row h6) hlen p hp c
      rw [g1, Option.bind_some]
      refine ⟨_, _, _, rfl, rfl, fr.fr.tr (Fr.scr g2 f2), Or.inr ⟨rfl, by rw [f2 0 0 21 (by omega)]; exact s2, s3.scr (by decide) g2 f2, insAt l p c, g3, f3, insAt_length l p c hp, fun x hx => ?_⟩⟩
      unfold insAt at hx
      rcases List.mem_append.mp hx with hx | hx
      · exact hl x (List.mem_of_mem_take hx)
      · rcases List.mem_cons.mp hx with rfl | hx
        · exact hcd
        · exact hl x (List.mem_of_mem_drop hx)
  · rw [if_neg q1, if_neg q1, hr.2.1, if_pos (by rw [n_in (by omega)]; exact decide_eq_true (by omega)), n_cl (by omega)]
    obtain ⟨μ1, g1, g2, g3⟩ := append_row h6 hlen c
    rw [g1, Option.bind_some]
    simp only [mst]
    obtain ⟨ν1, f1⟩ : ∃ x, x = mu_st (mu_st ν 27 0 l.length c) 0 0 26 (mu_st ν 27 0 l.length c 0 0 26 + 1) := ⟨_, rfl⟩
    rw [← f1]
    have o1 : OnlyRR ν ν1 := by rw [f1]; exact OnlyRR.s27.tr OnlyRR.s26
    have r1 : RowR ν1 (l ++ [c]) := by
      rw [f1]
      refine ⟨by simp; omega, ?_, fun j hj => ?_⟩
      · simp [mu_st_app, hr.2.1, zl1, n_add]
      · simp only [List.length_append, List.length_cons, List.length_nil] at hj
        rw [mu_st_ne (by simp), mu_st_app]
        by_cases q : j = l.length
        · subst q; simp
        · rw [if_neg (by simp [q]), List.getElem?_append_left (by omega)]
          exact hr.2.2 j (by omega)
    have hl1 : ∀ x ∈ l ++ [c], isCd nc x := fun x hx => by
      rcases List.mem_append.mp hx with hx | hx
      · exact hl x hx
      · rw [List.mem_singleton.mp hx]; exact hcd
    have fr1 : Fr 6 μ μ1 ν ν1 := Fr.scr g2 o1
    have hR1 := hR.scr (by decide) g2 o1
    have ht1 : ν1 0 0 21 = 0 := by rw [o1 0 0 21 (by omega)]; exact hth
    rw [fr1.2.1]
    by_cases q2 : μ 13 t 1 = 2
    · rw [if_pos q2, if_pos q2]
      obtain ⟨h, hh, hk, hc⟩ : ∃ h, h < nh ∧ μ 13 t 2 = nI h ∧ isCmp μ h := by
        rcases k3 with ⟨z, -⟩ | ⟨-, z⟩
        · rw [z] at q2; cases q2
        · exact z
      have hz1 : μ1 14 6 1 - 1 = nI l.length := by rw [g3.2.1, zl1, n_sub (by simp)]; simp
      have hz2 : ν1 0 0 26 - 1 = nI l.length := by rw [r1.2.1, zl1, n_sub (by simp)]; simp
      rw [hk, hz1, hz2]
      unfold jX5_rise jX8_up
      have hu : (if nI l.length ≤ 0 then jX8_up_L13 (nI h) (nI l.length) fuel ν1 (nI l.length) 0 else jX8_up_L13 (nI h) (nI l.length) fuel ν1 (nI l.length) 1) = jX8_up_L13 (nI h) (nI l.length) fuel ν1 (nI l.length) (if l.length = 0 then 0 else 1) := by
        by_cases z : l.length = 0
        · rw [if_pos z, if_pos (by rw [zl0, n_le (by omega) (by omega)]; omega)]
        · rw [if_neg z, if_neg (by rw [zl0, n_le (by omega) (by omega)]; omega)]
      rw [hu]
      obtain ⟨a, μ', r, ν', e1, e2, fr, hs⟩ := up_sim (x1 := nI l.length) (f0 := l.length) (k := 6) (by decide) hh (by omega) fuel fuel l.length μ1 ν1 (l ++ [c]) hR1 ht1 (fr1.cmp hc) g3 r1 hl1 (by simp) (Nat.le_refl _) (by have := fuel_ge; omega) (by have := fuel_ge; omega)
      rw [e1, e2, Option.bind_some, Option.bind_some]
      dsimp only
      rcases hs with ⟨s1, s2, s3⟩ | ⟨q, l', s1, s2, s3, s4, s5, s6, s7, s8, s9⟩
      · rw [if_pos s1]
        exact ⟨_, _, _, rfl, rfl, fr1.tr fr, Or.inl ⟨rfl, s2, s3⟩⟩
      · rw [if_neg (by rw [s2]; exact a_ne (by omega))]
        exact ⟨_, _, _, rfl, rfl, fr1.tr fr, Or.inr ⟨rfl, s4, s5, l', s6, s7, by rw [s8]; simp, s9⟩⟩
    · rw [if_neg q2, if_neg q2]
      exact ⟨_, _, _, rfl, rfl, fr1, Or.inr ⟨rfl, ht1, hR1, l ++ [c], g3, r1, by simp, hl1⟩⟩
