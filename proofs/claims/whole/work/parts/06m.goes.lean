/-! A card goes. -/
theorem list_goes {l : List Int32} {p : Nat} {x y : Int32} (hp : p < l.length - 1) : (((l.set p x).set (l.length - 1) y).eraseIdx (l.length - 1)) = (l.take (l.length - 1)).set p x := by
  apply List.ext_getElem?
  intro j
  rw [List.getElem?_eraseIdx]
  by_cases h1 : j < l.length - 1
  · rw [if_pos h1, List.getElem?_set, List.getElem?_set, List.getElem?_set, if_neg (show ¬ l.length - 1 = j by omega)]
    by_cases h2 : p = j
    · rw [if_pos h2, if_pos h2, if_pos (show p < l.length by omega), if_pos (show p < (l.take (l.length - 1)).length by simp; omega)]
    · rw [if_neg h2, if_neg h2, List.getElem?_take_of_lt h1]
  · rw [if_neg h1, List.getElem?_eq_none (by simp; omega), List.getElem?_eq_none (by simp; omega)]
theorem list_goes_last {l : List Int32} {x : Int32} (h0 : 0 < l.length) (hx : l[l.length - 1]? = some x) : (((l.set (l.length - 1) x).set (l.length - 1) x).eraseIdx (l.length - 1)) = l.take (l.length - 1) := by
  apply List.ext_getElem?
  intro j
  rw [List.getElem?_eraseIdx]
  by_cases h1 : j < l.length - 1
  · rw [if_pos h1, List.getElem?_set, List.getElem?_set, if_neg (by omega), if_neg (by omega), List.getElem?_take_of_lt h1]
  · rw [if_neg h1, List.getElem?_set, List.getElem?_set, if_neg (by omega), if_neg (by omega), List.getElem?_eq_none (by omega), List.getElem?_eq_none (by simp; omega)]
theorem RowR.cut {ν : Mu} {l : List Int32} (h : RowR ν l) (h0 : 0 < l.length) : RowR (mu_st ν 0 0 26 (nI (l.length - 1))) (l.take (l.length - 1)) := by
  have h41 := h.1
  have hlen : (l.take (l.length - 1)).length = l.length - 1 := by simp
  refine ⟨by omega, by rw [mu_st_app, hlen]; simp, fun j hj => ?_⟩
  rw [hlen] at hj
  rw [mu_st_ne (by simp), List.getElem?_take_of_lt hj]
  exact h.2.2 j (by omega)
set_option maxHeartbeats 1000000 in
theorem goes_sim {nc nh nt : Nat} {rows : Nat → List Int32} {μ ν : Mu} (hR : Rel nc nh nt rows 0 μ ν) (hth : ν 0 0 21 = 0) {t p : Nat} (ht : t < nt) (hr : RowR ν (rows t)) (hp : p < (rows t).length) : ∃ (res : Int32) (μ' ν' : Mu), jX7_removeOnDraft μ t (nI p) = some (res, μ') ∧ jX8_goes ν (nI t) (nI p) = some ν' ∧ Fr 6 μ μ' ν ν' ∧ ((res = 0 ∧ ν' 0 0 21 = 1 ∧ Rel nc nh nt rows 1 μ' ν') ∨ (res = 1 ∧ ν' 0 0 21 = 0 ∧ Rel nc nh nt rows 0 μ' ν' ∧ ∃ l', RowIs μ' 6 l' ∧ RowR ν' l' ∧ ∀ x ∈ l', isCd nc x)) := by
  have h6t := hR.nt6
  obtain ⟨k1, k2, k3⟩ := hR.2.2.2.2.2.2.2.1 t ht
  obtain ⟨t1, t2, t3⟩ := hR.2.2.2.2.2.2.2.2.1 t (by omega)
  generalize rows t = l at hr hp t1 t2 t3
  have hl40 := t1.1
  have it : inb (nI t) 6 = true := by rw [n_in (by omega)]; exact decide_eq_true (by omega)
  have ct : (nI t).toNatClampNeg = t := n_cl (by omega)
  unfold jX7_removeOnDraft jX8_goes
  obtain ⟨μ1, g1, g2, g3⟩ := copy_row (show 6 ≠ t by omega) t1
  rw [g1, Option.bind_some, if_pos it, ct]
  have fr1 : Fr 6 μ μ1 ν ν := Fr.scr g2 OnlyRR.rf
  have hR1 := hR.scr (by decide) g2 OnlyRR.rf
  rw [fr1.2.1, ← k1]
  by_cases q2 : μ 13 t 1 = 2
  · rw [if_pos q2, if_pos q2]
    obtain ⟨h, hh, hk, hc⟩ : ∃ h, h < nh ∧ μ 13 t 2 = nI h ∧ isCmp μ h := by
      rcases k3 with ⟨z, -⟩ | ⟨-, z⟩
      · rw [z] at q2; cases q2
      · exact z
    rw [g3.2.1, hr.2.1, zl1, n_sub (by omega)]
    obtain ⟨μ2, a1, a2, a3⟩ := swap_row g3 hp (show l.length - 1 < l.length by omega)
    rw [a1, Option.bind_some]
    obtain ⟨μ3, b1, b2, b3⟩ := remove_row a3 (l.length - 1) (by simp; omega)
    rw [b1, Option.bind_some]
    simp only [mst]
    obtain ⟨ν1, f1⟩ : ∃ x, x = mu_st ν 0 0 26 (nI (l.length - 1)) := ⟨_, rfl⟩
    have o1 : OnlyRR ν ν1 := by rw [f1]; exact OnlyRR.s26
    have r1 : RowR ν1 (l.take (l.length - 1)) := by rw [f1]; exact hr.cut (by omega)
    have hlen : (l.take (l.length - 1)).length = l.length - 1 := by simp
    rw [← f1, r1.2.1, hlen]
    have hlast := g3.2.2 (l.length - 1) (by omega)
    have fr3 : Fr 6 μ μ3 ν ν1 := Fr.scr (g2.tr (a2.tr b2)) o1
    have hR3 := hR.scr (k := 6) (by decide) (g2.tr (a2.tr b2)) o1
    have ht1 : ν1 0 0 21 = 0 := by rw [o1 0 0 21 (by omega)]; exact hth
    by_cases q3 : p = l.length - 1
    · subst q3
      rw [if_pos rfl, if_pos (by rw [n_le (by omega) (by omega)]; omega)]
      rw [list_goes_last (by omega) hlast] at b3
      exact ⟨_, _, _, rfl, rfl, fr3, Or.inr ⟨rfl, ht1, hR3, _, b3, r1, fun x hx => t3 x (List.mem_of_mem_take hx)⟩⟩
    · rw [if_neg (show ¬ nI p = nI (l.length - 1) by rw [n_eq (by omega) (by omega)]; exact q3), if_neg (by rw [n_le (by omega) (by omega)]; omega), if_pos (by rw [n_in (by omega)]; exact decide_eq_true (by omega)), if_pos (by rw [n_in (by omega)]; exact decide_eq_true (by omega)), n_cl (by omega), n_cl (by omega)]
      obtain ⟨ν2, f2⟩ : ∃ x, x = mu_st ν1 27 0 p (ν1 27 0 (l.length - 1)) := ⟨_, rfl⟩
      rw [← f2]
      have o2 : OnlyRR ν1 ν2 := by rw [f2]; exact OnlyRR.s27
      have e27 : ν1 27 0 (l.length - 1) = μ1 15 6 (l.length - 1) := by
        rw [f1, mu_st_ne (by simp)]
        exact Option.some.inj ((hr.2.2 _ (by omega)).symm.trans hlast)
      rw [list_goes (by omega)] at b3
      have r2 : RowR ν2 ((l.take (l.length - 1)).set p (μ1 15 6 (l.length - 1))) := by
        rw [f2, e27]
        refine ⟨by simp; omega, ?_, fun j hj => ?_⟩
        · rw [mu_st_ne (by simp), List.length_set]; exact r1.2.1
        · rw [List.length_set] at hj
          rw [mu_st_app, List.getElem?_set]
          by_cases q : p = j
          · subst q
            rw [if_pos rfl, if_pos hj, if_pos (by simp)]
          · rw [if_neg q, if_neg (by simp; omega)]
            exact r1.2.2 j hj
      have fr4 : Fr 6 μ μ3 ν ν2 := Fr.scr (g2.tr (a2.tr b2)) (o1.tr o2)
      have hR4 := hR.scr (k := 6) (by decide) (g2.tr (a2.tr b2)) (o1.tr o2)
      have ht2 : ν2 0 0 21 = 0 := by rw [o2 0 0 21 (by omega)]; exact ht1
      have hl4 : ∀ x ∈ (l.take (l.length - 1)).set p (μ1 15 6 (l.length - 1)), isCd nc x := fun x hx => by
        rcases List.mem_or_eq_of_mem_set hx with hx | rfl
        · exact t3 x (List.mem_of_mem_take hx)
        · exact t3 _ (List.mem_of_getElem? hlast)
      have hlen4 : ((l.take (l.length - 1)).set p (μ1 15 6 (l.length - 1))).length = l.length - 1 := by simp
      generalize (l.take (l.length - 1)).set p (μ1 15 6 (l.length - 1)) = l4 at b3 r2 hl4 hlen4
      have hkμ : μ3 13 t 2 = nI h := by rw [fr4.2.1]; exact hk
      have hkν : ν2 16 0 t = nI h := by rw [fr4.2.2.2.2.2.1, ← k2]; exact hk
      rw [if_pos it, hkμ, hkν]
      unfold jX5_rise jX8_up
      have hu : (if nI p ≤ 0 then jX8_up_L13 (nI h) (nI p) fuel ν2 (nI p) 0 else jX8_up_L13 (nI h) (nI p) fuel ν2 (nI p) 1) = jX8_up_L13 (nI h) (nI p) fuel ν2 (nI p) (if p = 0 then 0 else 1) := by
        by_cases z : p = 0
        · rw [if_pos z, if_pos (by rw [zl0, n_le (by omega) (by omega)]; omega)]
        · rw [if_neg z, if_neg (by rw [zl0, n_le (by omega) (by omega)]; omega)]
      rw [hu]
      obtain ⟨a, μ', r, ν', e1, e2, fr, hs⟩ := up_sim (x1 := nI p) (f0 := p) (k := 6) (by decide) hh (by omega) fuel fuel p μ3 ν2 l4 hR4 ht2 (fr4.cmp hc) b3 r2 hl4 (by omega) (Nat.le_refl _) (by have := fuel_ge; omega) (by have := fuel_ge; omega)
      rw [e1, e2, Option.bind_some, Option.bind_some]
      dsimp only
      rcases hs with ⟨s1, s2, s3⟩ | ⟨q, l', s1, s2, s3, s4, s5, s6, s7, s8, s9⟩
      · rw [if_neg (show ¬ a = nI p by rw [s1]; exact fun z => a_ne (show p < 100000 by omega) z.symm), if_pos s1, if_neg (show ¬ ν' 0 0 21 = 0 by rw [s2]; decide)]
        have hz : (if r = 0 then some ν' else some ν') = some ν' := by by_cases z : r = 0 <;> simp [z]
        rw [hz]
        exact ⟨_, _, _, rfl, rfl, fr4.tr fr, Or.inl ⟨rfl, s2, s3⟩⟩
      · by_cases q4 : q = p
        · subst q4
          rw [if_pos rfl] at s3
          rw [if_pos s2, if_pos s3, if_pos s4, if_pos it]
          have frS := fr4.tr fr
          have hkμ' : μ' 13 t 2 = nI h := by rw [frS.2.1]; exact hk
          have hkν' : ν' 16 0 t = nI h := by rw [frS.2.2.2.2.2.1, ← k2]; exact hk
          rw [hkμ', hkν']
          unfold jX5_sink jX8_down
          rw [dbl_nI, s7.2.1]
          have hu : (if nI l'.length ≤ nI (2 * q + 1) then jX8_down_L21 (nI h) (nI q) fuel ν' (nI q) 0 else jX8_down_L21 (nI h) (nI q) fuel ν' (nI q) 1) = jX8_down_L21 (nI h) (nI q) fuel ν' (nI q) (if 2 * q + 1 < l'.length then 1 else 0) := by
            by_cases z : 2 * q + 1 < l'.length
            · rw [if_pos z, if_neg (by rw [n_le (by omega) (by omega)]; omega)]
            · rw [if_neg z, if_pos (by rw [n_le (by omega) (by omega)]; omega)]
          rw [hu]
          obtain ⟨a', μ5, ν5, c1, c2, c3, c4⟩ := down_sim (x1 := nI q) (x2 := nI q) (k := 6) (by decide) hh fuel fuel q μ' ν' l' s5 s4 (frS.cmp hc) s6 s7 s9 (by omega) (by have := fuel_ge; omega) (by have := fuel_ge; omega)
          rw [c1, c2, Option.bind_some, Option.bind_some]
          dsimp only
          rcases c4 with ⟨d1, d2, d3⟩ | ⟨d1, d2, d3, l5, d4, d5, d6, d7⟩
          · rw [if_pos d1]
            exact ⟨_, _, _, rfl, rfl, frS.tr c3, Or.inl ⟨rfl, d2, d3⟩⟩
          · rw [if_neg d1]
            exact ⟨_, _, _, rfl, rfl, frS.tr c3, Or.inr ⟨rfl, d2, d3, l5, d4, d5, d7⟩⟩
        · rw [if_neg q4] at s3
          rw [if_neg (show ¬ a = nI p by rw [s2, n_eq (by omega) (by omega)]; exact q4), if_neg (by rw [s2]; exact a_ne (by omega)), if_neg (show ¬ r = 0 by rw [s3]; decide)]
          exact ⟨_, _, _, rfl, rfl, fr4.tr fr, Or.inr ⟨rfl, s4, s5, l', s6, s7, s9⟩⟩
  · rw [if_neg q2, if_neg q2]
    obtain ⟨μ2, a1, a2, a3⟩ := remove_row g3 p hp
    obtain ⟨ν2, c1, c2, c3⟩ := removeR_row hr hl40 p hp
    rw [a1, c1, Option.bind_some, Option.bind_some]
    exact ⟨_, _, _, rfl, rfl, Fr.scr (g2.tr a2) c2, Or.inr ⟨rfl, by rw [c2 0 0 21 (by omega)]; exact hth, hR.scr (by decide) (g2.tr a2) c2, _, a3, c3, fun x hx => t3 x (List.mem_of_mem_eraseIdx hx)⟩⟩
