/-! DOWN on both sides. -/
theorem dbl_nI (i : Nat) : 2 * nI i + 1 = nI (2 * i + 1) := by
  rw [zl2, pk_mul, zl1, n_add]
set_option maxHeartbeats 2000000 in
theorem down_sim {nc nh nt : Nat} {rows : Nat → List Int32} {h k : Nat} {x1 x2 : Int32} (hk : 6 ≤ k) (hh : h < nh) : ∀ (n n' i : Nat) (μ ν : Mu) (l : List Int32), Rel nc nh nt rows 0 μ ν → ν 0 0 21 = 0 → isCmp μ h → RowIs μ k l → RowR ν l → (∀ x ∈ l, isCd nc x) → i < l.length → l.length - i < n → l.length - i + 1 < n' → ∃ (a : Int32) (μ' ν' : Mu), jX5_sink_L11 k x1 (nI h) n μ (nI i) (nI (2 * i + 1)) = some (a, μ') ∧ jX8_down_L21 (nI h) x2 n' ν (nI i) (if 2 * i + 1 < l.length then 1 else 0) = some ν' ∧ Fr k μ μ' ν ν' ∧ ((a = -11 ∧ ν' 0 0 21 = 1 ∧ Rel nc nh nt rows 1 μ' ν') ∨ (¬ a = -11 ∧ ν' 0 0 21 = 0 ∧ Rel nc nh nt rows 0 μ' ν' ∧ ∃ l', RowIs μ' k l' ∧ RowR ν' l' ∧ l'.length = l.length ∧ ∀ x ∈ l', isCd nc x)) := by
  intro n
  induction n with
  | zero => intro n' i μ ν l _ _ _ _ _ _ _ q; exact absurd q (Nat.not_lt_zero _)
  | succ n ih =>
    intro n' i μ ν l hR ht hc hr hr2 hl hi hn hn'
    have hl40 := hr.1
    obtain ⟨n', rfl⟩ : ∃ z, n' = z + 1 := ⟨n' - 1, by omega⟩
    obtain ⟨n2, rfl⟩ : ∃ z, n' = z + 1 := ⟨n' - 1, by omega⟩
    have hend : ∀ (z : Nat) (w : Mu) (q : Int32), jX8_down_L21 (nI h) x2 (z + 1) w q 0 = some w := by
      intro z w q
      rw [jX8_down_L21, if_pos rfl]
    by_cases h0 : 2 * i + 1 < l.length
    · -- there is a child
      have step : ∀ (kk : Nat) (μ ν : Mu), Rel nc nh nt rows 0 μ ν → ν 0 0 21 = 0 → isCmp μ h → RowIs μ k l → RowR ν l → i < kk → kk < l.length → ∃ (a : Int32) (μ' ν' : Mu), (jX5_cardAt μ k (nI kk)).bind (fun r5 => (jX5_cardAt μ k (nI i)).bind (fun r7 => (jX1_askComparing μ (nI h) r5 r7).bind (fun q9 => if q9.1 = (-11) then some ((-11), q9.2) else if q9.1 < 0 then (jX5_swap q9.2 k (nI kk) (nI i)).bind (fun μ13 => jX5_sink_L11 k x1 (nI h) n μ13 (nI kk) (nI (2 * kk + 1))) else some (nI i, q9.2)))) = some (a, μ') ∧ (jX8_isAhead ν (nI h) (ν 27 0 kk) (ν 27 0 i)).bind (fun q9 => if q9.1 = 0 then jX8_down_L21 (nI h) x2 (n2 + 1) q9.2 (nI i) 0 else (jX8_turn q9.2 (nI i) (nI kk)).bind (fun μ12 => if (μ12 0 0 26) ≤ nI (2 * kk + 1) then jX8_down_L21 (nI h) x2 (n2 + 1) μ12 (nI kk) 0 else jX8_down_L21 (nI h) x2 (n2 + 1) μ12 (nI kk) 1)) = some ν' ∧ Fr k μ μ' ν ν' ∧ ((a = -11 ∧ ν' 0 0 21 = 1 ∧ Rel nc nh nt rows 1 μ' ν') ∨ (¬ a = -11 ∧ ν' 0 0 21 = 0 ∧ Rel nc nh nt rows 0 μ' ν' ∧ ∃ l', RowIs μ' k l' ∧ RowR ν' l' ∧ l'.length = l.length ∧ ∀ x ∈ l', isCd nc x)) := by
        intro kk μ ν hR ht hc hr hr2 hik hkk
        rw [cardAt_at hr kk hkk, Option.bind_some, cardAt_at hr i hi, Option.bind_some]
        have e1 := hr.2.2 i hi
        have e2 := hr.2.2 kk hkk
        have f1 : μ 15 k i = ν 27 0 i := Option.some.inj (e1.symm.trans (hr2.2.2 _ hi))
        have f2 : μ 15 k kk = ν 27 0 kk := Option.some.inj (e2.symm.trans (hr2.2.2 _ hkk))
        rw [← f1, ← f2]
        obtain ⟨a, μ', ah, ν', a1, a2, fr, hs⟩ := ask_sim hR ht hh hc (hl _ (List.mem_of_getElem? e2)) (hl _ (List.mem_of_getElem? e1))
        rw [a1, a2, Option.bind_some, Option.bind_some]
        dsimp only
        rcases hs with ⟨s1, s2, s3, s4⟩ | ⟨s1, s2, s3, ⟨s4, s5⟩ | ⟨s4, s5, s6⟩⟩
        · rw [if_pos s1, if_pos s2, hend]
          exact ⟨_, _, _, rfl, rfl, fr.fr, Or.inl ⟨rfl, s3, s4⟩⟩
        · rw [if_neg s1, if_pos s4, if_neg (show ¬ ah = 0 by rw [s5]; decide)]
          have hr' := fr.row hr
          have hr2' := fr.rowR hr2
          obtain ⟨μ2, b1, b2, b3⟩ := swap_row hr' hkk hi
          obtain ⟨ν2, c1, c2, c3⟩ := turn_row hr2' hi hkk
          rw [b1, c1, Option.bind_some, Option.bind_some]
          have g1 : μ' 15 k i = ν' 27 0 i := Option.some.inj ((hr'.2.2 _ hi).symm.trans (hr2'.2.2 _ hi))
          have g2 : μ' 15 k kk = ν' 27 0 kk := Option.some.inj ((hr'.2.2 _ hkk).symm.trans (hr2'.2.2 _ hkk))
          rw [← g1, ← g2, List.set_comm _ _ (by omega)] at c3
          have hsz := c3.2.1
          simp only [List.length_set] at hsz
          have hz : (if ν2 0 0 26 ≤ nI (2 * kk + 1) then jX8_down_L21 (nI h) x2 (n2 + 1) ν2 (nI kk) 0 else jX8_down_L21 (nI h) x2 (n2 + 1) ν2 (nI kk) 1) = jX8_down_L21 (nI h) x2 (n2 + 1) ν2 (nI kk) (if 2 * kk + 1 < ((l.set kk (μ' 15 k i)).set i (μ' 15 k kk)).length then 1 else 0) := by
            simp only [List.length_set]
            rw [hsz]
            by_cases z : 2 * kk + 1 < l.length
            · rw [if_pos z, if_neg (by rw [n_le (by omega) (by omega)]; omega)]
            · rw [if_neg z, if_pos (by rw [n_le (by omega) (by omega)]; omega)]
          rw [hz]
          have hl2 : ∀ x ∈ (l.set kk (μ' 15 k i)).set i (μ' 15 k kk), isCd nc x := mem_set2 hl (hl _ (List.mem_of_getElem? (hr'.2.2 _ hi))) (hl _ (List.mem_of_getElem? (hr'.2.2 _ hkk)))
          have fr2 : Fr k μ' μ2 ν' ν2 := Fr.scr b2 c2
          obtain ⟨a', μ3, ν3, d1, d2, d3, d4⟩ := ih (n2 + 1) kk μ2 ν2 _ (s3.scr hk b2 c2) (by rw [c2 0 0 21 (by omega)]; exact s2) (fr2.cmp (fr.cmp hc)) b3 c3 hl2 (by simp; omega) (by simp; omega) (by simp; omega)
          refine ⟨a', μ3, ν3, d1, d2, (fr.fr.tr fr2).tr d3, ?_⟩
          rcases d4 with d4 | ⟨d5, d6, d7, l', d8, d9, d10, d11⟩
          · exact Or.inl d4
          · exact Or.inr ⟨d5, d6, d7, l', d8, d9, by rw [d10]; simp, d11⟩
        · rw [if_neg s1, if_neg s4, if_pos s6, hend]
          exact ⟨_, _, _, rfl, rfl, fr.fr, Or.inr ⟨a_ne (by omega), s2, s3, l, fr.row hr, fr.rowR hr2, rfl, hl⟩⟩
      rw [if_pos h0, jX5_sink_L11, hr.2.1, if_neg (show ¬ nI l.length ≤ nI (2 * i + 1) by rw [n_le (by omega) (by omega)]; omega), jX8_down_L21, if_neg (show ¬ (1 : Int32) = 0 by decide), hr2.2.1]
      simp only [dbl_nI]
      rw [show nI (2 * i + 1) + 1 = nI (2 * i + 2) from by rw [zl1, n_add]]
      simp only [dbl_nI]
      have i1 : inb (nI (2 * i + 1)) 41 = true := by rw [n_in (by omega)]; exact decide_eq_true (by omega)
      have i2 : inb (nI i) 41 = true := by rw [n_in (by omega)]; exact decide_eq_true (by omega)
      have c1 : (nI (2 * i + 1)).toNatClampNeg = 2 * i + 1 := n_cl (by omega)
      have c2 : (nI i).toNatClampNeg = i := n_cl (by omega)
      have c3 : (nI (2 * i + 2)).toNatClampNeg = 2 * i + 2 := n_cl (by omega)
      rw [i1, i2, c1, c2, c3]
      simp only [if_true]
      by_cases h2 : 2 * i + 2 < l.length
      · have i3 : inb (nI (2 * i + 2)) 41 = true := by rw [n_in (by omega)]; exact decide_eq_true (by omega)
        have hle : ¬ nI l.length ≤ nI (2 * i + 2) := by rw [n_le (by omega) (by omega)]; omega
        rw [if_neg hle, if_neg hle, cardAt_at hr (2 * i + 2) h2, Option.bind_some, cardAt_at hr (2 * i + 1) h0, Option.bind_some, if_pos i3]
        have e1 := hr.2.2 _ h0
        have e2 := hr.2.2 _ h2
        have f1 : μ 15 k (2 * i + 1) = ν 27 0 (2 * i + 1) := Option.some.inj (e1.symm.trans (hr2.2.2 _ h0))
        have f2 : μ 15 k (2 * i + 2) = ν 27 0 (2 * i + 2) := Option.some.inj (e2.symm.trans (hr2.2.2 _ h2))
        rw [← f1, ← f2]
        obtain ⟨a, μ', ah, ν', a1, a2, fr, hs⟩ := ask_sim hR ht hh hc (hl _ (List.mem_of_getElem? e2)) (hl _ (List.mem_of_getElem? e1))
        rw [a1, a2, Option.bind_some, Option.bind_some]
        dsimp only
        rcases hs with ⟨s1, s2, s3, s4⟩ | ⟨s1, s2, s3, ⟨s4, s5⟩ | ⟨s4, s5, s6⟩⟩
        · rw [if_pos s1, if_pos s2, if_neg (show ¬ ν' 0 0 21 = 0 by rw [s3]; decide), hend]
          exact ⟨_, _, _, rfl, rfl, fr.fr, Or.inl ⟨rfl, s3, s4⟩⟩
        · rw [if_neg s1, if_neg (show ¬ ah = 0 by rw [s5]; decide), if_pos s2, if_neg (show ¬ 0 ≤ a from fun z => by rw [Int32.lt_iff_toInt_lt] at s4; rw [Int32.le_iff_toInt_le] at z; omega), if_pos i3]
          obtain ⟨a', μ3, ν3, d1, d2, d3, d4⟩ := step (2 * i + 2) μ' ν' s3 s2 (fr.cmp hc) (fr.row hr) (fr.rowR hr2) (by omega) h2
          exact ⟨a', μ3, ν3, d1, d2, fr.fr.tr d3, d4⟩
        · rw [if_neg s1, if_pos s5, if_pos s6, if_pos s2]
          obtain ⟨a', μ3, ν3, d1, d2, d3, d4⟩ := step (2 * i + 1) μ' ν' s3 s2 (fr.cmp hc) (fr.row hr) (fr.rowR hr2) (by omega) h0
          exact ⟨a', μ3, ν3, d1, d2, fr.fr.tr d3, d4⟩
      · have hle : nI l.length ≤ nI (2 * i + 2) := by rw [n_le (by omega) (by omega)]; omega
        rw [if_pos hle, if_pos hle, if_pos ht]
        exact step (2 * i + 1) μ ν hR ht hc hr hr2 (by omega) h0
    · rw [jX5_sink_L11, if_neg h0, hend, hr.2.1, if_pos (by rw [n_le (by omega) (by omega)]; omega)]
      exact ⟨_, _, _, rfl, rfl, Fr.rf, Or.inr ⟨a_ne (by omega), ht, hR, l, hr, hr2, rfl, hl⟩⟩
