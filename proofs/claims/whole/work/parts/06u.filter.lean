/-! filter. -/
theorem Rel.done {nc nh nt : Nat} {rows : Nat → List Int32} {b : Int32} {μ ν : Mu} (h : Rel nc nh nt rows b μ ν) : Rel nc nh nt rows b (mu_st μ 9 0 3 (μ 9 0 3 + 1)) (mu_st ν 0 0 25 (ν 0 0 25 + 1)) := by
  obtain ⟨hD, hH, ⟨np, hP⟩, hL, hT⟩ := h
  refine ⟨hD.to (mu_st_nc (by decide)) (mu_st_nc (by decide)) (mu_st_nc (by decide)) (by simp [mu_st_app]) (mu_st_nc (by decide)) (mu_st_nc (by decide)), hH.to (mu_st_nc (by decide)) (mu_st_nc (by decide)) (by simp [mu_st_app]) (mu_st_nc (by decide)) (mu_st_nc (by decide)) (mu_st_nc (by decide)) (mu_st_nc (by decide)) (mu_st_nc (by decide)), ⟨np, hP.to (mu_st_nc (by decide)) (mu_st_nc (by decide)) (mu_st_nc (by decide)) (mu_st_nc (by decide)) (by simp [mu_st_app]) (mu_st_nc (by decide)) (mu_st_nc (by decide)) (mu_st_nc (by decide)) (mu_st_nc (by decide))⟩, ?_, hT.to (mu_st_nc (by decide)) (fun k => by rw [mu_st_nc (by decide)]) (mu_st_nc (by decide)) (fun t _ => by rw [mu_st_nc (by decide)]) (fun t _ => by rw [mu_st_nc (by decide)]) (by simp [mu_st_app]) (mu_st_nc (by decide)) (mu_st_nc (by decide)) (mu_st_nc (by decide)) (mu_st_nc (by decide))⟩
  obtain ⟨l0, l1, l2, l3, l4, l5⟩ := hL
  unfold RLate
  simp [mu_st_app, l0, l1, l2, l3, l4, l5]
theorem Rel.acts {nc nh nt : Nat} {rows : Nat → List Int32} {b d : Int32} {μ ν : Mu} (h : Rel nc nh nt rows b μ ν) (e : b = d) : Rel nc nh nt rows 0 μ (mu_st ν 0 0 20 (ν 0 0 20 + d)) := by
  subst e
  obtain ⟨hD, hH, ⟨np, hP⟩, hL, hT⟩ := h
  refine ⟨hD.to rfl rfl rfl (by simp [mu_st_app]) (mu_st_nc (by decide)) (mu_st_nc (by decide)), hH.to rfl rfl (by simp [mu_st_app]) (mu_st_nc (by decide)) (mu_st_nc (by decide)) (mu_st_nc (by decide)) (mu_st_nc (by decide)) (mu_st_nc (by decide)), ⟨np, hP.to rfl rfl rfl rfl (by simp [mu_st_app]) (mu_st_nc (by decide)) (mu_st_nc (by decide)) (mu_st_nc (by decide)) (mu_st_nc (by decide))⟩, ?_, hT.to rfl (fun _ => rfl) rfl (fun _ _ => rfl) (fun _ _ => rfl) (by simp [mu_st_app]) (mu_st_nc (by decide)) (mu_st_nc (by decide)) (mu_st_nc (by decide)) (mu_st_nc (by decide))⟩
  obtain ⟨l0, l1, l2, l3, l4, l5⟩ := hL
  unfold RLate
  simp [mu_st_app, l0, l1, l2, l3, l4, l5]
noncomputable def exF (x1 x2 x3 : Int32) (μ : Mu) (x4 : Int32) : Option (Int32 × Mu) := if inb x1 6 = true then if (μ 15 0 x1.toNatClampNeg) = 2 then mst (mu_st μ 0 0 26 0) (fun μ35 => jX8_filter_L148 x1 x2 x3 x4 fuel μ35 0) else jX8_filter_L198 x1 x2 x3 fuel μ x4 (μ 0 0 25) else none
set_option maxHeartbeats 2000000 in
theorem judge_sim {nc nh nt : Nat} {rows : Nat → List Int32} {h t : Nat} (hh : h < nh) (ht : t < nt) : ∀ (n n' i : Nat) (g : List Int32) (μ ν : Mu), Rel nc nh nt rows 0 μ ν → ν 0 0 21 = 0 → RowIs μ 6 g → RowR ν (rows t) → OtherIs ν 0 g → g.length ≤ i → i ≤ (rows t).length → ν 0 0 25 = nI i → (∀ x ∈ g, isCd nc x) → (rows t).length - i < n → (rows t).length - i + 1 < n' → ∃ (res : Int32) (μ' ν' : Mu) (g' : List Int32) (i' : Nat), jX7_judgeOntoDraft_L9 t (nI h) n μ (nI i) = some (res, μ') ∧ jX8_filter_L51 (nI t) (nI h) (nI (rows t).length) n' ν (nI g.length) (nI i) = exF (nI t) (nI h) (nI (rows t).length) ν' (nI g'.length) ∧ RowIs μ' 6 (g' ++ (rows t).drop i') ∧ RowR ν' (rows t) ∧ OtherIs ν' 0 g' ∧ g'.length ≤ i' ∧ i' ≤ (rows t).length ∧ ν' 0 0 25 = nI i' ∧ (∀ x ∈ g', isCd nc x) ∧ ((res = 0 ∧ ν' 0 0 21 = 1 ∧ Rel nc nh nt rows 1 μ' ν') ∨ (res = 1 ∧ i' = (rows t).length ∧ ν' 0 0 21 = 0 ∧ Rel nc nh nt rows 0 μ' ν')) := by
  intro n
  induction n with
  | zero => intro n' i g μ ν _ _ _ _ _ _ _ _ _ q; exact absurd q (Nat.not_lt_zero _)
  | succ n ih =>
    intro n' i g μ ν hR hth h6 hr ho hg hi hdn hgl hn hn'
    have h6t := hR.nt6
    obtain ⟨r1, s1, hl⟩ := hR.row (show t < 6 by omega)
    have hl40 := r1.1
    obtain ⟨n', rfl⟩ : ∃ z, n' = z + 1 := ⟨n' - 1, by omega⟩
    rw [jX7_judgeOntoDraft_L9, jX8_filter_L51, r1.2.1]
    by_cases q : i = (rows t).length
    · have e : nI (rows t).length ≤ nI i := by rw [n_le (by omega) (by omega)]; omega
      rw [if_pos e, if_pos e]
      refine ⟨1, μ, ν, g, i, rfl, rfl, ?_, hr, ho, hg, hi, hdn, hgl, Or.inr ⟨rfl, q, hth, hR⟩⟩
      rw [List.drop_eq_nil_of_le (by omega), List.append_nil]
      exact h6
    · have e : ¬ nI (rows t).length ≤ nI i := by rw [n_le (by omega) (by omega)]; omega
      have hil : i < (rows t).length := by omega
      have i1 : inb (nI i) 41 = true := by rw [n_in (by omega)]; exact decide_eq_true (by omega)
      have i2 : inb (nI g.length) 41 = true := by rw [n_in (by omega)]; exact decide_eq_true (by omega)
      rw [if_neg e, if_neg e, cardAt_at r1 i hil, Option.bind_some, if_pos hth, if_pos i1]
      simp only [i1, i2, if_true, n_cl (show i < 100000 by omega), n_cl (show g.length < 100000 by omega)]
      have ec := r1.2.2 i hil
      have e2 : μ 15 t i = ν 27 0 i := Option.some.inj (ec.symm.trans (hr.2.2 i hil))
      rw [← e2]
      obtain ⟨a, μ1, kp, ν1, a1, a2, fr, hs⟩ := keep_sim hR hth hh (hl _ (List.mem_of_getElem? ec))
      rw [a1, a2, Option.bind_some, Option.bind_some]
      dsimp only
      have e3 : nI i + 1 = nI (i + 1) := by rw [zl1, n_add]
      rcases hs with ⟨s1, s2, s3⟩ | ⟨s1, s2, s3, s4⟩
      · -- it threw
        rw [if_pos s1, if_neg (show ¬ ν1 0 0 21 = 0 by rw [s2]; decide)]
        have r1' := fr.row r1
        have h6' := fr.row h6
        rw [r1'.2.1]
        obtain ⟨μ2, b1, b2, b3⟩ := appendPart_row (show 6 ≠ t by omega) h6' r1' i (rows t).length (by omega) (Nat.le_refl _) (by omega)
        rw [b1, Option.bind_some]
        obtain ⟨n2, rfl⟩ : ∃ z, n' = z + 1 := ⟨n' - 1, by omega⟩
        refine ⟨0, μ2, ν1, g, i, rfl, ?_, ?_, fr.rowR hr, fun j hj => by rw [fr.2.2.1 28 (by omega)]; exact ho j hj, hg, by omega, by rw [fr.2.2.2.1.2.1]; exact hdn, hgl, Or.inl ⟨rfl, s2, s3.scr (k := 6) (by decide) b2 OnlyRR.rf⟩⟩
        · rw [jX8_filter_L51, if_neg (show ¬ ν1 0 0 21 = 0 by rw [s2]; decide)]
          by_cases y : nI (rows t).length ≤ nI i + 1
          · rw [if_pos y]; rfl
          · rw [if_neg y]; rfl
        · rw [List.take_of_length_le (by simp)] at b3
          exact b3
      · rw [if_neg s1, if_pos s2]
        simp only [mst]
        have hR2 := s3.done
        obtain ⟨μ2, e4⟩ : ∃ x, x = mu_st μ1 9 0 3 (μ1 9 0 3 + 1) := ⟨_, rfl⟩
        obtain ⟨ν2, e5⟩ : ∃ x, x = mu_st ν1 0 0 25 (ν1 0 0 25 + 1) := ⟨_, rfl⟩
        rw [← e4, ← e5] at hR2
        rw [← e4, ← e5]
        have r2 : RowIs μ2 t (rows t) := (hR2.row (show t < 6 by omega)).1
        have h62 : RowIs μ2 6 g := by
          unfold RowIs
          rw [e4, mu_st_nc (by decide), mu_st_nc (by decide)]
          exact fr.row h6
        have hr2 : RowR ν2 (rows t) := by
          have := fr.rowR hr
          refine ⟨this.1, ?_, fun j hj => ?_⟩
          · rw [e5, mu_st_app]; simp; exact this.2.1
          · rw [e5, mu_st_nc (by decide)]; exact this.2.2 j hj
        have ho2 : OtherIs ν2 0 g := fun j hj => by
          rw [e5, mu_st_nc (by decide), fr.2.2.1 28 (by omega)]
          exact ho j hj
        have hd2 : ν2 0 0 25 = nI (i + 1) := by
          rw [e5, mu_st_app, fr.2.2.2.1.2.1, hdn]
          simp [zl1, n_add]
        have ht2 : ν2 0 0 21 = 0 := by rw [e5, mu_st_app]; simp; exact s2
        have ec2 : ν2 27 0 i = μ2 15 t i := Option.some.inj ((hr2.2.2 i hil).symm.trans (r2.2.2 i hil))
        rw [ec2]
        have o3 : OnlyR2 ν2 (mu_st ν2 28 0 g.length (μ2 15 t i)) := OnlyR2.s28
        have hR3 := hR2.scr2 (k := 6) (by decide) OnlyRow.rf o3
        have hp3 := ho2.push (μ2 15 t i)
        rw [Nat.zero_add] at hp3
        rcases s4 with ⟨s5, s6⟩ | ⟨s5, s6⟩
        · rw [if_pos s5, if_neg (show ¬ kp = 0 by rw [s6]; decide), cardAt_at r2 i hil, Option.bind_some]
          obtain ⟨μ3, b1, b2, b3⟩ := append_row h62 (by omega) (μ2 15 t i)
          rw [b1, Option.bind_some, e3, show nI g.length + 1 = nI (g.length + 1) from by rw [zl1, n_add]]
          have hx := ih n' (i + 1) (g ++ [μ2 15 t i]) μ3 _ (hR3.scr2 (k := 6) (by decide) b2 OnlyR2.rf) (by rw [mu_st_ne (by simp)]; exact ht2) b3 hr2.s28 hp3 (by simp; omega) (by omega) (by rw [mu_st_ne (by simp)]; exact hd2) (fun x hx => by
            rcases List.mem_append.mp hx with hx | hx
            · exact hgl x hx
            · rw [List.mem_singleton.mp hx]; exact hl _ (List.mem_of_getElem? (r2.2.2 i hil))) (by omega) (by omega)
          simp only [List.length_append, List.length_cons, List.length_nil, Nat.zero_add] at hx
          exact hx
        · rw [if_neg (show ¬ a = 1 by rw [s5]; decide), if_pos s6, e3, Int32.add_zero]
          exact ih n' (i + 1) g μ2 _ hR3 (by rw [mu_st_ne (by simp)]; exact ht2) h62 hr2.s28 (fun j hj => by
            rw [mu_st_app, if_neg (by simp; omega)]
            exact ho2 j hj) (by omega) (by omega) (by rw [mu_st_ne (by simp)]; exact hd2) hgl (by omega) (by omega)
theorem f198_at {t h : Nat} {l : List Int32} (hl40 : l.length ≤ 40) : ∀ (n i : Nat) (g : List Int32) (ν : Mu), RowR ν l → OtherIs ν 0 g → g.length ≤ i → i ≤ l.length → l.length - i < n → ∃ ν', jX8_filter_L198 (nI t) (nI h) (nI l.length) n ν (nI g.length) (nI i) = jX8_filter_L236 (nI t) (nI h) (nI l.length) (nI (g ++ l.drop i).length) fuel (mu_st ν' 0 0 26 (nI (g ++ l.drop i).length)) (nI 0) ∧ OnlyR2 ν ν' ∧ OtherIs ν' 0 (g ++ l.drop i) := by
  intro n
  induction n with
  | zero => intro i g ν _ _ _ _ q; exact absurd q (Nat.not_lt_zero _)
  | succ n ih =>
    intro i g ν hr ho hg hi hn
    rw [jX8_filter_L198]
    by_cases q : i = l.length
    · rw [if_pos (by rw [n_le (by omega) (by omega)]; omega), List.drop_eq_nil_of_le (by omega), List.append_nil]
      exact ⟨ν, rfl, OnlyR2.rf, ho⟩
    · rw [if_neg (by rw [n_le (by omega) (by omega)]; omega), if_pos (by rw [n_in (by omega)]; exact decide_eq_true (by omega)), if_pos (by rw [n_in (by omega)]; exact decide_eq_true (by omega)), n_cl (by omega), n_cl (by omega), zl1, n_add, n_add]
      simp only [mst]
      have hp := ho.push (ν 27 0 i)
      rw [Nat.zero_add] at hp
      obtain ⟨ν2, e2, o2, q2⟩ := ih (i + 1) (g ++ [ν 27 0 i]) (mu_st ν 28 0 g.length (ν 27 0 i)) hr.s28 hp (by simp; omega) (by omega) (by omega)
      have hgg : (g ++ [ν 27 0 i]) ++ l.drop (i + 1) = g ++ l.drop i := by
        rw [drop_cons (hr.2.2 i (by omega)), List.append_assoc]; rfl
      rw [hgg] at e2 q2
      have hlen1 : (g ++ [ν 27 0 i]).length = g.length + 1 := by simp
      rw [hlen1] at e2
      exact ⟨ν2, e2, OnlyR2.s28.tr o2, q2⟩
theorem f236_at {t h : Nat} {x3 : Int32} {r : List Int32} (ht : t < 6) (hl40 : r.length ≤ 40) : ∀ (n i : Nat) (ν : Mu), ν 0 0 26 = nI r.length → OtherIs ν 0 r → (∀ j, j < i → r[j]? = some (ν 27 0 j)) → i ≤ r.length → r.length - i < n → ∃ ν' ν2, jX8_filter_L236 (nI t) (nI h) x3 (nI r.length) n ν (nI i) = (if (ν2 0 0 21) = 0 then mst (mu_st ν2 0 0 20 ((ν2 0 0 20) + 0)) (fun μ25 => if (μ25 0 0 21) = 0 then some (0, μ25) else some (2, μ25)) else mst (mu_st ν2 0 0 20 ((ν2 0 0 20) + 1)) (fun μ27 => if (μ27 0 0 21) = 0 then some (0, μ27) else some (2, μ27))) ∧ OnlyR2 ν ν' ∧ OnlyHeld t ν' ν2 ∧ HeldIs ν2 t r := by
  intro n
  induction n with
  | zero => intro i ν _ _ _ _ q; exact absurd q (Nat.not_lt_zero _)
  | succ n ih =>
    intro i ν hs ho hr hi hn
    rw [jX8_filter_L236]
    by_cases q : i = r.length
    · rw [if_pos (by rw [n_le (by omega) (by omega)]; omega)]
      have hrr : RowR ν r := ⟨by omega, hs, fun j hj => hr j (by omega)⟩
      obtain ⟨ν2, e1, e2, e3⟩ := give_row ht hl40 hrr
      rw [e1, Option.bind_some]
      exact ⟨ν, ν2, rfl, OnlyR2.rf, e2, e3⟩
    · rw [if_neg (by rw [n_le (by omega) (by omega)]; omega), if_pos (by rw [n_in (by omega)]; exact decide_eq_true (by omega)), if_pos (by rw [n_in (by omega)]; exact decide_eq_true (by omega)), n_cl (by omega), zl1, n_add]
      simp only [mst]
      obtain ⟨ν2, ν3, e2, o2, q2, q3⟩ := ih (i + 1) (mu_st ν 27 0 i (ν 28 0 i)) (by rw [mu_st_ne (by simp)]; exact hs) (fun j hj => by rw [mu_st_ne (by simp)]; exact ho j hj) (fun j hj => by
        rw [mu_st_app]
        by_cases z : j = i
        · subst z
          rw [if_pos (by simp)]
          have := ho j (by omega)
          rw [Nat.zero_add] at this
          exact this
        · rw [if_neg (by simp [z])]
          exact hr j (by omega)) (by omega) (by omega)
      simp only [mst] at e2
      rw [← zl1]
      exact ⟨ν2, ν3, e2, OnlyR2.s27.tr o2, q2, q3⟩
