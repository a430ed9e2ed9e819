/-! filter, the whole of it. -/
theorem Rel.tk {nc nh nt : Nat} {rows : Nat → List Int32} {b : Int32} {μ ν : Mu} (h : Rel nc nh nt rows b μ ν) {t : Nat} (ht : t < nt) : μ 13 t 1 = ν 15 0 t ∧ μ 13 t 2 = ν 16 0 t := ⟨(h.2.2.2.2.2.2.2.1 t ht).1, (h.2.2.2.2.2.2.2.1 t ht).2.1⟩
theorem placeAllF {nc nh nt : Nat} {rows : Nat → List Int32} {t : Nat} {g : List Int32} {x2 x3 : Int32} (ht : t < nt) (hg40 : g.length ≤ 40) (hg : ∀ x ∈ g, isCd nc x) : ∀ (n n' i : Nat) (d : List Int32) (μ ν : Mu), Rel nc nh nt rows 0 μ ν → ν 0 0 21 = 0 → μ 13 t 1 = 2 → RowIs μ 6 d → RowIs μ 7 g → RowR ν d → OtherIs ν 0 g → d.length = i → i ≤ g.length → (∀ x ∈ d, isCd nc x) → g.length - i < n → g.length - i + 1 < n' → ∃ (res : Int32) (μ' ν' : Mu), jX7_placeAllOnDraft_L2 t 7 n μ (nI i) = some (res, μ') ∧ jX8_filter_L148 (nI t) x2 x3 (nI g.length) n' ν (nI i) = (jX8_ends ν' (nI t)).bind (fun q => some (q.1, q.2)) ∧ ((res = 0 ∧ ν' 0 0 21 = 1 ∧ Rel nc nh nt rows 1 μ' ν') ∨ (res = 1 ∧ ν' 0 0 21 = 0 ∧ Rel nc nh nt rows 0 μ' ν' ∧ ∃ r, RowIs μ' 6 r ∧ RowR ν' r ∧ ∀ x ∈ r, isCd nc x)) := by
  intro n
  induction n with
  | zero => intro n' i d μ ν _ _ _ _ _ _ _ _ _ _ q; exact absurd q (Nat.not_lt_zero _)
  | succ n ih =>
    intro n' i d μ ν hR hth hk h6 h7 hr ho hd hi hdl hn hn'
    have h6t := hR.nt6
    obtain ⟨n', rfl⟩ : ∃ z, n' = z + 1 := ⟨n' - 1, by omega⟩
    rw [jX7_placeAllOnDraft_L2, jX8_filter_L148, h7.2.1]
    by_cases q : i = g.length
    · have e : nI g.length ≤ nI i := by rw [n_le (by omega) (by omega)]; omega
      rw [if_pos e, if_pos e]
      exact ⟨_, _, ν, rfl, rfl, Or.inr ⟨rfl, hth, hR, d, h6, hr, hdl⟩⟩
    · have e : ¬ nI g.length ≤ nI i := by rw [n_le (by omega) (by omega)]; omega
      have hil : i < g.length := by omega
      have it : inb (nI t) 6 = true := by rw [n_in (by omega)]; exact decide_eq_true (by omega)
      have i1 : inb (nI i) 41 = true := by rw [n_in (by omega)]; exact decide_eq_true (by omega)
      have ec := h7.2.2 i hil
      have eo : ν 28 0 i = μ 15 7 i := by
        have := ho i hil
        rw [Nat.zero_add] at this
        exact Option.some.inj (this.symm.trans ec)
      rw [if_neg e, if_neg e, cardAt_at h7 i hil, Option.bind_some, if_pos hth, if_pos it, if_pos i1, n_cl (show t < 100000 by omega), n_cl (show i < 100000 by omega), eo, ← (hR.tk ht).2]
      obtain ⟨res, μ1, ν1, a1, a2, fr, hs⟩ := place_sim hR hth ht h6 hr hdl (by omega) (hg _ (List.mem_of_getElem? ec))
      rw [hk] at a2
      rw [a1, a2, Option.bind_some, Option.bind_some]
      dsimp only
      have e3 : nI i + 1 = nI (i + 1) := by rw [zl1, n_add]
      rcases hs with ⟨s1, s2, s3⟩ | ⟨s1, s2, s3, d', s4, s5, s6, s7⟩
      · rw [if_pos s1]
        obtain ⟨n2, rfl⟩ : ∃ z, n' = z + 1 := ⟨n' - 1, by omega⟩
        refine ⟨0, μ1, ν1, rfl, ?_, Or.inl ⟨rfl, s2, s3⟩⟩
        rw [jX8_filter_L148, if_neg (show ¬ ν1 0 0 21 = 0 by rw [s2]; decide)]
        by_cases y : nI g.length ≤ nI i + 1
        · rw [if_pos y]
        · rw [if_neg y]
      · rw [if_neg (show ¬ res = 0 by rw [s1]; decide), e3]
        exact ih n' (i + 1) d' μ1 ν1 s3 s2 (by rw [fr.2.1]; exact hk) s4 (fr.row (by decide) h7) s5 (fun j hj => by rw [fr.2.2.2.1]; exact ho j hj) (by omega) (by omega) s7 (by omega) (by omega)
theorem sim_filter {μ ν : Mu} (h : RelE μ ν) (a b : Int32) : ∃ (r : Int32) (μ' ν' : Mu), jX7_filter μ a b = some (r, μ') ∧ jX8_filter ν a b = some (r, ν') ∧ RelE μ' ν' := by
  obtain ⟨nc, nh, nt, rows, hR⟩ := id h
  have h6 := hR.nt6
  have hnh := hR.2.1.1
  unfold jX7_filter jX8_filter
  rw [(hasTray_at hR a).1, (hasTray_at hR a).2, (hasHook_gen hR b).1, (hasHook_gen hR b).2, Option.bind_some, Option.bind_some, Option.bind_some, Option.bind_some, ite10, ite10, ite10, ite10]
  by_cases v : vl a nt
  · rw [if_pos v, if_pos v]
    by_cases w : vl b nh
    · rw [if_pos w, if_pos w]
      obtain ⟨t, ht, rfl⟩ := vl_nI v (by omega)
      obtain ⟨j, hj, rfl⟩ := vl_nI w (by omega)
      have it : inb (nI t) 6 = true := by rw [n_in (by omega)]; exact decide_eq_true (by omega)
      have ij : inb (nI j) 8 = true := by rw [n_in (by omega)]; exact decide_eq_true (by omega)
      rw [kindOf_at hnh hR.2.1.2.1 hj, Option.bind_some, if_pos ij, n_cl (show j < 100000 by omega), ← (hR.2.1.2.2.2.1 j hj).1]
      by_cases q : μ 11 j 0 = 3
      · rw [if_pos q, if_pos q, if_pos it, n_cl (show t < 100000 by omega)]
        obtain ⟨μ1, ν1, a1, a2, hR1, ht1, m1, m11, n1⟩ := begin_sim hR
        obtain ⟨ν2, b1, hR2, ht2, rr2, o2⟩ := load_sim hR1 ht1 ht
        have hl40 := (hR2.row (show t < 6 by omega)).1.1
        rw [a1, a2, Option.bind_some, Option.bind_some, b1, Option.bind_some, rr2.2.1]
        unfold jX7_judgeOntoDraft
        obtain ⟨μ2, c1, c2, c3⟩ := clear_row μ1 6
        rw [c1, Option.bind_some]
        have hR3 := hR2.scr (k := 6) (by decide) c2 OnlyRR.rf
        have hd0 : ν2 0 0 25 = nI 0 := by
          have hz : ν1 0 0 25 = 0 := by
            unfold jX8_beginAct at a2
            simp only [mst] at a2
            obtain ⟨ν9, e1, e2, -⟩ := beginR_L fuel 0 (mu_st (mu_st (mu_st (mu_st (mu_st (mu_st ν 0 0 19 (ν 0 0 19 + 1)) 0 0 21 0) 0 0 22 0) 0 0 23 (-4)) 0 0 24 0) 0 0 25 0) (Nat.zero_le _) (by have := fuel_ge; omega)
            rw [← zl0] at e1
            rw [e1] at a2
            rw [← Option.some.inj a2, e2 0 (by decide)]
            simp [mu_st_app]
          rw [o2 0 0 25 (by omega), hz]; rfl
        obtain ⟨res, μ3, ν3, g, i, d1, d2, d3, d4, d5, d6, d7, d8, d9, d10⟩ := judge_sim hj ht fuel fuel 0 [] μ2 ν2 hR3 ht2 c3 rr2 (fun z hz => absurd hz (Nat.not_lt_zero _)) (Nat.le_refl _) (Nat.zero_le _) hd0 (fun x hx => absurd hx List.not_mem_nil) (by have := fuel_ge; omega) (by have := fuel_ge; omega)
        rw [List.length_nil, ← zl0] at d2
        rw [← zl0] at d1
        rw [d1, d2, Option.bind_some]
        dsimp only
        unfold exF
        rw [if_pos it, n_cl (show t < 100000 by omega)]
        have htk : μ3 13 t 1 = ν3 15 0 t := by
          rcases d10 with ⟨-, -, z⟩ | ⟨-, -, -, z⟩
          · exact (z.tk ht).1
          · exact (z.tk ht).1
        rw [← htk]
        by_cases q2 : μ3 13 t 1 = 2
        · -- a heap
          rw [if_pos q2, if_pos q2]
          simp only [mst]
          obtain ⟨μ4, e1, e2, e3⟩ := copy_row (show 7 ≠ 6 by decide) d3
          obtain ⟨μ5, f1, f2, f3⟩ := clear_row μ4 6
          rw [e1, Option.bind_some, f1, Option.bind_some]
          have os : OnlyRR ν3 (mu_st ν3 0 0 26 0) := OnlyRR.s26
          rcases d10 with ⟨s1, s2, s3⟩ | ⟨s1, s2, s3, s4⟩
          · rw [if_pos s1]
            have hR5 : Rel nc nh nt rows 1 μ5 (mu_st ν3 0 0 26 0) := (s3.scr (k := 7) (by decide) e2 OnlyRR.rf).scr (k := 6) (by decide) f2 os
            have ht5 : mu_st ν3 0 0 26 0 0 0 21 = 1 := by rw [mu_st_app]; simp; exact s2
            obtain ⟨ν6, g1, g2, g3, -⟩ := end_thr hR5 ht5 t
            rw [g1, Option.bind_some, fuel_s, jX8_filter_L148, if_neg (show ¬ mu_st ν3 0 0 26 0 0 0 21 = 0 by rw [ht5]; decide), g2, Option.bind_some]
            have hy : (if nI g.length ≤ 0 then some ((1 : Int32), ν6) else some (1, ν6)) = some (1, ν6) := by
              by_cases y : nI g.length ≤ 0
              · rw [if_pos y]
              · rw [if_neg y]
            dsimp only
            rw [hy]
            exact ⟨_, _, _, rfl, rfl, nc, nh, nt, rows, g3⟩
          · rw [if_neg (show ¬ res = 0 by rw [s1]; decide)]
            have hR5 : Rel nc nh nt rows 0 μ5 (mu_st ν3 0 0 26 0) := (s4.scr (k := 7) (by decide) e2 OnlyRR.rf).scr (k := 6) (by decide) f2 os
            have ht5 : mu_st ν3 0 0 26 0 0 0 21 = 0 := by rw [mu_st_app]; simp; exact s3
            rw [s2, List.drop_eq_nil_of_le (Nat.le_refl _), List.append_nil] at e3
            have h75 := f2.row (show 7 ≠ 6 by decide) e3
            have hrn : RowR (mu_st ν3 0 0 26 0) [] := ⟨by simp, by rw [mu_st_app]; simp; rfl, fun z hz => absurd hz (Nat.not_lt_zero _)⟩
            unfold jX7_placeAllOnDraft
            rw [zl0]
            obtain ⟨res2, μ6, ν6, g1, g2, g3⟩ := placeAllF (x2 := nI j) (x3 := nI (rows t).length) ht (by omega) d9 fuel fuel 0 [] μ5 (mu_st ν3 0 0 26 0) hR5 ht5 (by rw [f2 13 t (by omega), e2 13 t (by omega)]; exact q2) f3 h75 hrn (fun z hz => by rw [mu_st_ne (by simp)]; exact d5 z hz) rfl (Nat.zero_le _) (fun x hx => absurd hx List.not_mem_nil) (by have := fuel_ge; omega) (by have := fuel_ge; omega)
            rw [← zl0] at *
            rw [g1, g2, Option.bind_some]
            dsimp only
            rcases g3 with ⟨y1, y2, y3⟩ | ⟨y1, y2, y3, r, y4, y5, y6⟩
            · obtain ⟨ν7, k1, k2, k3, -⟩ := end_thr y3 y2 t
              rw [if_pos y1, k1, k2, Option.bind_some, Option.bind_some]
              exact ⟨_, _, _, rfl, rfl, nc, nh, nt, rows, k3⟩
            · obtain ⟨μ7, ν7, k1, k2, k3⟩ := end_ok y3 y2 ht y4 y5 y6
              rw [if_neg (show ¬ res2 = 0 by rw [y1]; decide), k1, k2, Option.bind_some, Option.bind_some]
              exact ⟨_, _, _, rfl, rfl, nc, nh, nt, _, k3⟩
        · -- a row
          rw [if_neg q2, if_neg q2, d8]
          obtain ⟨μ4, e1, e2, e3⟩ := copy_row (show t ≠ 6 by omega) d3
          rw [e1, Option.bind_some]
          obtain ⟨ν4, f1, f2, f3⟩ := f198_at (t := t) (h := j) hl40 fuel i g ν3 d4 d5 d6 d7 (by have := fuel_ge; omega)
          rw [f1]
          have hgl := d3.1
          have hlr : ∀ x ∈ g ++ (rows t).drop i, isCd nc x := fun x hx => by
            rcases List.mem_append.mp hx with hx | hx
            · exact d9 x hx
            · exact (hR2.row (show t < 6 by omega)).2.2 x (List.mem_of_mem_drop hx)
          generalize g ++ (rows t).drop i = rr at d3 e3 f1 f3 hgl hlr
          obtain ⟨ν5, ν6, k1, k2, k3, k4⟩ := f236_at (t := t) (h := j) (x3 := nI (rows t).length) (show t < 6 by omega) hgl fuel 0 (mu_st ν4 0 0 26 (nI rr.length)) (by rw [mu_st_app]; simp) (fun z hz => by rw [mu_st_ne (by simp)]; exact f3 z hz) (fun z hz => absurd hz (Nat.not_lt_zero _)) (Nat.zero_le _) (by have := fuel_ge; omega)
          rw [k1]
          have oo : OnlyR2 ν3 ν5 := (f2.tr OnlyRR.s26.r2).tr k2
          have h21 : ν6 0 0 21 = ν3 0 0 21 := by rw [k3 0 0 21 (by omega), oo 0 0 21 (by omega)]
          simp only [mst]
          rcases d10 with ⟨s1, s2, s3⟩ | ⟨s1, s2, s3, s4⟩
          · have hz : ¬ ν6 0 0 21 = 0 := by rw [h21, s2]; decide
            have hz2 : ¬ mu_st ν6 0 0 20 (ν6 0 0 20 + 1) 0 0 21 = 0 := by rw [mu_st_app]; simp; exact hz
            rw [if_pos s1, if_neg hz, if_neg hz2]
            exact ⟨_, _, _, rfl, rfl, nc, nh, nt, _, ((s3.scr2 (k := 6) (by decide) OnlyRow.rf oo).giveRow ht e2 e3 k3 k4 hlr).acts rfl⟩
          · have hz : ν6 0 0 21 = 0 := by rw [h21, s3]
            have hz2 : mu_st ν6 0 0 20 (ν6 0 0 20 + 0) 0 0 21 = 0 := by rw [mu_st_app]; simp; exact hz
            rw [if_neg (show ¬ res = 0 by rw [s1]; decide), if_pos hz, if_pos hz2]
            exact ⟨_, _, _, rfl, rfl, nc, nh, nt, _, ((s4.scr2 (k := 6) (by decide) OnlyRow.rf oo).giveRow ht e2 e3 k3 k4 hlr).acts rfl⟩
      · rw [if_neg q, if_neg q]
        exact ⟨_, _, _, rfl, rfl, h⟩
    · rw [if_neg w, if_neg w]
      exact ⟨_, _, _, rfl, rfl, h⟩
  · rw [if_neg v, if_neg v]
    exact ⟨_, _, _, rfl, rfl, h⟩
