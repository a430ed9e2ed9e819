/-! all. -/
noncomputable def exA (x1 x2 x3 : Int32) (μ : Mu) : Option (Int32 × Mu) := if inb x2 6 = true then if (μ 15 0 x2.toNatClampNeg) = 1 then if inb x2 6 = true then (jX8_merge μ (μ 16 0 x2.toNatClampNeg) 0 x3 (μ 0 0 26)).bind (fun μ36 => (jX8_ends μ36 x2).bind (fun q38 => if q38.1 = 0 then if inb x1 6 = true then mst (mu_st q38.2 17 0 x1.toNatClampNeg 0) (fun μ44 => some (q38.1, μ44)) else none else if inb x1 6 = true then if inb x1 6 = true then mst (mu_st q38.2 17 0 x1.toNatClampNeg (q38.2 17 0 x1.toNatClampNeg)) (fun μ42 => some (q38.1, μ42)) else none else none)) else none else (jX8_ends μ x2).bind (fun q27 => if q27.1 = 0 then if inb x1 6 = true then mst (mu_st q27.2 17 0 x1.toNatClampNeg 0) (fun μ33 => some (q27.1, μ33)) else none else if inb x1 6 = true then if inb x1 6 = true then mst (mu_st q27.2 17 0 x1.toNatClampNeg (q27.2 17 0 x1.toNatClampNeg)) (fun μ31 => some (q27.1, μ31)) else none else none) else none
theorem allS_L {nc nh nt : Nat} {rows : Nat → List Int32} {f t : Nat} {μ : Mu} {x3 : Int32} (hf : f < nt) (ht : t < nt) (hk : μ 13 t 1 = 1) (hsum : (rows f).length + (rows t).length ≤ 40) : ∀ (n i : Nat) (ν : Mu), Rel nc nh nt rows 0 μ ν → ν 0 0 21 = 0 → RowR ν (rows t ++ (rows f).take i) → i ≤ (rows f).length → (rows f).length - i < n → ∃ ν', jX8_all_L94 (nI f) (nI t) x3 n ν (nI i) = exA (nI f) (nI t) x3 ν' ∧ Rel nc nh nt rows 0 μ ν' ∧ ν' 0 0 21 = 0 ∧ RowR ν' (rows t ++ rows f) := by
  intro n
  induction n with
  | zero => intro i ν _ _ _ _ q; exact absurd q (Nat.not_lt_zero _)
  | succ n ih =>
    intro i ν hR hth hr hi hn
    have h6 := hR.nt6
    obtain ⟨r1, s1, hl⟩ := hR.row (show f < 6 by omega)
    have hf6 : inb (nI f) 6 = true := by rw [n_in (by omega)]; exact decide_eq_true (by omega)
    have ht6 : inb (nI t) 6 = true := by rw [n_in (by omega)]; exact decide_eq_true (by omega)
    rw [jX8_all_L94, if_pos hf6, n_cl (show f < 100000 by omega), s1.2.1]
    by_cases q : i = (rows f).length
    · rw [if_pos (show nI (rows f).length ≤ nI i by rw [n_le (by omega) (by omega)]; omega)]
      rw [q, List.take_length] at hr
      refine ⟨ν, ?_, hR, hth, hr⟩
      unfold exA
      rw [n_cl (show f < 100000 by omega)]
    · rw [if_neg (show ¬ nI (rows f).length ≤ nI i by rw [n_le (by omega) (by omega)]; omega), if_pos hth, show (40 : Int32) * nI f + nI i = nI (40 * f + i) from by rw [zl40, pk_mul, n_add], if_pos (show inb (nI (40 * f + i)) 240 = true by rw [n_in (by omega)]; exact decide_eq_true (by omega)), if_pos ht6, n_cl (show t < 100000 by omega), ← (hR.tk ht).1, if_pos hk, n_cl (show 40 * f + i < 100000 by omega)]
      have hlen : (rows t ++ (rows f).take i).length = (rows t).length + i := by simp; omega
      rw [hr.2.1, hlen, if_pos (show inb (nI ((rows t).length + i)) 41 = true by rw [n_in (by omega)]; exact decide_eq_true (by omega)), n_cl (show (rows t).length + i < 100000 by omega)]
      simp only [mst]
      have ec := s1.2.2 i (by omega)
      obtain ⟨ν1, e1⟩ : ∃ x, x = mu_st (mu_st ν 27 0 ((rows t).length + i) (ν 18 0 (40 * f + i))) 0 0 26 (mu_st ν 27 0 ((rows t).length + i) (ν 18 0 (40 * f + i)) 0 0 26 + 1) := ⟨_, rfl⟩
      rw [← e1, show nI i + 1 = nI (i + 1) from by rw [zl1, n_add]]
      have o1 : OnlyRR ν ν1 := by rw [e1]; exact OnlyRR.s27.tr OnlyRR.s26
      have hl2 : rows t ++ (rows f).take (i + 1) = (rows t ++ (rows f).take i) ++ [ν 18 0 (40 * f + i)] := by
        rw [List.append_assoc]
        congr 1
        rw [List.take_succ, ec]
        rfl
      refine ih (i + 1) ν1 (hR.scr (k := 6) (by decide) OnlyRow.rf o1) (by rw [o1 0 0 21 (by omega)]; exact hth) ?_ (by omega) (by omega)
      rw [hl2, e1]
      refine ⟨by rw [List.length_append, hlen]; simp; omega, ?_, fun j hj => ?_⟩
      · rw [List.length_append, hlen]
        simp [mu_st_app, hr.2.1, hlen, zl1, n_add]
      · rw [List.length_append, hlen] at hj
        simp only [List.length_cons, List.length_nil] at hj
        rw [mu_st_ne (by simp), mu_st_app]
        by_cases z : j = (rows t).length + i
        · subst z
          rw [if_pos (by simp), List.getElem?_append_right (by omega), hlen]
          simp
        · rw [if_neg (by simp [z]), List.getElem?_append_left (by omega)]
          exact hr.2.2 j (by omega)
theorem allP_L {nc nh nt : Nat} {rows : Nat → List Int32} {f t : Nat} {x3 : Int32} (hf : f < nt) (ht : t < nt) (hsum : (rows f).length + (rows t).length ≤ 40) : ∀ (n n' i : Nat) (d : List Int32) (μ ν : Mu), Rel nc nh nt rows 0 μ ν → ν 0 0 21 = 0 → ¬ μ 13 t 1 = 1 → RowIs μ 6 d → RowR ν d → d.length = (rows t).length + i → i ≤ (rows f).length → (∀ x ∈ d, isCd nc x) → (rows f).length - i < n → (rows f).length - i + 1 < n' → ∃ (res : Int32) (μ' ν' : Mu), jX7_placeAllOnDraft_L2 t f n μ (nI i) = some (res, μ') ∧ jX8_all_L94 (nI f) (nI t) x3 n' ν (nI i) = exA (nI f) (nI t) x3 ν' ∧ μ' 13 = μ 13 ∧ ((res = 0 ∧ ν' 0 0 21 = 1 ∧ Rel nc nh nt rows 1 μ' ν') ∨ (res = 1 ∧ ν' 0 0 21 = 0 ∧ Rel nc nh nt rows 0 μ' ν' ∧ ∃ r, RowIs μ' 6 r ∧ RowR ν' r ∧ ∀ x ∈ r, isCd nc x)) := by
  intro n
  induction n with
  | zero => intro n' i d μ ν _ _ _ _ _ _ _ _ q; exact absurd q (Nat.not_lt_zero _)
  | succ n ih =>
    intro n' i d μ ν hR hth hk h6r hr hd hi hdl hn hn'
    have h6 := hR.nt6
    obtain ⟨r1, s1, hl⟩ := hR.row (show f < 6 by omega)
    have hf6 : inb (nI f) 6 = true := by rw [n_in (by omega)]; exact decide_eq_true (by omega)
    have ht6 : inb (nI t) 6 = true := by rw [n_in (by omega)]; exact decide_eq_true (by omega)
    obtain ⟨n', rfl⟩ : ∃ z, n' = z + 1 := ⟨n' - 1, by omega⟩
    rw [jX7_placeAllOnDraft_L2, jX8_all_L94, r1.2.1, if_pos hf6, n_cl (show f < 100000 by omega), s1.2.1]
    by_cases q : i = (rows f).length
    · have e : nI (rows f).length ≤ nI i := by rw [n_le (by omega) (by omega)]; omega
      rw [if_pos e, if_pos e]
      refine ⟨1, μ, ν, rfl, ?_, rfl, Or.inr ⟨rfl, hth, hR, d, h6r, hr, hdl⟩⟩
      unfold exA
      rw [n_cl (show f < 100000 by omega)]
    · have e : ¬ nI (rows f).length ≤ nI i := by rw [n_le (by omega) (by omega)]; omega
      have hil : i < (rows f).length := by omega
      have ec := r1.2.2 i hil
      have eo : ν 18 0 (40 * f + i) = μ 15 f i := Option.some.inj ((s1.2.2 i hil).symm.trans ec)
      rw [if_neg e, if_neg e, cardAt_at r1 i hil, Option.bind_some, if_pos hth, show (40 : Int32) * nI f + nI i = nI (40 * f + i) from by rw [zl40, pk_mul, n_add], if_pos (show inb (nI (40 * f + i)) 240 = true by rw [n_in (by omega)]; exact decide_eq_true (by omega))]
      simp only [ht6, if_true, n_cl (show t < 100000 by omega), ← (hR.tk ht).1, ← (hR.tk ht).2, if_neg hk, n_cl (show 40 * f + i < 100000 by omega), eo]
      obtain ⟨res, μ1, ν1, a1, a2, fr, hs⟩ := place_sim hR hth ht h6r hr hdl (by omega) (hl _ (List.mem_of_getElem? ec))
      rw [a1, a2, Option.bind_some, Option.bind_some]
      dsimp only
      rcases hs with ⟨s1, s2, s3⟩ | ⟨s1, s2, s3, d', s4, s5, s6, s7⟩
      · rw [if_pos s1]
        obtain ⟨n2, rfl⟩ : ∃ z, n' = z + 1 := ⟨n' - 1, by omega⟩
        refine ⟨0, μ1, ν1, rfl, ?_, fr.2.1, Or.inl ⟨rfl, s2, s3⟩⟩
        have h0 : ¬ ν1 0 0 21 = 0 := by rw [s2]; decide
        rw [jX8_all_L94, if_pos hf6, if_neg h0]
        unfold exA
        by_cases y : ν1 17 0 (nI f).toNatClampNeg ≤ nI i + 1
        · rw [if_pos y]
        · rw [if_neg y]
      · rw [if_neg (show ¬ res = 0 by rw [s1]; decide), show nI i + 1 = nI (i + 1) from by rw [zl1, n_add]]
        obtain ⟨res2, μ2, ν2, b1, b2, b3, b4⟩ := ih n' (i + 1) d' μ1 ν1 s3 s2 (by rw [fr.2.1]; exact hk) s4 s5 (by omega) (by omega) s7 (by omega) (by omega)
        exact ⟨res2, μ2, ν2, b1, b2, b3.trans fr.2.1, b4⟩
/-- the end of all(): both when nothing threw and when something did -/
theorem all_end {nc nh nt : Nat} {rows : Nat → List Int32} {f t : Nat} {μ ν : Mu} (hf : f < nt) (ht : t < nt) (hne : f ≠ t) (res : Int32) (hs : (res = 0 ∧ ν 0 0 21 = 1 ∧ Rel nc nh nt rows 1 μ ν) ∨ (res = 1 ∧ ν 0 0 21 = 0 ∧ Rel nc nh nt rows 0 μ ν ∧ ∃ r, RowIs μ 6 r ∧ RowR ν r ∧ ∀ x ∈ r, isCd nc x)) : ∃ (r : Int32) (μ' ν' : Mu), (jX7_keepDraft μ t res).bind (fun q28 => if q28.1 = 0 then (jX5_clear q28.2 f).bind (fun μ31 => some (q28.1, μ31)) else some (q28.1, q28.2)) = some (r, μ') ∧ (jX8_ends ν (nI t)).bind (fun q38 => if q38.1 = 0 then if inb (nI f) 6 = true then mst (mu_st q38.2 17 0 (nI f).toNatClampNeg 0) (fun μ44 => some (q38.1, μ44)) else none else if inb (nI f) 6 = true then if inb (nI f) 6 = true then mst (mu_st q38.2 17 0 (nI f).toNatClampNeg (q38.2 17 0 (nI f).toNatClampNeg)) (fun μ42 => some (q38.1, μ42)) else none else none) = some (r, ν') ∧ RelE μ' ν' := by
  rcases hs with ⟨s1, s2, s3⟩ | ⟨s1, s2, s3, r, s4, s5, s6⟩
  · have h6 := s3.nt6
    have hf6 : inb (nI f) 6 = true := by rw [n_in (by omega)]; exact decide_eq_true (by omega)
    obtain ⟨ν1, g1, g2, g3, -⟩ := end_thr s3 s2 t
    rw [s1, g1, g2, Option.bind_some, Option.bind_some]
    dsimp only
    rw [if_neg (show ¬ (1 : Int32) = 0 by decide), if_neg (show ¬ (1 : Int32) = 0 by decide), if_pos hf6, if_pos hf6]
    simp only [mst]
    rw [mu_st_self]
    exact ⟨_, _, _, rfl, rfl, nc, nh, nt, rows, g3⟩
  · have h6 := s3.nt6
    have hf6 : inb (nI f) 6 = true := by rw [n_in (by omega)]; exact decide_eq_true (by omega)
    obtain ⟨μ1, ν1, g1, g2, g3⟩ := end_ok s3 s2 ht s4 s5 s6
    rw [s1, g1, g2, Option.bind_some, Option.bind_some]
    dsimp only
    rw [if_pos rfl, if_pos rfl, if_pos hf6, n_cl (show f < 100000 by omega)]
    obtain ⟨μ2, k1, k2, k3⟩ := clear_row μ1 f
    rw [k1, Option.bind_some]
    simp only [mst]
    refine ⟨_, _, _, rfl, rfl, nc, nh, nt, _, g3.giveRow hf k2 k3 (l := []) (fun c k j q => ?_) ⟨by simp, by rw [mu_st_app]; simp; rfl, fun i hi => absurd hi (Nat.not_lt_zero _)⟩ (fun x hx => absurd hx List.not_mem_nil)⟩
    rw [mu_st_app, if_neg (fun z => q (Or.inl ⟨z.1, z.2.2⟩))]
theorem sim_all {μ ν : Mu} (h : RelE μ ν) (a b : Int32) : ∃ (r : Int32) (μ' ν' : Mu), jX7_all μ a b = some (r, μ') ∧ jX8_all ν a b = some (r, ν') ∧ RelE μ' ν' := by
  obtain ⟨nc, nh, nt, rows, hR⟩ := id h
  have h6 := hR.nt6
  unfold jX7_all jX8_all
  rw [(hasTray_at hR a).1, (hasTray_at hR a).2, (hasTray_at hR b).1, (hasTray_at hR b).2, Option.bind_some, Option.bind_some, Option.bind_some, Option.bind_some, ite10, ite10, ite10, ite10]
  by_cases v : vl a nt
  · rw [if_pos v, if_pos v]
    by_cases w : vl b nt
    · rw [if_pos w, if_pos w]
      by_cases q : a = b
      · rw [if_pos q, if_pos q]
        exact ⟨_, _, _, rfl, rfl, h⟩
      · rw [if_neg q, if_neg q]
        obtain ⟨f, hf, rfl⟩ := vl_nI v (by omega)
        obtain ⟨t, ht, rfl⟩ := vl_nI w (by omega)
        have hne : f ≠ t := fun e => q (by rw [e])
        have hf6 : inb (nI f) 6 = true := by rw [n_in (by omega)]; exact decide_eq_true (by omega)
        have ht6 : inb (nI t) 6 = true := by rw [n_in (by omega)]; exact decide_eq_true (by omega)
        obtain ⟨rf, sf, lf⟩ := hR.row (show f < 6 by omega)
        obtain ⟨rt, st, lt⟩ := hR.row (show t < 6 by omega)
        have hlf := rf.1
        have hlt := rt.1
        simp only [hf6, ht6, if_true, n_cl (show f < 100000 by omega), n_cl (show t < 100000 by omega), ← (hR.tk hf).1, ← (hR.tk hf).2, ← (hR.tk ht).1, ← (hR.tk ht).2, rf.2.1, rt.2.1, sf.2.1, st.2.1, n_add]
        by_cases q1 : μ 13 f 1 = μ 13 t 1
        · rw [if_pos q1, if_pos q1]
          by_cases q2 : μ 13 f 2 = μ 13 t 2
          · rw [if_pos q2, if_pos q2]
            by_cases q3 : nI ((rows f).length + (rows t).length) ≤ 40
            · rw [if_pos q3, if_pos q3]
              rw [zl40, n_le (by omega) (by omega)] at q3
              obtain ⟨μ1, ν1, a1, a2, hR1, ht1, m1, m11, n1⟩ := begin_sim hR
              obtain ⟨ν2, b1, hR2, ht2, rr2, o2⟩ := load_sim hR1 ht1 ht
              obtain ⟨μ2, c1, c2, c3⟩ := copy_row (show 6 ≠ t by omega) (hR2.row (show t < 6 by omega)).1
              have hR3 := hR2.scr (k := 6) (by decide) c2 OnlyRR.rf
              rw [a1, a2, Option.bind_some, Option.bind_some, b1, c1, Option.bind_some, Option.bind_some, rr2.2.1]
              have lf2 := (hR3.row (show f < 6 by omega)).2.2
              have lt2 := (hR3.row (show t < 6 by omega)).2.2
              by_cases q4 : μ2 13 t 1 = 1
              · -- SORTED
                rw [if_pos q4]
                obtain ⟨hk, hh, hke, hc⟩ : ∃ h, h < nh ∧ μ2 13 t 2 = nI h ∧ isCmp μ2 h := by
                  rcases (hR3.2.2.2.2.2.2.2.1 t ht).2.2 with ⟨z, -⟩ | ⟨-, z⟩
                  · rw [z] at q4; cases q4
                  · exact z
                obtain ⟨ν3, d1, hR4, ht4, rr4⟩ := allS_L (x3 := nI (rows t).length) hf ht q4 q3 fuel 0 ν2 hR3 ht2 (by rw [List.take_zero, List.append_nil]; exact rr2) (Nat.zero_le _) (by have := fuel_ge; omega)
                rw [← zl0] at d1
                rw [d1]
                unfold exA jX7_mergeIntoDraft
                rw [if_pos ht6, n_cl (show t < 100000 by omega), ← (hR4.tk ht).1, if_pos q4, if_pos ht6, ← (hR4.tk ht).2, hke, rr4.2.1, c3.2.1]
                obtain ⟨μ3, e1, e2, e3⟩ := copy_row (show 7 ≠ 6 by decide) c3
                have rf3 := e2.row (show f ≠ 7 by omega) (hR3.row (show f < 6 by omega)).1
                obtain ⟨μ4, f1, f2, f3⟩ := appendPart_row (show 7 ≠ f by omega) e3 rf3 0 (rows f).length (Nat.zero_le _) (Nat.le_refl _) (by omega)
                rw [List.drop_zero, Nat.sub_zero, List.take_length] at f3
                obtain ⟨μ5, g1, g2, g3⟩ := clear_row μ4 6
                have r75 := g2.row (show 7 ≠ 6 by decide) f3
                rw [zl0]
                rw [e1, Option.bind_some, rf3.2.1, f1, Option.bind_some, g1, Option.bind_some, r75.2.1]
                unfold jX5_appendMerged jX8_merge
                have hR5 : Rel nc nh nt rows 0 μ5 ν3 := ((hR4.scr (k := 7) (by decide) e2 OnlyRR.rf).scr (k := 7) (by decide) f2 OnlyRR.rf).scr (k := 6) (by decide) g2 OnlyRR.rf
                have hc5 : isCmp μ5 hk := isCmp_to (fun k => by rw [g2 11 k (by omega), f2 11 k (by omega), e2 11 k (by omega)]) hc
                have hlen : (rows t ++ rows f).length = (rows t).length + (rows f).length := by simp
                obtain ⟨res, μ6, ν6, k1, k2, k3, k4⟩ := merge_sim (x2 := nI 0) (lo := 0) (mid := (rows t).length) (hi := (rows t ++ rows f).length) (d0 := []) (r := rows t ++ rows f) hh (fun x hx => by
                  rcases List.mem_append.mp hx with hx | hx
                  · exact lt2 x hx
                  · exact lf2 x hx) rfl rfl (Nat.le_refl _) rfl fuel fuel 0 (rows t).length [] μ5 ν3 hR5 ht4 hc5 g3 r75 rr4 (fun j hj => absurd hj (Nat.not_lt_zero _)) (Nat.le_refl _) (Nat.zero_le _) (Nat.le_refl _) (by omega) (by simp) (fun x hx => absurd hx List.not_mem_nil) (by have := fuel_ge; omega) (by have := fuel_ge; omega)
                rw [List.length_nil, Nat.add_zero] at k2
                rw [k1, k2, Option.bind_some, Option.bind_some]
                dsimp only
                have hres : res = nI 0 ∨ res = 1 := by
                  rcases k4 with ⟨z, -⟩ | ⟨z, -⟩
                  · exact Or.inl z
                  · exact Or.inr z
                rw [if_pos hres, Option.bind_some]
                dsimp only
                rw [← zl0]
                refine all_end (nc := nc) (nh := nh) (rows := rows) hf ht hne res ?_
                rcases k4 with ⟨y1, y2, y3⟩ | ⟨y1, y2, y3, g, y4, y5, y6, y7⟩
                · exact Or.inl ⟨y1, y2, y3⟩
                · refine Or.inr ⟨y1, y2, y3, g, by rw [List.nil_append] at y4; exact y4, ?_, fun x hx => ?_⟩
                  · rw [List.take_zero, List.nil_append, List.drop_length, List.append_nil] at y5
                    exact y5
                  · rcases List.mem_append.mp (y7 x hx) with hx | hx
                    · exact lt2 x hx
                    · exact lf2 x hx
              · -- ROW, HEAP
                rw [if_neg q4]
                unfold jX7_placeAllOnDraft
                obtain ⟨res, μ3, ν3, d1, d2, d3, d4⟩ := allP_L (x3 := nI (rows t).length) hf ht q3 fuel fuel 0 (rows t) μ2 ν2 hR3 ht2 q4 c3 rr2 (by omega) (Nat.zero_le _) lt2 (by have := fuel_ge; omega) (by have := fuel_ge; omega)
                rw [← zl0] at d1 d2
                rw [d1, d2, Option.bind_some]
                dsimp only
                unfold exA
                have htk : μ3 13 t 1 = ν3 15 0 t := by
                  rcases d4 with ⟨-, -, z⟩ | ⟨-, -, z, -⟩
                  · exact (z.tk ht).1
                  · exact (z.tk ht).1
                rw [if_pos ht6, n_cl (show t < 100000 by omega), ← htk, if_neg (by rw [d3]; exact q4)]
                exact all_end hf ht hne res d4
            · rw [if_neg q3, if_neg q3]
              exact ⟨_, _, _, rfl, rfl, h⟩
          · rw [if_neg q2, if_neg q2]
            exact ⟨_, _, _, rfl, rfl, h⟩
        · rw [if_neg q1, if_neg q1]
          exact ⟨_, _, _, rfl, rfl, h⟩
    · rw [if_neg w, if_neg w]
      exact ⟨_, _, _, rfl, rfl, h⟩
  · rw [if_neg v, if_neg v]
    exact ⟨_, _, _, rfl, rfl, h⟩
