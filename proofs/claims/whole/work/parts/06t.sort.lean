/-! sort. -/
theorem min_nI {a b : Nat} (ha : a < 100000) (hb : b < 100000) : (if nI a < nI b then nI a else nI b) = nI (min a b) := by
  by_cases h : a < b
  · rw [if_pos (by rw [n_lt ha hb]; exact h), Nat.min_eq_left (by omega)]
  · rw [if_neg (by rw [n_lt ha hb]; exact h), Nat.min_eq_right (by omega)]
set_option maxHeartbeats 2000000 in
theorem sort_inner {nc nh nt : Nat} {rows : Nat → List Int32} {h w : Nat} {l : List Int32} {x1 : Int32} (kfC kfR : Mu → Int32 → Option (Int32 × Mu)) (hh : h < nh) (hw : 0 < w) (hw2 : w < l.length) (hl : ∀ x ∈ l, isCd nc x) : ∀ (n n' lo : Nat) (d : List Int32) (μ ν : Mu), Rel nc nh nt rows 0 μ ν → ν 0 0 21 = 0 → isCmp μ h → RowIs μ 6 d → RowIs μ 7 l → RowR ν (d ++ l.drop lo) → (∀ x ∈ d, x ∈ l) → ((lo ≤ l.length ∧ d.length = lo) ∨ (l.length < lo ∧ d.length = l.length)) → lo ≤ 200 → l.length - lo < n → l.length - lo + 1 < n' → (∃ (μ' ν' : Mu) (z : Int32), jX7_sortDraftAnew_L36 (nI h) (nI l.length) (nI w) kfC n μ (nI lo) = some (0, μ') ∧ jX8_sort_L67 x1 (nI h) (nI w) kfR n' ν (nI lo) = kfR ν' z ∧ ν' 0 0 21 = 1 ∧ Rel nc nh nt rows 1 μ' ν') ∨ (∃ (μ' ν' : Mu) (z1 z2 : Int32) (r : List Int32), jX7_sortDraftAnew_L36 (nI h) (nI l.length) (nI w) kfC n μ (nI lo) = kfC μ' z1 ∧ jX8_sort_L67 x1 (nI h) (nI w) kfR n' ν (nI lo) = kfR ν' z2 ∧ ν' 0 0 21 = 0 ∧ Rel nc nh nt rows 0 μ' ν' ∧ isCmp μ' h ∧ RowIs μ' 6 r ∧ RowR ν' r ∧ r.length = l.length ∧ ∀ x ∈ r, x ∈ l) := by
  intro n
  induction n with
  | zero => intro n' lo d μ ν _ _ _ _ _ _ _ _ _ q; exact absurd q (Nat.not_lt_zero _)
  | succ n ih =>
    intro n' lo d μ ν hR ht hc h6 h7 hr hd hdl hlo hn hn'
    have hl40 := h7.1
    obtain ⟨n', rfl⟩ : ∃ z, n' = z + 1 := ⟨n' - 1, by omega⟩
    have hlen : (d ++ l.drop lo).length = l.length := by simp; omega
    rw [jX7_sortDraftAnew_L36, jX8_sort_L67, hr.2.1, hlen]
    rw [show (2 : Int32) * nI w = nI (2 * w) from by rw [zl2, pk_mul], n_add, n_add]
    by_cases q1 : l.length ≤ lo
    · -- nothing is left
      rw [if_pos (show nI l.length ≤ nI lo by rw [n_le (by omega) (by omega)]; exact q1), if_pos (show nI l.length ≤ nI (lo + w) by rw [n_le (by omega) (by omega)]; omega)]
      rw [List.drop_eq_nil_of_le q1, List.append_nil] at hr
      exact Or.inr ⟨μ, ν, _, _, d, rfl, rfl, ht, hR, hc, h6, hr, by omega, hd⟩
    · have hdlo : d.length = lo := by omega
      rw [if_neg (show ¬ nI l.length ≤ nI lo by rw [n_le (by omega) (by omega)]; exact q1), min_nI (by omega) (by omega), min_nI (by omega) (by omega)]
      unfold jX5_appendMerged
      by_cases q2 : l.length ≤ lo + w
      · -- a piece alone
        rw [if_pos (show nI l.length ≤ nI (lo + w) by rw [n_le (by omega) (by omega)]; exact q2), Nat.min_eq_left q2, Nat.min_eq_left (show l.length ≤ lo + 2 * w by omega)]
        obtain ⟨μ1, e1, o1, r1⟩ := appendPart_row (show 6 ≠ 7 by decide) h6 h7 lo l.length (by omega) (Nat.le_refl _) (by omega)
        obtain ⟨μ2, e2, o2, r2⟩ := appendPart_row (show 6 ≠ 7 by decide) r1 (o1.row (by decide) h7) l.length l.length (Nat.le_refl _) (Nat.le_refl _) (by simp; omega)
        rw [fuel_s, jX5_appendMerged_L6, if_neg (show ¬ nI l.length ≤ nI lo by rw [n_le (by omega) (by omega)]; exact q1), if_pos (show nI l.length ≤ nI l.length from by rw [n_le (by omega) (by omega)]; omega), e1, Option.bind_some, e2, Option.bind_some, Option.bind_some]
        dsimp only
        rw [if_neg (show ¬ (1 : Int32) = 0 by decide)]
        obtain ⟨n2, rfl⟩ : ∃ z, n = z + 1 := ⟨n - 1, by omega⟩
        rw [jX7_sortDraftAnew_L36, if_pos (show nI l.length ≤ nI (lo + 2 * w) by rw [n_le (by omega) (by omega)]; omega)]
        rw [Nat.sub_self, List.take_zero, List.append_nil, List.take_of_length_le (by simp)] at r2
        refine Or.inr ⟨μ2, ν, _, _, d ++ l.drop lo, rfl, rfl, ht, hR.scr (k := 6) (by decide) (o1.tr o2) OnlyRR.rf, ?_, r2, hr, hlen, fun x hx => ?_⟩
        · exact isCmp_to (fun k => by rw [(o1.tr o2) 11 k (by omega)]) hc
        · rcases List.mem_append.mp hx with hx | hx
          · exact hd x hx
          · exact List.mem_of_mem_drop hx
      · -- two pieces
        rw [if_neg (show ¬ nI l.length ≤ nI (lo + w) by rw [n_le (by omega) (by omega)]; exact q2), if_pos ht, Nat.min_eq_right (show lo + w ≤ l.length by omega)]
        have hz : (if nI l.length ≤ nI (lo + 2 * w) then (jX8_merge ν (nI h) (nI lo) (nI (lo + w)) (nI l.length)).bind (fun μ28 => jX8_sort_L67 x1 (nI h) (nI w) kfR n' μ28 (nI (lo + 2 * w))) else (jX8_merge ν (nI h) (nI lo) (nI (lo + w)) (nI (lo + 2 * w))).bind (fun μ30 => jX8_sort_L67 x1 (nI h) (nI w) kfR n' μ30 (nI (lo + 2 * w)))) = (jX8_merge ν (nI h) (nI lo) (nI (lo + w)) (nI (min l.length (lo + 2 * w)))).bind (fun μ28 => jX8_sort_L67 x1 (nI h) (nI w) kfR n' μ28 (nI (lo + 2 * w))) := by
          by_cases z : l.length ≤ lo + 2 * w
          · rw [if_pos (by rw [n_le (by omega) (by omega)]; exact z), Nat.min_eq_left z]
          · rw [if_neg (by rw [n_le (by omega) (by omega)]; exact z), Nat.min_eq_right (by omega)]
        rw [hz]
        have hhi : min l.length (lo + 2 * w) ≤ l.length := Nat.min_le_left _ _
        have hhi2 : lo + w ≤ min l.length (lo + 2 * w) := by omega
        have hhi3 : min l.length (lo + 2 * w) = l.length ∨ min l.length (lo + 2 * w) = lo + 2 * w := by omega
        have hhi4 : min l.length (lo + 2 * w) ≤ lo + 2 * w := Nat.min_le_right _ _
        generalize min l.length (lo + 2 * w) = hi at hhi hhi2 hhi3 hhi4
        have hdrop : (d ++ l.drop lo).drop lo = l.drop lo := by
          rw [List.drop_append_of_le_length (by omega), List.drop_eq_nil_of_le (by omega), List.nil_append]
        have htake : (d ++ l.drop lo).take lo = d := by
          rw [List.take_append_of_le_length (by omega), List.take_of_length_le (by omega)]
        unfold jX8_merge
        obtain ⟨res, μ', ν', a1, a2, fr, hs⟩ := merge_sim (x2 := nI lo) (mid := lo + w) hh hl hlen hdrop hhi hdlo fuel fuel lo (lo + w) [] μ ν hR ht hc (by rw [List.append_nil]; exact h6) h7 hr (fun j hj => absurd hj (Nat.not_lt_zero _)) (Nat.le_refl _) (by omega) (Nat.le_refl _) hhi2 (by simp) (fun x hx => absurd hx List.not_mem_nil) (by have := fuel_ge; omega) (by have := fuel_ge; omega)
        rw [List.length_nil, Nat.add_zero] at a2
        rw [a1, a2, Option.bind_some, Option.bind_some]
        dsimp only
        rcases hs with ⟨s1, s2, s3⟩ | ⟨s1, s2, s3, g, s4, s5, s6, s7⟩
        · rw [if_pos s1]
          obtain ⟨n2, rfl⟩ : ∃ z, n' = z + 1 := ⟨n' - 1, by omega⟩
          refine Or.inl ⟨μ', ν', nI (lo + 2 * w), rfl, ?_, s2, s3⟩
          rw [jX8_sort_L67, if_neg (show ¬ ν' 0 0 21 = 0 by rw [s2]; decide)]
          by_cases z : ν' 0 0 26 ≤ nI (lo + 2 * w) + nI w
          · rw [if_pos z]
          · rw [if_neg z]
        · rw [if_neg (show ¬ res = 0 by rw [s1]; decide)]
          rw [htake, drop_eq_of hdrop (show lo ≤ hi by omega)] at s5
          have hdr2 : l.drop hi = l.drop (lo + 2 * w) := by
            rcases hhi3 with e | e
            · rw [e, List.drop_eq_nil_of_le (Nat.le_refl _), List.drop_eq_nil_of_le (by omega)]
            · rw [e]
          rw [hdr2] at s5
          exact ih n' (lo + 2 * w) (d ++ g) μ' ν' s3 s2 (fr.cmp hc) s4 (fr.row (by decide) h7) s5 (fun x hx => by
            rcases List.mem_append.mp hx with hx | hx
            · exact hd x hx
            · exact s7 x hx) (by simp; omega) (by omega) (by omega) (by omega)
theorem sort_outer {nc nh nt : Nat} {rows : Nat → List Int32} {h t len : Nat} (hh : h < nh) : ∀ (n n' w : Nat) (l : List Int32) (μ ν : Mu), Rel nc nh nt rows 0 μ ν → ν 0 0 21 = 0 → isCmp μ h → RowIs μ 6 l → RowR ν l → (∀ x ∈ l, isCd nc x) → l.length = len → 0 < w → w ≤ 100 → len - w < n → len - w + 1 < n' → ∃ (res : Int32) (μ' ν' : Mu), jX7_sortDraftAnew_L10 (nI h) (nI len) n μ (nI w) = some (res, μ') ∧ jX8_sort_L49 (nI t) (nI h) n' ν (nI w) = (jX8_ends ν' (nI t)).bind (fun q => some (q.1, q.2)) ∧ ((res = 0 ∧ ν' 0 0 21 = 1 ∧ Rel nc nh nt rows 1 μ' ν') ∨ (res = 1 ∧ ν' 0 0 21 = 0 ∧ Rel nc nh nt rows 0 μ' ν' ∧ ∃ r, RowIs μ' 6 r ∧ RowR ν' r ∧ ∀ x ∈ r, isCd nc x)) := by
  intro n
  induction n with
  | zero => intro n' w l μ ν _ _ _ _ _ _ _ _ _ q; exact absurd q (Nat.not_lt_zero _)
  | succ n ih =>
    intro n' w l μ ν hR ht hc h6 hr hl hlen hw hw2 hn hn'
    have hl40 := h6.1
    obtain ⟨n', rfl⟩ : ∃ z, n' = z + 1 := ⟨n' - 1, by omega⟩
    rw [jX7_sortDraftAnew_L10, jX8_sort_L49, hr.2.1, hlen]
    by_cases q : len ≤ w
    · have e : nI len ≤ nI w := by rw [n_le (by omega) (by omega)]; exact q
      rw [if_pos e, if_pos e]
      exact ⟨_, _, ν, rfl, rfl, Or.inr ⟨rfl, ht, hR, l, h6, hr, hl⟩⟩
    · have e : ¬ nI len ≤ nI w := by rw [n_le (by omega) (by omega)]; exact q
      rw [if_neg e, if_neg e, if_pos ht]
      obtain ⟨μ1, a1, a2, a3⟩ := copy_row (show 7 ≠ 6 by decide) h6
      obtain ⟨μ2, b1, b2, b3⟩ := clear_row μ1 6
      rw [a1, Option.bind_some, b1, Option.bind_some]
      have hR2 : Rel nc nh nt rows 0 μ2 ν := (hR.scr (k := 7) (by decide) a2 OnlyRR.rf).scr (k := 6) (by decide) b2 OnlyRR.rf
      have hc2 : isCmp μ2 h := isCmp_to (fun k => by rw [b2 11 k (by omega), a2 11 k (by omega)]) hc
      have key := sort_inner (x1 := nI t) (w := w) (fun μ13 z12 => jX7_sortDraftAnew_L10 (nI h) (nI len) n μ13 (nI w * 2)) (fun μ32 z31 => jX8_sort_L49 (nI t) (nI h) n' μ32 (nI w * 2)) hh hw (show w < l.length by omega) hl fuel fuel 0 [] μ2 ν hR2 ht hc2 b3 (b2.row (by decide) a3) (by rw [List.drop_zero, List.nil_append]; exact hr) (fun x hx => absurd hx List.not_mem_nil) (Or.inl ⟨Nat.zero_le _, rfl⟩) (by omega) (by have := fuel_ge; omega) (by have := fuel_ge; omega)
      rw [hlen, ← zl0] at key
      have hw2' : nI w * 2 = nI (2 * w) := by rw [zl2, pk_mul, Nat.mul_comm]
      rcases key with ⟨μ', ν', z, c1, c2, c3, c4⟩ | ⟨μ', ν', z1, z2, r, c1, c2, c3, c4, c5, c6, c7, c8, c9⟩
      · rw [c1, c2]
        obtain ⟨n2, rfl⟩ : ∃ z, n' = z + 1 := ⟨n' - 1, by omega⟩
        rw [jX8_sort_L49, if_neg (show ¬ ν' 0 0 21 = 0 by rw [c3]; decide)]
        refine ⟨_, _, ν', rfl, ?_, Or.inl ⟨rfl, c3, c4⟩⟩
        by_cases y : ν' 0 0 26 ≤ nI w * 2
        · rw [if_pos y]
        · rw [if_neg y]
      · rw [c1, c2]
        rw [hw2']
        exact ih n' (2 * w) r μ' ν' c4 c3 c5 c6 c7 (fun x hx => hl x (c9 x hx)) (by omega) (by omega) (by omega) (by omega) (by omega)
theorem sim_sort {μ ν : Mu} (h : RelE μ ν) (a b : Int32) : ∃ (r : Int32) (μ' ν' : Mu), jX7_sort μ a b = some (r, μ') ∧ jX8_sort ν a b = some (r, ν') ∧ RelE μ' ν' := by
  obtain ⟨nc, nh, nt, rows, hR⟩ := id h
  have h6 := hR.nt6
  have hnh := hR.2.1.1
  unfold jX7_sort jX8_sort
  rw [(hasTray_at hR a).1, (hasTray_at hR a).2, (hasHook_gen hR b).1, (hasHook_gen hR b).2, Option.bind_some, Option.bind_some, Option.bind_some, Option.bind_some, ite10, ite10, ite10, ite10]
  by_cases v : vl a nt
  · rw [if_pos v, if_pos v]
    by_cases w : vl b nh
    · rw [if_pos w, if_pos w]
      obtain ⟨t, ht, rfl⟩ := vl_nI v (by omega)
      obtain ⟨j, hj, rfl⟩ := vl_nI w (by omega)
      have it : inb (nI t) 6 = true := by rw [n_in (by omega)]; exact decide_eq_true (by omega)
      obtain ⟨k1, k2, -⟩ := hR.2.2.2.2.2.2.2.1 t ht
      simp only [it, if_true, n_cl (show t < 100000 by omega), ← k1]
      by_cases q : μ 13 t 1 = 0
      · rw [if_pos q, if_pos q]
        rcases compares_both hR hj with ⟨c1, c2, c3⟩ | ⟨c1, c2, c3⟩
        · rw [c2, c3, Option.bind_some, Option.bind_some, if_neg (by decide), if_neg (by decide)]
          obtain ⟨μ1, ν1, a1, a2, hR1, ht1, m1, m11, n1⟩ := begin_sim hR
          obtain ⟨ν2, b1, hR2, ht2, rr2, o2⟩ := load_sim hR1 ht1 ht
          obtain ⟨r1, s1, hl⟩ := hR2.row (show t < 6 by omega)
          obtain ⟨μ2, d1, d2, d3⟩ := copy_row (show 6 ≠ t by omega) r1
          have hR3 := hR2.scr (k := 6) (by decide) d2 OnlyRR.rf
          have hl40 := r1.1
          rw [a1, a2, Option.bind_some, Option.bind_some, b1, d1, Option.bind_some, Option.bind_some]
          unfold jX7_sortDraftAnew
          rw [d3.2.1, zl1]
          obtain ⟨res, μ3, ν3, e1, e2, e3⟩ := sort_outer (t := t) hj fuel fuel 1 (rows t) μ2 ν2 hR3 ht2 (isCmp_to (fun k => by rw [d2 11 k (by omega)]; exact m11 k) c1) d3 rr2 hl rfl (by omega) (by omega) (by have := fuel_ge; omega) (by have := fuel_ge; omega)
          rw [e1, e2, Option.bind_some]
          dsimp only
          rcases e3 with ⟨f1, f2, f3⟩ | ⟨f1, f2, f3, r, f4, f5, f6⟩
          · obtain ⟨ν4, g1, g2, g3, -⟩ := end_thr f3 f2 t
            rw [f1, g1, g2, Option.bind_some, Option.bind_some]
            exact ⟨_, _, _, rfl, rfl, nc, nh, nt, rows, g3⟩
          · obtain ⟨μ4, ν4, g1, g2, g3⟩ := end_ok f3 f2 ht f4 f5 f6
            rw [f1, g1, g2, Option.bind_some, Option.bind_some]
            exact ⟨_, _, _, rfl, rfl, nc, nh, nt, _, g3⟩
        · rw [c2, c3, Option.bind_some, Option.bind_some, if_pos rfl, if_pos rfl]
          exact ⟨_, _, _, rfl, rfl, h⟩
      · rw [if_neg q, if_neg q]
        exact ⟨_, _, _, rfl, rfl, h⟩
    · rw [if_neg w, if_neg w]
      exact ⟨_, _, _, rfl, rfl, h⟩
  · rw [if_neg v, if_neg v]
    exact ⟨_, _, _, rfl, rfl, h⟩
