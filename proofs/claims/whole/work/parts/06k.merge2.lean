theorem drop_eq_of {r l : List Int32} {lo a : Nat} (h : r.drop lo = l.drop lo) (ha : lo ≤ a) : r.drop a = l.drop a := by
  have h1 : (r.drop lo).drop (a - lo) = (l.drop lo).drop (a - lo) := by rw [h]
  rw [List.drop_drop, List.drop_drop, show lo + (a - lo) = a by omega] at h1
  exact h1
theorem get_eq_of {r l : List Int32} {lo a : Nat} (h : r.drop lo = l.drop lo) (ha : lo ≤ a) : r[a]? = l[a]? := by
  have h1 := congrArg (fun z : List Int32 => z[a - lo]?) h
  simp only [List.getElem?_drop] at h1
  rw [show lo + (a - lo) = a by omega] at h1
  exact h1
/-- the end of a merging, when nothing threw -/
theorem merge_end {nc nh nt : Nat} {rows : Nat → List Int32} {h : Nat} {l r d0 g : List Int32} {lo mid hi a b : Nat} {μ ν : Mu} (hR : Rel nc nh nt rows 0 μ ν) (ht : ν 0 0 21 = 0) (h6 : RowIs μ 6 (d0 ++ g)) (h7 : RowIs μ 7 l) (hr : RowR ν r) (hlen : r.length = l.length) (hdr : r.drop lo = l.drop lo) (ho : OtherIs ν lo g) (h1 : lo ≤ a) (h2 : a ≤ mid) (h3 : mid ≤ b) (h4 : b ≤ hi) (h5 : hi ≤ l.length) (hg : g.length = (a - lo) + (b - mid)) (hd : d0.length = lo) : ∃ (μ' ν' : Mu) (g' : List Int32), (jX5_appendPart μ 6 7 (nI a) (nI mid)).bind (fun μ4 => (jX5_appendPart μ4 6 7 (nI b) (nI hi)).bind (fun μ6 => some ((1 : Int32), μ6))) = some (1, μ') ∧ jX8_merge_L115 (nI h) (nI lo) (nI mid) (nI hi) (nI b) fuel ν (nI a) (nI (lo + g.length)) = some ν' ∧ FrM μ μ' ν ν' ∧ ν' 0 0 21 = 0 ∧ Rel nc nh nt rows 0 μ' ν' ∧ RowIs μ' 6 (d0 ++ g') ∧ RowR ν' (r.take lo ++ g' ++ r.drop hi) ∧ g'.length = hi - lo ∧ (∀ x ∈ g', x ∈ g ∨ x ∈ l) := by
  have hl40 := h7.1
  have hdg := h6.1
  simp only [List.length_append] at hdg
  obtain ⟨μ1, e1, o1, r1⟩ := appendPart_row (show 6 ≠ 7 by decide) h6 h7 a mid h2 (by omega) (by simp; omega)
  obtain ⟨μ2, e2, o2, r2⟩ := appendPart_row (show 6 ≠ 7 by decide) r1 (o1.row (by decide) h7) b hi h4 h5 (by simp; omega)
  obtain ⟨ν1, f1, p1, q1, s1⟩ := m115_at (x1 := nI h) (x2 := nI lo) (x4 := nI hi) (b := b) (lo := lo) (show mid ≤ r.length by omega) (by omega) fuel a g ν ht hr ho h2 (by omega) (by have := fuel_ge; omega)
  have ht1 : ν1 0 0 21 = 0 := by rw [p1 0 0 21 (by omega)]; exact ht
  have hz : lo + g.length + (mid - a) = lo + (g ++ (r.drop a).take (mid - a)).length := by simp; omega
  rw [hz] at f1
  obtain ⟨ν2, f2, p2, q2, s2⟩ := m151_at (x1 := nI h) (x2 := nI lo) (x3 := nI mid) (x5 := nI mid) (lo := lo) (show hi ≤ r.length by omega) (by omega) fuel b _ ν1 ht1 q1 s1 h4 (by simp; omega) (by have := fuel_ge; omega)
  have ht2 : ν2 0 0 21 = 0 := by rw [p2 0 0 21 (by omega)]; exact ht1
  obtain ⟨ν3, f3, p3, q3⟩ := m191_at (x1 := nI h) (x2 := nI lo) (x3 := nI mid) (x5 := nI mid) (x6 := nI hi) (x7 := nI (lo + (g ++ (r.drop a).take (mid - a)).length + (hi - b))) (r := r) (g := g ++ (r.drop a).take (mid - a) ++ (r.drop b).take (hi - b)) (lo := lo) (hi := hi) (by omega) (by omega) (by omega) (by simp; omega) fuel lo ν2 ht2 q2.2.1 s2 (fun j hj => by rw [if_neg (by omega)]; exact q2.2.2 j hj) (Nat.le_refl _) (by omega) (by have := fuel_ge; omega)
  refine ⟨μ2, ν3, _, ?_, ?_, FrM.scr (o1.tr o2) ((p1.tr p2).tr p3), ?_, hR.scr2 (by decide) (o1.tr o2) ((p1.tr p2).tr p3), ?_, q3, ?_, ?_⟩
  · rw [e1, Option.bind_some, e2, Option.bind_some]
  · rw [f1, f2, f3]
  · rw [p3 0 0 21 (by omega)]; exact ht2
  · rw [drop_eq_of hdr h1, drop_eq_of hdr (show lo ≤ b by omega), ← List.append_assoc, ← List.append_assoc]
    exact r2
  · simp; omega
  · intro x hx
    rw [drop_eq_of hdr h1, drop_eq_of hdr (show lo ≤ b by omega)] at hx
    rcases List.mem_append.mp hx with hx | hx
    · rcases List.mem_append.mp hx with hx | hx
      · exact Or.inl hx
      · exact Or.inr (List.mem_of_mem_drop (List.mem_of_mem_take hx))
    · exact Or.inr (List.mem_of_mem_drop (List.mem_of_mem_take hx))
set_option maxHeartbeats 2000000 in
theorem merge_sim {nc nh nt : Nat} {rows : Nat → List Int32} {h : Nat} {l r d0 : List Int32} {lo mid hi : Nat} {x2 : Int32} (hh : h < nh) (hl : ∀ x ∈ l, isCd nc x) (hlen : r.length = l.length) (hdr : r.drop lo = l.drop lo) (h5 : hi ≤ l.length) (hd : d0.length = lo) : ∀ (n n' a b : Nat) (g : List Int32) (μ ν : Mu), Rel nc nh nt rows 0 μ ν → ν 0 0 21 = 0 → isCmp μ h → RowIs μ 6 (d0 ++ g) → RowIs μ 7 l → RowR ν r → OtherIs ν lo g → lo ≤ a → a ≤ mid → mid ≤ b → b ≤ hi → g.length = (a - lo) + (b - mid) → (∀ x ∈ g, x ∈ l) → (mid - a) + (hi - b) < n → (mid - a) + (hi - b) + 1 < n' → ∃ (res : Int32) (μ' ν' : Mu), jX5_appendMerged_L6 6 7 x2 (nI mid) (nI hi) (nI h) n μ (nI a) (nI b) = some (res, μ') ∧ jX8_merge_L9 (nI h) (nI lo) (nI mid) (nI hi) n' ν (nI a) (nI b) (nI (lo + g.length)) = some ν' ∧ FrM μ μ' ν ν' ∧ ((res = 0 ∧ ν' 0 0 21 = 1 ∧ Rel nc nh nt rows 1 μ' ν') ∨ (res = 1 ∧ ν' 0 0 21 = 0 ∧ Rel nc nh nt rows 0 μ' ν' ∧ ∃ g', RowIs μ' 6 (d0 ++ g') ∧ RowR ν' (r.take lo ++ g' ++ r.drop hi) ∧ g'.length = hi - lo ∧ ∀ x ∈ g', x ∈ l)) := by
  intro n
  induction n with
  | zero => intro n' a b g μ ν _ _ _ _ _ _ _ _ _ _ _ _ _ q; exact absurd q (Nat.not_lt_zero _)
  | succ n ih =>
    intro n' a b g μ ν hR ht hc h6 h7 hr ho h1 h2 h3 h4 hg hgl hn hn'
    have hl40 := h7.1
    obtain ⟨n', rfl⟩ : ∃ z, n' = z + 1 := ⟨n' - 1, by omega⟩
    rw [jX5_appendMerged_L6, jX8_merge_L9]
    have hfin : ∃ (μ' ν' : Mu) (g' : List Int32), (jX5_appendPart μ 6 7 (nI a) (nI mid)).bind (fun μ4 => (jX5_appendPart μ4 6 7 (nI b) (nI hi)).bind (fun μ6 => some ((1 : Int32), μ6))) = some (1, μ') ∧ jX8_merge_L115 (nI h) (nI lo) (nI mid) (nI hi) (nI b) fuel ν (nI a) (nI (lo + g.length)) = some ν' ∧ FrM μ μ' ν ν' ∧ ν' 0 0 21 = 0 ∧ Rel nc nh nt rows 0 μ' ν' ∧ RowIs μ' 6 (d0 ++ g') ∧ RowR ν' (r.take lo ++ g' ++ r.drop hi) ∧ g'.length = hi - lo ∧ (∀ x ∈ g', x ∈ g ∨ x ∈ l) := merge_end hR ht h6 h7 hr hlen hdr ho h1 h2 h3 h4 h5 hg hd
    by_cases q1 : a = mid
    · have e : nI mid ≤ nI a := by rw [n_le (by omega) (by omega)]; omega
      rw [if_pos e, if_pos e]
      obtain ⟨μ', ν', g', c1, c2, c3, c4, c5, c6, c7, c8, c9⟩ := hfin
      exact ⟨1, μ', ν', c1, c2, c3, Or.inr ⟨rfl, c4, c5, g', c6, c7, c8, fun x hx => (c9 x hx).elim (hgl x) id⟩⟩
    · have e : ¬ nI mid ≤ nI a := by rw [n_le (by omega) (by omega)]; omega
      rw [if_neg e, if_neg e]
      by_cases q2 : b = hi
      · have e : nI hi ≤ nI b := by rw [n_le (by omega) (by omega)]; omega
        rw [if_pos e, if_pos e]
        obtain ⟨μ', ν', g', c1, c2, c3, c4, c5, c6, c7, c8, c9⟩ := hfin
        exact ⟨1, μ', ν', c1, c2, c3, Or.inr ⟨rfl, c4, c5, g', c6, c7, c8, fun x hx => (c9 x hx).elim (hgl x) id⟩⟩
      · have e : ¬ nI hi ≤ nI b := by rw [n_le (by omega) (by omega)]; omega
        have ha : a < l.length := by omega
        have hb : b < l.length := by omega
        have ia : inb (nI a) 41 = true := by rw [n_in (by omega)]; exact decide_eq_true (by omega)
        have ib : inb (nI b) 41 = true := by rw [n_in (by omega)]; exact decide_eq_true (by omega)
        have im : inb (nI (lo + g.length)) 41 = true := by rw [n_in (by omega)]; exact decide_eq_true (by omega)
        rw [if_neg e, if_neg e, cardAt_at h7 b hb, Option.bind_some, cardAt_at h7 a ha, Option.bind_some, if_pos ht, if_pos ib, if_pos ia]
        simp only [ia, ib, im, if_true, n_cl (show a < 100000 by omega), n_cl (show b < 100000 by omega), n_cl (show lo + g.length < 100000 by omega)]
        have ea := h7.2.2 a ha
        have eb := h7.2.2 b hb
        have fa : μ 15 7 a = ν 27 0 a := Option.some.inj (ea.symm.trans ((get_eq_of hdr h1).symm.trans (hr.2.2 a (by omega))))
        have fb : μ 15 7 b = ν 27 0 b := Option.some.inj (eb.symm.trans ((get_eq_of hdr (show lo ≤ b by omega)).symm.trans (hr.2.2 b (by omega))))
        rw [← fa, ← fb]
        obtain ⟨an, μ', ah, ν', a1, a2, fr, hs⟩ := ask_sim hR ht hh hc (hl _ (List.mem_of_getElem? eb)) (hl _ (List.mem_of_getElem? ea))
        rw [a1, a2, Option.bind_some, Option.bind_some]
        dsimp only
        have h6' := fr.row h6
        have h7' := fr.row h7
        have hr' := fr.rowR hr
        have ho' : OtherIs ν' lo g := fun j hj => by rw [fr.2.2.1 28 (by omega)]; exact ho j hj
        have ga : μ' 15 7 a = ν' 27 0 a := by rw [fr.1 15 (by omega), fr.2.2.1 27 (by omega)]; exact fa
        have gb : μ' 15 7 b = ν' 27 0 b := by rw [fr.1 15 (by omega), fr.2.2.1 27 (by omega)]; exact fb
        have hdg := h6'.1
        simp only [List.length_append] at hdg
        rcases hs with ⟨s1, s2, s3, s4⟩ | ⟨s1, s2, s3, ⟨s4, s5⟩ | ⟨s4, s5, s6⟩⟩
        · rw [if_pos s1, if_pos s2]
          simp only [mst]
          rw [if_pos s2, if_pos s2]
          obtain ⟨n2, rfl⟩ : ∃ z, n' = z + 1 := ⟨n' - 1, by omega⟩
          rw [merge_thrown (by rw [mu_st_ne (by simp)]; exact s3)]
          exact ⟨_, _, _, rfl, rfl, (fr.fr.m).tr (FrM.scr OnlyRow.rf OnlyR2.s28), Or.inl ⟨rfl, by rw [mu_st_ne (by simp)]; exact s3, s4.scr2 (k := 6) (by decide) OnlyRow.rf OnlyR2.s28⟩⟩
        · rw [if_neg s1, if_neg (show ¬ 0 ≤ an from fun z => by rw [Int32.lt_iff_toInt_lt] at s4; rw [Int32.le_iff_toInt_le] at z; omega), if_neg (show ¬ ah = 0 by rw [s5]; decide)]
          simp only [mst]
          rw [if_neg (show ¬ ah = 0 by rw [s5]; decide), if_neg (show ¬ ah = 0 by rw [s5]; decide)]
          rw [cardAt_at h7' b hb, Option.bind_some]
          obtain ⟨μ2, b1, b2, b3⟩ := append_row h6' (by simp; omega) (μ' 15 7 b)
          rw [b1, Option.bind_some, ← gb, show nI a + 0 = nI a from Int32.add_zero _, zl1, n_add, n_add]
          have o2 : OnlyR2 ν' (mu_st ν' 28 0 (lo + g.length) (μ' 15 7 b)) := OnlyR2.s28
          have fr2 : FrM μ' μ2 ν' (mu_st ν' 28 0 (lo + g.length) (μ' 15 7 b)) := FrM.scr b2 o2
          rw [List.append_assoc] at b3
          obtain ⟨res, μ3, ν3, d1, d2, d3, d4⟩ := ih n' a (b + 1) (g ++ [μ' 15 7 b]) μ2 _ (s3.scr2 (by decide) b2 o2) (by rw [mu_st_ne (by simp)]; exact s2) (fr2.cmp (fr.cmp hc)) b3 (b2.row (by decide) h7') hr'.s28 (ho'.push _) h1 h2 (by omega) (by omega) (by simp; omega) (fun x hx => by
            rcases List.mem_append.mp hx with hx | hx
            · exact hgl x hx
            · rw [List.mem_singleton.mp hx]; exact List.mem_of_getElem? (h7'.2.2 b hb)) (by omega) (by omega)
          simp only [List.length_append, List.length_cons, List.length_nil] at d2
          refine ⟨res, μ3, ν3, d1, ?_, ((fr.fr.m).tr fr2).tr d3, d4⟩
          rw [show lo + g.length + 1 = lo + (g.length + (0 + 1)) by omega]
          exact d2
        · rw [if_neg s1, if_pos s5, if_pos s6]
          simp only [mst]
          rw [if_pos s6, if_pos s6]
          rw [cardAt_at h7' a ha, Option.bind_some]
          obtain ⟨μ2, b1, b2, b3⟩ := append_row h6' (by simp; omega) (μ' 15 7 a)
          rw [b1, Option.bind_some, ← ga, show nI b + 0 = nI b from Int32.add_zero _, zl1, n_add, n_add]
          have o2 : OnlyR2 ν' (mu_st ν' 28 0 (lo + g.length) (μ' 15 7 a)) := OnlyR2.s28
          have fr2 : FrM μ' μ2 ν' (mu_st ν' 28 0 (lo + g.length) (μ' 15 7 a)) := FrM.scr b2 o2
          rw [List.append_assoc] at b3
          obtain ⟨res, μ3, ν3, d1, d2, d3, d4⟩ := ih n' (a + 1) b (g ++ [μ' 15 7 a]) μ2 _ (s3.scr2 (by decide) b2 o2) (by rw [mu_st_ne (by simp)]; exact s2) (fr2.cmp (fr.cmp hc)) b3 (b2.row (by decide) h7') hr'.s28 (ho'.push _) (by omega) (by omega) h3 h4 (by simp; omega) (fun x hx => by
            rcases List.mem_append.mp hx with hx | hx
            · exact hgl x hx
            · rw [List.mem_singleton.mp hx]; exact List.mem_of_getElem? (h7'.2.2 a ha)) (by omega) (by omega)
          simp only [List.length_append, List.length_cons, List.length_nil] at d2
          refine ⟨res, μ3, ν3, d1, ?_, ((fr.fr.m).tr fr2).tr d3, d4⟩
          rw [show lo + g.length + 1 = lo + (g.length + (0 + 1)) by omega]
          exact d2
