/-! MERGED on both sides. -/
def OtherIs (ν : Mu) (lo : Nat) (g : List Int32) : Prop := ∀ j, j < g.length → g[j]? = some (ν 28 0 (lo + j))
/-- nothing but the reference's working rows is changed -/
def OnlyR2 (ν ν' : Mu) : Prop := ∀ c k j, ¬ (c = 27 ∨ c = 28 ∨ (c = 0 ∧ j = 26)) → ν' c k j = ν c k j
theorem OnlyR2.rf {ν : Mu} : OnlyR2 ν ν := fun _ _ _ _ => rfl
theorem OnlyR2.tr {ν ν1 ν2 : Mu} (h1 : OnlyR2 ν ν1) (h2 : OnlyR2 ν1 ν2) : OnlyR2 ν ν2 := fun c k j h => (h2 c k j h).trans (h1 c k j h)
theorem OnlyR2.s28 {ν : Mu} {i : Nat} {x : Int32} : OnlyR2 ν (mu_st ν 28 0 i x) := fun c k j h => by
  rw [mu_st_app, if_neg (fun q => h (Or.inr (Or.inl q.1)))]
theorem OnlyR2.s27 {ν : Mu} {i : Nat} {x : Int32} : OnlyR2 ν (mu_st ν 27 0 i x) := fun c k j h => by
  rw [mu_st_app, if_neg (fun q => h (Or.inl q.1))]
theorem OnlyRR.r2 {ν ν' : Mu} (h : OnlyRR ν ν') : OnlyR2 ν ν' := fun c k j q => h c k j (by omega)
theorem OnlyR2.kind {ν ν' : Mu} (h : OnlyR2 ν ν') {c : Nat} (hc : ¬ (c = 27 ∨ c = 28 ∨ c = 0)) : ν' c = ν c := by
  funext k j
  exact h c k j (by omega)
theorem Rel.scr2 {nc nh nt : Nat} {rows : Nat → List Int32} {b : Int32} {μ ν μ' ν' : Mu} (h : Rel nc nh nt rows b μ ν) {k : Nat} (hk : 6 ≤ k) (o : OnlyRow k μ μ') (o2 : OnlyR2 ν ν') : Rel nc nh nt rows b μ' ν' := by
  obtain ⟨hD, hH, ⟨np, hP⟩, hL, hT⟩ := h
  have m : ∀ c, c ≠ 14 → c ≠ 15 → μ' c = μ c := fun c h1 h2 => by funext k'; exact o c k' (by omega)
  have n0 : ∀ j, j ≠ 26 → ν' 0 0 j = ν 0 0 j := fun j hj => o2 0 0 j (by omega)
  have n : ∀ c, ¬ (c = 27 ∨ c = 28 ∨ c = 0) → ν' c = ν c := fun c hc => o2.kind hc
  refine ⟨hD.to (m 2 (by decide) (by decide)) (m 3 (by decide) (by decide)) (m 4 (by decide) (by decide)) (n0 0 (by decide)) (n 1 (by decide)) (n 2 (by decide)), hH.to (m 1 (by decide) (by decide)) (m 11 (by decide) (by decide)) (n0 3 (by decide)) (n 4 (by decide)) (n 5 (by decide)) (n 6 (by decide)) (n 7 (by decide)) (n 8 (by decide)), ⟨np, hP.to (m 5 (by decide) (by decide)) (m 6 (by decide) (by decide)) (m 7 (by decide) (by decide)) (m 8 (by decide) (by decide)) (n0 9 (by decide)) (n 10 (by decide)) (n 11 (by decide)) (n 12 (by decide)) (n 13 (by decide))⟩, hL.to (m 9 (by decide) (by decide)) (n0 19 (by decide)) (n0 20 (by decide)) (n0 22 (by decide)) (n0 23 (by decide)) (n0 24 (by decide)) (n0 25 (by decide)), hT.to (m 0 (by decide) (by decide)) (fun q => by rw [m 11 (by decide) (by decide)]) (m 13 (by decide) (by decide)) (fun t ht => o 14 t (by omega)) (fun t ht => o 15 t (by omega)) (n0 14 (by decide)) (n 15 (by decide)) (n 16 (by decide)) (n 17 (by decide)) (n 18 (by decide))⟩
/-- what merging leaves as it was -/
def FrM (μ μ' ν ν' : Mu) : Prop := (∀ k', k' ≠ 6 → μ' 14 k' = μ 14 k' ∧ μ' 15 k' = μ 15 k') ∧ μ' 13 = μ 13 ∧ (∀ h, μ' 11 h 0 = μ 11 h 0) ∧ ν' 15 = ν 15 ∧ ν' 16 = ν 16 ∧ ν' 17 = ν 17 ∧ ν' 18 = ν 18
theorem FrM.rf {μ ν : Mu} : FrM μ μ ν ν := ⟨fun _ _ => ⟨rfl, rfl⟩, rfl, fun _ => rfl, rfl, rfl, rfl, rfl⟩
theorem FrM.tr {μ μ1 μ2 ν ν1 ν2 : Mu} (h1 : FrM μ μ1 ν ν1) (h2 : FrM μ1 μ2 ν1 ν2) : FrM μ μ2 ν ν2 := by
  obtain ⟨a1, a2, a3, a5, a6, a7, a8⟩ := h1
  obtain ⟨b1, b2, b3, b5, b6, b7, b8⟩ := h2
  exact ⟨fun c hc => ⟨(b1 c hc).1.trans (a1 c hc).1, (b1 c hc).2.trans (a1 c hc).2⟩, b2.trans a2, fun h => (b3 h).trans (a3 h), b5.trans a5, b6.trans a6, b7.trans a7, b8.trans a8⟩
theorem Fr.m {μ μ' ν ν' : Mu} (h : Fr 6 μ μ' ν ν') : FrM μ μ' ν ν' := ⟨h.1, h.2.1, h.2.2.1, h.2.2.2.2.1, h.2.2.2.2.2.1, h.2.2.2.2.2.2.1, h.2.2.2.2.2.2.2⟩
theorem FrM.scr {μ μ' ν ν' : Mu} (h : OnlyRow 6 μ μ') (h2 : OnlyR2 ν ν') : FrM μ μ' ν ν' := ⟨fun k' hk => ⟨h 14 k' (by omega), h 15 k' (by omega)⟩, by funext k'; exact h 13 k' (by omega), fun q => by rw [h 11 q (by omega)], h2.kind (by omega), h2.kind (by omega), h2.kind (by omega), h2.kind (by omega)⟩
theorem FrM.row {k' : Nat} {μ μ' ν ν' : Mu} (h : FrM μ μ' ν ν') (hk : k' ≠ 6) {l : List Int32} (hr : RowIs μ k' l) : RowIs μ' k' l := by
  unfold RowIs
  rw [(h.1 k' hk).1, (h.1 k' hk).2]
  exact hr
theorem FrM.cmp {μ μ' ν ν' : Mu} (h : FrM μ μ' ν ν') {q : Nat} (hc : isCmp μ q) : isCmp μ' q := isCmp_to h.2.2.1 hc
theorem OtherIs.push {ν : Mu} {lo : Nat} {g : List Int32} (h : OtherIs ν lo g) (x : Int32) : OtherIs (mu_st ν 28 0 (lo + g.length) x) lo (g ++ [x]) := by
  intro j hj
  simp only [List.length_append, List.length_cons, List.length_nil] at hj
  rw [mu_st_app]
  by_cases q : j = g.length
  · subst q
    simp
  · rw [if_neg (by simp; omega), List.getElem?_append_left (by omega)]
    exact h j (by omega)
theorem RowR.s28 {ν : Mu} {i : Nat} {x : Int32} {r : List Int32} (h : RowR ν r) : RowR (mu_st ν 28 0 i x) r := ⟨h.1, by rw [mu_st_ne (by simp)]; exact h.2.1, fun j hj => by rw [mu_st_ne (by simp)]; exact h.2.2 j hj⟩
theorem m115_at {r : List Int32} {lo mid b : Nat} {x1 x2 x4 : Int32} (hmid : mid ≤ r.length) (hr41 : r.length ≤ 40) : ∀ (n a : Nat) (g : List Int32) (ν : Mu), ν 0 0 21 = 0 → RowR ν r → OtherIs ν lo g → a ≤ mid → lo + g.length + (mid - a) ≤ 40 → mid - a < n → ∃ ν', jX8_merge_L115 x1 x2 (nI mid) x4 (nI b) n ν (nI a) (nI (lo + g.length)) = jX8_merge_L151 x1 x2 (nI mid) x4 (nI mid) fuel ν' (nI b) (nI (lo + g.length + (mid - a))) ∧ OnlyR2 ν ν' ∧ RowR ν' r ∧ OtherIs ν' lo (g ++ (r.drop a).take (mid - a)) := by
  intro n
  induction n with
  | zero => intro a g ν _ _ _ _ _ q; exact absurd q (Nat.not_lt_zero _)
  | succ n ih =>
    intro a g ν ht hr ho ha hs hn
    rw [jX8_merge_L115]
    by_cases hq : a = mid
    · subst hq
      rw [if_pos (by rw [n_le (by omega) (by omega)]; omega), Nat.sub_self, Nat.add_zero, List.take_zero, List.append_nil]
      exact ⟨ν, rfl, OnlyR2.rf, hr, ho⟩
    · rw [if_neg (by rw [n_le (by omega) (by omega)]; omega), if_pos ht, if_pos (by rw [n_in (by omega)]; exact decide_eq_true (by omega)), if_pos (by rw [n_in (by omega)]; exact decide_eq_true (by omega)), n_cl (by omega), n_cl (by omega), zl1, n_add, n_add]
      simp only [mst]
      have h1 := ho.push (ν 27 0 a)
      obtain ⟨ν2, e2, o2, r2, q2⟩ := ih (a + 1) (g ++ [ν 27 0 a]) (mu_st ν 28 0 (lo + g.length) (ν 27 0 a)) (by rw [mu_st_ne (by simp)]; exact ht) hr.s28 h1 (by omega) (by simp; omega) (by omega)
      simp only [List.length_append, List.length_cons, List.length_nil] at e2
      refine ⟨ν2, ?_, OnlyR2.s28.tr o2, r2, ?_⟩
      · rw [show lo + g.length + 1 = lo + (g.length + (0 + 1)) by omega, e2, show lo + (g.length + (0 + 1)) + (mid - (a + 1)) = lo + g.length + (mid - a) by omega]
      · rw [drop_cons (hr.2.2 a (by omega)), show mid - a = (mid - (a + 1)) + 1 by omega, List.take_succ_cons]
        rw [List.append_assoc] at q2
        exact q2
theorem m151_at {r : List Int32} {lo hi : Nat} {x1 x2 x3 x5 : Int32} (hhi : hi ≤ r.length) (hr41 : r.length ≤ 40) : ∀ (n b : Nat) (g : List Int32) (ν : Mu), ν 0 0 21 = 0 → RowR ν r → OtherIs ν lo g → b ≤ hi → lo + g.length + (hi - b) ≤ 40 → hi - b < n → ∃ ν', jX8_merge_L151 x1 x2 x3 (nI hi) x5 n ν (nI b) (nI (lo + g.length)) = jX8_merge_L191 x1 x2 x3 (nI hi) x5 (nI hi) (nI (lo + g.length + (hi - b))) fuel ν' x2 ∧ OnlyR2 ν ν' ∧ RowR ν' r ∧ OtherIs ν' lo (g ++ (r.drop b).take (hi - b)) := by
  intro n
  induction n with
  | zero => intro a g ν _ _ _ _ _ q; exact absurd q (Nat.not_lt_zero _)
  | succ n ih =>
    intro a g ν ht hr ho ha hs hn
    rw [jX8_merge_L151]
    by_cases hq : a = hi
    · subst hq
      rw [if_pos (by rw [n_le (by omega) (by omega)]; omega), Nat.sub_self, Nat.add_zero, List.take_zero, List.append_nil]
      exact ⟨ν, rfl, OnlyR2.rf, hr, ho⟩
    · rw [if_neg (by rw [n_le (by omega) (by omega)]; omega), if_pos ht, if_pos (by rw [n_in (by omega)]; exact decide_eq_true (by omega)), if_pos (by rw [n_in (by omega)]; exact decide_eq_true (by omega)), n_cl (by omega), n_cl (by omega), zl1, n_add, n_add]
      simp only [mst]
      have h1 := ho.push (ν 27 0 a)
      obtain ⟨ν2, e2, o2, r2, q2⟩ := ih (a + 1) (g ++ [ν 27 0 a]) (mu_st ν 28 0 (lo + g.length) (ν 27 0 a)) (by rw [mu_st_ne (by simp)]; exact ht) hr.s28 h1 (by omega) (by simp; omega) (by omega)
      simp only [List.length_append, List.length_cons, List.length_nil] at e2
      refine ⟨ν2, ?_, OnlyR2.s28.tr o2, r2, ?_⟩
      · rw [show lo + g.length + 1 = lo + (g.length + (0 + 1)) by omega, e2, show lo + (g.length + (0 + 1)) + (hi - (a + 1)) = lo + g.length + (hi - a) by omega]
      · rw [drop_cons (hr.2.2 a (by omega)), show hi - a = (hi - (a + 1)) + 1 by omega, List.take_succ_cons]
        rw [List.append_assoc] at q2
        exact q2
theorem m191_at {r g : List Int32} {lo hi : Nat} {x1 x2 x3 x5 x6 x7 : Int32} (hlo : lo ≤ hi) (hhi : hi ≤ r.length) (hr41 : r.length ≤ 40) (hg : g.length = hi - lo) : ∀ (n i : Nat) (ν : Mu), ν 0 0 21 = 0 → ν 0 0 26 = nI r.length → OtherIs ν lo g → (∀ j, j < r.length → (if lo ≤ j ∧ j < i then g[j - lo]? else r[j]?) = some (ν 27 0 j)) → lo ≤ i → i ≤ hi → hi - i < n → ∃ ν', jX8_merge_L191 x1 x2 x3 (nI hi) x5 x6 x7 n ν (nI i) = some ν' ∧ OnlyR2 ν ν' ∧ RowR ν' (r.take lo ++ g ++ r.drop hi) := by
  intro n
  induction n with
  | zero => intro i ν _ _ _ _ _ _ q; exact absurd q (Nat.not_lt_zero _)
  | succ n ih =>
    intro i ν ht hs ho hr hli hi' hn
    rw [jX8_merge_L191]
    by_cases hq : i = hi
    · subst hq
      rw [if_pos (by rw [n_le (by omega) (by omega)]; omega)]
      have hlen : (r.take lo ++ g ++ r.drop i).length = r.length := by simp; omega
      refine ⟨ν, rfl, OnlyR2.rf, by omega, by rw [hlen]; exact hs, fun j hj => ?_⟩
      rw [hlen] at hj
      rw [← hr j hj]
      have hl1 : (r.take lo).length = lo := by simp; omega
      have hl2 : (r.take lo ++ g).length = i := by simp; omega
      by_cases q1 : j < lo
      · rw [if_neg (by omega), List.append_assoc, List.getElem?_append_left (by omega), List.getElem?_take_of_lt q1]
      · by_cases q2 : j < i
        · rw [if_pos (by omega), List.getElem?_append_left (by omega), List.getElem?_append_right (by omega), hl1]
        · rw [if_neg (by omega), List.getElem?_append_right (by omega), hl2, List.getElem?_drop]
          congr 1
          omega
    · rw [if_neg (by rw [n_le (by omega) (by omega)]; omega), if_pos ht, if_pos (by rw [n_in (by omega)]; exact decide_eq_true (by omega)), if_pos (by rw [n_in (by omega)]; exact decide_eq_true (by omega)), n_cl (by omega), zl1, n_add]
      simp only [mst]
      obtain ⟨ν2, e2, o2, r2⟩ := ih (i + 1) (mu_st ν 27 0 i (ν 28 0 i)) (by rw [mu_st_ne (by simp)]; exact ht) (by rw [mu_st_ne (by simp)]; exact hs) (fun j hj => by rw [mu_st_ne (by simp)]; exact ho j hj) (fun j hj => by
        rw [mu_st_app]
        by_cases q : j = i
        · subst q
          rw [if_pos (by omega), if_pos (by simp), ho (j - lo) (by omega), show lo + (j - lo) = j by omega]
        · rw [if_neg (show ¬ (27 = 27 ∧ 0 = 0 ∧ j = i) by simp [q]), ← hr j hj]
          by_cases q2 : lo ≤ j ∧ j < i
          · rw [if_pos q2, if_pos (by omega)]
          · rw [if_neg q2, if_neg (by omega)]) (by omega) (by omega) (by omega)
      exact ⟨ν2, e2, OnlyR2.s27.tr o2, r2⟩
theorem merge_thrown {x1 x2 x3 x4 a b m : Int32} {ν : Mu} (ht : ν 0 0 21 = 1) (n : Nat) : jX8_merge_L9 x1 x2 x3 x4 (n + 1) ν a b m = some ν := by
  have h0 : ¬ ν 0 0 21 = 0 := by rw [ht]; decide
  have h191 : ∀ (x5 x6 x7 z : Int32), jX8_merge_L191 x1 x2 x3 x4 x5 x6 x7 fuel ν z = some ν := by
    intro x5 x6 x7 z
    rw [fuel_s, jX8_merge_L191, if_neg h0]
    by_cases q : x4 ≤ z
    · rw [if_pos q]
    · rw [if_neg q]
  have h151 : ∀ (x5 x6 x7 : Int32), jX8_merge_L151 x1 x2 x3 x4 x5 fuel ν x6 x7 = some ν := by
    intro x5 x6 x7
    rw [fuel_s, jX8_merge_L151, if_neg h0, h191]
    by_cases q : x4 ≤ x6
    · rw [if_pos q]
    · rw [if_neg q]
  have h115 : ∀ (x5 x6 x7 : Int32), jX8_merge_L115 x1 x2 x3 x4 x6 fuel ν x5 x7 = some ν := by
    intro x5 x6 x7
    rw [fuel_s, jX8_merge_L115, if_neg h0, h151]
    by_cases q : x3 ≤ x5
    · rw [if_pos q]
    · rw [if_neg q]
  rw [jX8_merge_L9, if_neg h0, h115]
  by_cases q : x3 ≤ a
  · rw [if_pos q]
  · rw [if_neg q]
    by_cases q2 : x4 ≤ b
    · rw [if_pos q2]
    · rw [if_neg q2]
