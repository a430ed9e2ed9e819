/-! Rows of the class: what its methods do to the list that a row holds. -/
theorem drop_cons {l : List Int32} {i : Nat} {x : Int32} (h : l[i]? = some x) : l.drop i = x :: l.drop (i + 1) := by
  obtain ⟨hi, rfl⟩ := List.getElem?_eq_some_iff.mp h
  exact List.drop_eq_getElem_cons hi
theorem appendPart_L {k k1 : Nat} (hk : k ≠ k1) {l1 : List Int32} {to : Nat} (hto : to ≤ l1.length) (x2 : Int32) : ∀ (n : Nat) (μ : Mu) (l : List Int32) (i : Nat), RowIs μ k l → RowIs μ k1 l1 → i ≤ to → to - i < n → l.length + (to - i) ≤ 40 → ∃ μ', jX5_appendPart_L3 k k1 x2 (nI to) n μ (nI i) = some μ' ∧ OnlyRow k μ μ' ∧ RowIs μ' k (l ++ (l1.drop i).take (to - i)) := by
  intro n
  induction n with
  | zero => intro μ l i _ _ _ h; exact absurd h (Nat.not_lt_zero _)
  | succ n ih =>
    intro μ l i hr hr1 hi hn hl
    have hl1 := hr1.1
    rw [jX5_appendPart_L3]
    by_cases hq : i = to
    · subst hq
      rw [if_pos (by rw [n_le (by omega) (by omega)]; exact Nat.le_refl i)]
      refine ⟨μ, rfl, OnlyRow.rf, ?_⟩
      rw [Nat.sub_self, List.take_zero, List.append_nil]
      exact hr
    · have hlt : i < to := by omega
      rw [if_neg (by rw [n_le (by omega) (by omega)]; omega), cardAt_at hr1 i (by omega), Option.bind_some]
      obtain ⟨μ1, e1, o1, r1⟩ := append_row hr (by omega) (μ 15 k1 i)
      rw [e1, Option.bind_some, zl1, n_add]
      obtain ⟨μ2, e2, o2, r2⟩ := ih μ1 (l ++ [μ 15 k1 i]) (i + 1) r1 (o1.row (Ne.symm hk) hr1) (by omega) (by omega) (by simp; omega)
      refine ⟨μ2, e2, o1.tr o2, ?_⟩
      rw [drop_cons (hr1.2.2 i (by omega)), show to - i = (to - (i + 1)) + 1 by omega, List.take_succ_cons]
      rw [List.append_assoc] at r2
      exact r2
theorem appendPart_row {k k1 : Nat} (hk : k ≠ k1) {μ : Mu} {l l1 : List Int32} (hr : RowIs μ k l) (hr1 : RowIs μ k1 l1) (i to : Nat) (hi : i ≤ to) (hto : to ≤ l1.length) (hl : l.length + (to - i) ≤ 40) : ∃ μ', jX5_appendPart μ k k1 (nI i) (nI to) = some μ' ∧ OnlyRow k μ μ' ∧ RowIs μ' k (l ++ (l1.drop i).take (to - i)) := by
  have hl1 := hr1.1
  unfold jX5_appendPart
  exact appendPart_L hk hto _ fuel μ l i hr hr1 hi (by have := fuel_ge; omega) hl
theorem copy_row {k k1 : Nat} (hk : k ≠ k1) {μ : Mu} {l1 : List Int32} (hr1 : RowIs μ k1 l1) : ∃ μ', jX5_copy μ k k1 = some μ' ∧ OnlyRow k μ μ' ∧ RowIs μ' k l1 := by
  obtain ⟨μ1, e1, o1, r1⟩ := clear_row μ k
  have h1 := o1.row (Ne.symm hk) hr1
  have hl1 := hr1.1
  obtain ⟨μ2, e2, o2, r2⟩ := appendPart_row hk r1 h1 0 l1.length (Nat.zero_le _) (Nat.le_refl _) (by simp; omega)
  refine ⟨μ2, ?_, o1.tr o2, ?_⟩
  · unfold jX5_copy
    rw [e1, Option.bind_some, h1.2.1, zl0, e2, Option.bind_some]
  · rw [List.nil_append, List.drop_zero, Nat.sub_zero, List.take_length] at r2
    exact r2
theorem replace_row {μ : Mu} {k : Nat} {l : List Int32} (h : RowIs μ k l) (i : Nat) (hi : i < l.length) (c : Int32) : ∃ μ', jX5_replace μ k (nI i) c = some μ' ∧ OnlyRow k μ μ' ∧ RowIs μ' k (l.set i c) := by
  have h1 := h.1
  have hi2 : i < 40 := by omega
  unfold jX5_replace
  rw [hasPlace_at h i (by omega), if_pos hi, Option.bind_some]
  simp (disch := omega) only [zl0, zl1, zl2, zl3, zl4, zl6, zl8, zl12, zl40, zl99, zl120, zl1000, n_lt, n_le, n_eq, n_cl, n_in, n_add, n_sub, decide_eq_true_eq, Nat.not_lt_zero, Nat.zero_le, if_true, if_false, hi2, mst]
  refine ⟨_, rfl, fun c' k' q => mu_st_ne (fun z => q ⟨Or.inr z.1, z.2⟩), by simp; exact h1, ?_, ?_⟩
  · rw [mu_st_ne (by simp), List.length_set]
    exact h.2.1
  · intro j hj
    rw [List.length_set] at hj
    rw [mu_st_app, List.getElem?_set]
    by_cases hq : i = j
    · subst hq
      simp [hi]
    · rw [if_neg hq, if_neg (by simp; omega)]
      exact h.2.2 j hj
theorem swap_row {μ : Mu} {k : Nat} {l : List Int32} (h : RowIs μ k l) {i j : Nat} (hi : i < l.length) (hj : j < l.length) : ∃ μ', jX5_swap μ k (nI i) (nI j) = some μ' ∧ OnlyRow k μ μ' ∧ RowIs μ' k ((l.set i (μ 15 k j)).set j (μ 15 k i)) := by
  obtain ⟨μ1, e1, o1, r1⟩ := replace_row h i hi (μ 15 k j)
  obtain ⟨μ2, e2, o2, r2⟩ := replace_row r1 j (by simpa using hj) (μ 15 k i)
  refine ⟨μ2, ?_, o1.tr o2, r2⟩
  unfold jX5_swap
  rw [cardAt_at h i hi, Option.bind_some, cardAt_at h j hj, Option.bind_some, e1, Option.bind_some, e2, Option.bind_some]
/-- a card comes into a place -/
def insAt (l : List Int32) (p : Nat) (c : Int32) : List Int32 := l.take p ++ c :: l.drop p
theorem insAt_length (l : List Int32) (p : Nat) (c : Int32) (hp : p ≤ l.length) : (insAt l p c).length = l.length + 1 := by
  unfold insAt
  simp
  omega
theorem insAt_get (l : List Int32) (p : Nat) (c : Int32) (hp : p ≤ l.length) (j : Nat) : (insAt l p c)[j]? = if j < p then l[j]? else if j = p then some c else l[j - 1]? := by
  unfold insAt
  by_cases h1 : j < p
  · rw [if_pos h1, List.getElem?_append_left (by simp; omega), List.getElem?_take_of_lt h1]
  · rw [if_neg h1, List.getElem?_append_right (by simp; omega)]
    have hlen : (l.take p).length = p := by simp; omega
    rw [hlen]
    by_cases h2 : j = p
    · subst h2
      simp
    · rw [if_neg h2, show j - p = (j - p - 1) + 1 by omega, List.getElem?_cons_succ, List.getElem?_drop]
      congr 1
      omega
theorem insert_L {k : Nat} {l : List Int32} {c : Int32} {p : Nat} (hl : l.length < 40) (x2 : Int32) : ∀ (n : Nat) (μ : Mu) (i : Nat), RowIs μ k (insAt l i c) → p ≤ i → i ≤ l.length → i - p < n → ∃ μ', jX5_insert_L12 k (nI p) x2 n μ (nI i) = some μ' ∧ OnlyRow k μ μ' ∧ RowIs μ' k (insAt l p c) := by
  intro n
  induction n with
  | zero => intro μ i _ _ _ h; exact absurd h (Nat.not_lt_zero _)
  | succ n ih =>
    intro μ i hr hp hi hn
    rw [jX5_insert_L12]
    by_cases hq : i = p
    · subst hq
      rw [if_pos (by rw [n_le (by omega) (by omega)]; exact Nat.le_refl i)]
      exact ⟨μ, rfl, OnlyRow.rf, hr⟩
    · rw [if_neg (by rw [n_le (by omega) (by omega)]; omega), sb_m1 (by omega), zl1, n_sub (by omega)]
      have hlen := insAt_length l i c hi
      obtain ⟨μ1, e1, o1, r1⟩ := swap_row hr (i := i) (j := i - 1) (by omega) (by omega)
      rw [e1, Option.bind_some]
      have hci : μ 15 k i = c := by
        have := hr.2.2 i (by omega)
        rw [insAt_get l i c hi, if_neg (by omega), if_pos rfl] at this
        exact (Option.some.inj this).symm
      have hcl : l[i - 1]? = some (μ 15 k (i - 1)) := by
        have := hr.2.2 (i - 1) (by omega)
        rw [insAt_get l i c hi, if_pos (by omega)] at this
        exact this
      have hlist : ((insAt l i c).set i (μ 15 k (i - 1))).set (i - 1) (μ 15 k i) = insAt l (i - 1) c := by
        apply List.ext_getElem?
        intro j
        rw [List.getElem?_set, List.getElem?_set, insAt_get l i c hi, insAt_get l (i - 1) c (by omega), hci]
        simp only [List.length_set, hlen]
        by_cases h1 : i - 1 = j
        · subst h1
          rw [if_pos rfl, if_pos (by omega), if_neg (by omega), if_pos rfl]
        · rw [if_neg h1]
          by_cases h2 : i = j
          · subst h2
            rw [if_pos rfl, if_pos (by omega), if_neg (by omega), if_neg (by omega), ← hcl]
          · rw [if_neg h2]
            by_cases h3 : j < i - 1
            · rw [if_pos (by omega), if_pos h3]
            · rw [if_neg (by omega), if_neg (by omega), if_neg h3, if_neg (by omega)]
      rw [hlist] at r1
      obtain ⟨μ2, e2, o2, r2⟩ := ih μ1 (i - 1) r1 (by omega) (by omega) (by omega)
      exact ⟨μ2, e2, o1.tr o2, r2⟩
theorem insert_row {μ : Mu} {k : Nat} {l : List Int32} (h : RowIs μ k l) (hl : l.length < 40) (p : Nat) (hp : p ≤ l.length) (c : Int32) : ∃ μ', jX5_insert μ k (nI p) c = some μ' ∧ OnlyRow k μ μ' ∧ RowIs μ' k (insAt l p c) := by
  obtain ⟨μ1, e1, o1, r1⟩ := append_row h hl c
  have hz : μ1 14 k 1 - 1 = nI l.length := by
    rw [r1.2.1, zl1, n_sub (by simp)]
    simp
  have r1' : RowIs μ1 k (insAt l l.length c) := by
    unfold insAt
    simpa using r1
  obtain ⟨μ2, e2, o2, r2⟩ := insert_L (p := p) hl c fuel μ1 l.length r1' hp (Nat.le_refl _) (by have := fuel_ge; omega)
  refine ⟨μ2, ?_, o1.tr o2, r2⟩
  unfold jX5_insert
  rw [e1, Option.bind_some, hz]
  exact e2
theorem remove_L {k : Nat} {l : List Int32} {p : Nat} (hl : l.length ≤ 40) (hp : p < l.length) (x1 : Int32) : ∀ (n : Nat) (μ : Mu) (i : Nat), μ 14 k 1 = nI l.length → (∀ j, j < l.length → l[if p ≤ j ∧ j < i then j + 1 else j]? = some (μ 15 k j)) → p ≤ i → i ≤ l.length - 1 → l.length - i < n → ∃ μ', jX5_remove_L11 k x1 n μ (nI i) = some μ' ∧ OnlyRow k μ μ' ∧ RowIs μ' k (l.eraseIdx p) := by
  intro n
  induction n with
  | zero => intro μ i _ _ _ _ h; exact absurd h (Nat.not_lt_zero _)
  | succ n ih =>
    intro μ i hs hr hpi hi hn
    rw [jX5_remove_L11, hs, zl1, n_sub (by omega), n_add]
    by_cases hq : i = l.length - 1
    · rw [if_pos (by rw [n_le (by omega) (by omega)]; omega)]
      refine ⟨_, rfl, fun c' k' q => mu_st_ne (fun z => q ⟨Or.inl z.1, z.2⟩), ?_, ?_, ?_⟩
      · rw [List.length_eraseIdx_of_lt hp]; omega
      · rw [mu_st_app, List.length_eraseIdx_of_lt hp]
        simp
      · intro j hj
        rw [List.length_eraseIdx_of_lt hp] at hj
        rw [mu_st_ne (by simp), ← hr j (by omega), List.getElem?_eraseIdx]
        by_cases h1 : j < p
        · rw [if_pos h1, if_neg (by omega)]
        · rw [if_neg h1, if_pos (by omega)]
    · rw [if_neg (by rw [n_le (by omega) (by omega)]; omega), if_pos (by rw [n_in (by omega)]; exact decide_eq_true (by omega)), if_pos (by rw [n_in (by omega)]; exact decide_eq_true (by omega)), n_cl (by omega), n_cl (by omega)]
      unfold mst
      obtain ⟨μ2, e2, o2, r2⟩ := ih (mu_st μ 15 k i (μ 15 k (i + 1))) (i + 1) (by rw [mu_st_ne (by simp)]; exact hs) (fun j hj => by
        rw [mu_st_app]
        by_cases h1 : j = i
        · subst h1
          rw [if_pos (by omega), if_pos (by simp), ← hr (j + 1) (by omega), if_neg (by omega)]
        · rw [if_neg (show ¬ (15 = 15 ∧ k = k ∧ j = i) by simp [h1]), ← hr j hj]
          congr 1
          by_cases h2 : p ≤ j ∧ j < i
          · rw [if_pos h2, if_pos (by omega)]
          · rw [if_neg h2, if_neg (by omega)]) (by omega) (by omega) (by omega)
      refine ⟨μ2, e2, ?_, r2⟩
      exact OnlyRow.tr (fun c' k' q => mu_st_ne (fun z => q ⟨Or.inr z.1, z.2⟩)) o2
theorem remove_row {μ : Mu} {k : Nat} {l : List Int32} (h : RowIs μ k l) (p : Nat) (hp : p < l.length) : ∃ μ', jX5_remove μ k (nI p) = some μ' ∧ OnlyRow k μ μ' ∧ RowIs μ' k (l.eraseIdx p) := by
  have h1 := h.1
  obtain ⟨μ1, e1, o1, r1⟩ := remove_L (k := k) h.1 hp (nI p) fuel μ p h.2.1 (fun j hj => by rw [if_neg (by omega)]; exact h.2.2 j hj) (Nat.le_refl _) (by omega) (by have := fuel_ge; omega)
  refine ⟨μ1, ?_, o1, r1⟩
  unfold jX5_remove
  rw [hasPlace_at h p (by omega), if_pos hp, Option.bind_some, if_neg (by decide)]
  exact e1
