/-! The reference's rows: its working row, and what it holds. -/
def RowR (ν : Mu) (l : List Int32) : Prop := l.length ≤ 41 ∧ ν 0 0 26 = nI l.length ∧ ∀ i, i < l.length → l[i]? = some (ν 27 0 i)
def HeldIs (ν : Mu) (t : Nat) (l : List Int32) : Prop := l.length ≤ 40 ∧ ν 17 0 t = nI l.length ∧ ∀ i, i < l.length → l[i]? = some (ν 18 0 (40 * t + i))
/-- nothing but the working row and its size is changed -/
def OnlyRR (ν ν' : Mu) : Prop := ∀ c k j, ¬ (c = 27 ∨ (c = 0 ∧ j = 26)) → ν' c k j = ν c k j
theorem OnlyRR.rf {ν : Mu} : OnlyRR ν ν := fun _ _ _ _ => rfl
theorem OnlyRR.tr {ν ν1 ν2 : Mu} (h1 : OnlyRR ν ν1) (h2 : OnlyRR ν1 ν2) : OnlyRR ν ν2 := fun c k j h => (h2 c k j h).trans (h1 c k j h)
theorem OnlyRR.s26 {ν : Mu} {x : Int32} : OnlyRR ν (mu_st ν 0 0 26 x) := fun c k j h => by
  rw [mu_st_app, if_neg (fun q => h (Or.inr ⟨q.1, q.2.2⟩))]
theorem OnlyRR.s27 {ν : Mu} {i : Nat} {x : Int32} : OnlyRR ν (mu_st ν 27 0 i x) := fun c k j h => by
  rw [mu_st_app, if_neg (fun q => h (Or.inl q.1))]
theorem OnlyRR.held {ν ν' : Mu} (h : OnlyRR ν ν') {t : Nat} {l : List Int32} (hh : HeldIs ν t l) : HeldIs ν' t l := by
  refine ⟨hh.1, ?_, fun i hi => ?_⟩
  · rw [h 17 0 t (by simp)]; exact hh.2.1
  · rw [h 18 0 (40 * t + i) (by simp)]; exact hh.2.2 i hi
theorem load_L {t : Nat} (ht : t < 6) {l : List Int32} : ∀ (n : Nat) (ν : Mu) (i : Nat), HeldIs ν t l → ν 0 0 26 = nI l.length → (∀ j, j < i → l[j]? = some (ν 27 0 j)) → i ≤ l.length → l.length - i < n → ∃ ν', jX8_load_L12 (nI t) n ν (nI i) = some ν' ∧ OnlyRR ν ν' ∧ RowR ν' l := by
  intro n
  induction n with
  | zero => intro ν i _ _ _ _ h; exact absurd h (Nat.not_lt_zero _)
  | succ n ih =>
    intro ν i hh hs hr hi hn
    have hl := hh.1
    rw [jX8_load_L12, hs]
    by_cases hq : i = l.length
    · rw [if_pos (by rw [n_le (by omega) (by omega)]; omega)]
      exact ⟨ν, rfl, OnlyRR.rf, by omega, hs, fun j hj => hr j (by omega)⟩
    · rw [if_neg (by rw [n_le (by omega) (by omega)]; omega), zl40, pk_mul, n_add, if_pos (by rw [n_in (by omega)]; exact decide_eq_true (by omega)), if_pos (by rw [n_in (by omega)]; exact decide_eq_true (by omega)), n_cl (by omega), n_cl (by omega), zl1, n_add]
      unfold mst
      obtain ⟨ν2, e2, o2, r2⟩ := ih (mu_st ν 27 0 i (ν 18 0 (40 * t + i))) (i + 1) (OnlyRR.s27.held hh) (by rw [mu_st_ne (by simp)]; exact hs) (fun j hj => by
        rw [mu_st_app]
        by_cases h1 : j = i
        · subst h1
          rw [if_pos (by simp)]
          exact hh.2.2 j (by omega)
        · rw [if_neg (by simp [h1])]
          exact hr j (by omega)) (by omega) (by omega)
      exact ⟨ν2, e2, OnlyRR.s27.tr o2, r2⟩
theorem load_row {ν : Mu} {t : Nat} (ht : t < 6) {l : List Int32} (hh : HeldIs ν t l) : ∃ ν', jX8_load ν (nI t) = some ν' ∧ OnlyRR ν ν' ∧ RowR ν' l := by
  have hl := hh.1
  unfold jX8_load
  rw [if_pos (by rw [n_in (by omega)]; exact decide_eq_true (by omega)), n_cl (by omega), hh.2.1]
  unfold mst
  obtain ⟨ν2, e2, o2, r2⟩ := load_L ht fuel (mu_st ν 0 0 26 (nI l.length)) 0 (OnlyRR.s26.held hh) (by rw [mu_st_app]; simp) (fun j hj => absurd hj (Nat.not_lt_zero _)) (Nat.zero_le _) (by have := fuel_ge; omega)
  exact ⟨ν2, e2, OnlyRR.s26.tr o2, r2⟩
/-- nothing but what one tray holds is changed -/
def OnlyHeld (t : Nat) (ν ν' : Mu) : Prop := ∀ c k j, ¬ ((c = 17 ∧ j = t) ∨ (c = 18 ∧ 40 * t ≤ j ∧ j < 40 * t + 40)) → ν' c k j = ν c k j
theorem OnlyHeld.tr {t : Nat} {ν ν1 ν2 : Mu} (h1 : OnlyHeld t ν ν1) (h2 : OnlyHeld t ν1 ν2) : OnlyHeld t ν ν2 := fun c k j h => (h2 c k j h).trans (h1 c k j h)
theorem OnlyHeld.held {t t' : Nat} {ν ν' : Mu} (h : OnlyHeld t ν ν') (hne : t' ≠ t) {l : List Int32} (hh : HeldIs ν t' l) : HeldIs ν' t' l := by
  have hl := hh.1
  refine ⟨hh.1, ?_, fun i hi => ?_⟩
  · rw [h 17 0 t' (by simp [hne])]; exact hh.2.1
  · rw [h 18 0 (40 * t' + i) (by simp; omega)]; exact hh.2.2 i hi
theorem give_L {t : Nat} (ht : t < 6) {l : List Int32} (hl : l.length ≤ 40) : ∀ (n : Nat) (ν : Mu) (i : Nat), RowR ν l → ν 17 0 t = nI l.length → (∀ j, j < i → l[j]? = some (ν 18 0 (40 * t + j))) → i ≤ l.length → l.length - i < n → ∃ ν', jX8_give_L12 (nI t) n ν (nI i) = some ν' ∧ OnlyHeld t ν ν' ∧ HeldIs ν' t l := by
  intro n
  induction n with
  | zero => intro ν i _ _ _ _ h; exact absurd h (Nat.not_lt_zero _)
  | succ n ih =>
    intro ν i hh hs hr hi hn
    rw [jX8_give_L12, hh.2.1]
    by_cases hq : i = l.length
    · rw [if_pos (by rw [n_le (by omega) (by omega)]; omega)]
      exact ⟨ν, rfl, fun _ _ _ _ => rfl, hl, hs, fun j hj => hr j (by omega)⟩
    · rw [if_neg (by rw [n_le (by omega) (by omega)]; omega), zl40, pk_mul, n_add, if_pos (by rw [n_in (by omega)]; exact decide_eq_true (by omega)), if_pos (by rw [n_in (by omega)]; exact decide_eq_true (by omega)), n_cl (by omega), n_cl (by omega), zl1, n_add]
      unfold mst
      have o1 : OnlyHeld t ν (mu_st ν 18 0 (40 * t + i) (ν 27 0 i)) := fun c k j h => by
        rw [mu_st_app, if_neg (fun q => h (Or.inr ⟨q.1, by omega, by omega⟩))]
      obtain ⟨ν2, e2, o2, r2⟩ := ih (mu_st ν 18 0 (40 * t + i) (ν 27 0 i)) (i + 1) ⟨hh.1, by rw [mu_st_ne (by simp)]; exact hh.2.1, fun j hj => by rw [mu_st_ne (by simp)]; exact hh.2.2 j hj⟩ (by rw [mu_st_ne (by simp)]; exact hs) (fun j hj => by
        rw [mu_st_app]
        by_cases h1 : j = i
        · subst h1
          rw [if_pos (by simp)]
          exact hh.2.2 j (by omega)
        · rw [if_neg (by simp [h1])]
          exact hr j (by omega)) (by omega) (by omega)
      exact ⟨ν2, e2, o1.tr o2, r2⟩
theorem give_row {ν : Mu} {t : Nat} (ht : t < 6) {l : List Int32} (hl : l.length ≤ 40) (hh : RowR ν l) : ∃ ν', jX8_give ν (nI t) = some ν' ∧ OnlyHeld t ν ν' ∧ HeldIs ν' t l := by
  unfold jX8_give
  rw [if_pos (by rw [n_in (by omega)]; exact decide_eq_true (by omega)), n_cl (by omega), hh.2.1]
  unfold mst
  have o1 : OnlyHeld t ν (mu_st ν 17 0 t (nI l.length)) := fun c k j h => by
    rw [mu_st_app, if_neg (fun q => h (Or.inl ⟨q.1, q.2.2⟩))]
  obtain ⟨ν2, e2, o2, r2⟩ := give_L ht hl fuel (mu_st ν 17 0 t (nI l.length)) 0 ⟨hh.1, by rw [mu_st_ne (by simp)]; exact hh.2.1, fun j hj => by rw [mu_st_ne (by simp)]; exact hh.2.2 j hj⟩ (by rw [mu_st_app]; simp) (fun j hj => absurd hj (Nat.not_lt_zero _)) (Nat.zero_le _) (by have := fuel_ge; omega)
  exact ⟨ν2, e2, o1.tr o2, r2⟩
theorem insertR_L {l : List Int32} {c : Int32} {p : Nat} (hl : l.length ≤ 40) (hp : p ≤ l.length) : ∀ (n : Nat) (ν : Mu) (i : Nat), ν 0 0 26 = nI l.length → (∀ j, j < i → l[j]? = some (ν 27 0 j)) → (∀ j, i < j → j ≤ l.length → l[j - 1]? = some (ν 27 0 j)) → p ≤ i → i ≤ l.length → i - p < n → ∃ ν', jX8_insert_L5 (nI p) c n ν (nI i) = some ν' ∧ OnlyRR ν ν' ∧ RowR ν' (insAt l p c) := by
  intro n
  induction n with
  | zero => intro ν i _ _ _ _ _ h; exact absurd h (Nat.not_lt_zero _)
  | succ n ih =>
    intro ν i hs h1 h2 hpi hi hn
    rw [jX8_insert_L5]
    by_cases hq : i = p
    · subst hq
      rw [if_pos (by rw [n_le (by omega) (by omega)]; exact Nat.le_refl i), if_pos (by rw [n_in (by omega)]; exact decide_eq_true (by omega)), n_cl (by omega)]
      unfold mst
      refine ⟨_, rfl, OnlyRR.s27.tr OnlyRR.s26, ?_, ?_, ?_⟩
      · rw [insAt_length l i c hi]; omega
      · rw [mu_st_app, insAt_length l i c hi]
        simp [mu_st_app, hs, zl1, n_add]
      · intro j hj
        rw [insAt_length l i c hi] at hj
        rw [mu_st_ne (by simp), mu_st_app, insAt_get l i c hi]
        by_cases q1 : j < i
        · rw [if_pos q1, if_neg (by omega)]
          exact h1 j q1
        · by_cases q2 : j = i
          · subst q2
            simp
          · rw [if_neg q1, if_neg q2, if_neg (by simp [q2])]
            exact h2 j (by omega) (by omega)
    · rw [if_neg (by rw [n_le (by omega) (by omega)]; omega), sb_m1 (by omega), zl1, n_sub (by omega), if_pos (by rw [n_in (by omega)]; exact decide_eq_true (by omega)), if_pos (by rw [n_in (by omega)]; exact decide_eq_true (by omega)), n_cl (by omega), n_cl (by omega)]
      unfold mst
      obtain ⟨ν2, e2, o2, r2⟩ := ih (mu_st ν 27 0 i (ν 27 0 (i - 1))) (i - 1) (by rw [mu_st_ne (by simp)]; exact hs) (fun j hj => by
        rw [mu_st_app, if_neg (by simp; omega)]
        exact h1 j (by omega)) (fun j hj hj2 => by
        rw [mu_st_app]
        by_cases q : j = i
        · subst q
          rw [if_pos (by simp)]
          exact h1 (j - 1) (by omega)
        · rw [if_neg (by simp [q])]
          exact h2 j (by omega) hj2) (by omega) (by omega) (by omega)
      exact ⟨ν2, e2, OnlyRR.s27.tr o2, r2⟩
theorem insertR_row {ν : Mu} {l : List Int32} (h : RowR ν l) (hl : l.length ≤ 40) (p : Nat) (hp : p ≤ l.length) (c : Int32) : ∃ ν', jX8_insert ν (nI p) c = some ν' ∧ OnlyRR ν ν' ∧ RowR ν' (insAt l p c) := by
  unfold jX8_insert
  rw [h.2.1]
  exact insertR_L hl hp fuel ν l.length h.2.1 (fun j hj => h.2.2 j hj) (fun j h1 h2 => absurd h1 (by omega)) hp (Nat.le_refl _) (by have := fuel_ge; omega)
theorem removeR_L {l : List Int32} {p : Nat} (hl : l.length ≤ 40) (hp : p < l.length) (x1 : Int32) : ∀ (n : Nat) (ν : Mu) (i : Nat), ν 0 0 26 = nI (l.length - 1) → (∀ j, j < l.length → l[if p ≤ j ∧ j < i then j + 1 else j]? = some (ν 27 0 j)) → p ≤ i → i ≤ l.length - 1 → l.length - i < n → ∃ ν', jX8_remove_L12 x1 n ν (nI i) = some ν' ∧ OnlyRR ν ν' ∧ RowR ν' (l.eraseIdx p) := by
  intro n
  induction n with
  | zero => intro ν i _ _ _ _ h; exact absurd h (Nat.not_lt_zero _)
  | succ n ih =>
    intro ν i hs hr hpi hi hn
    rw [jX8_remove_L12, hs, zl1, n_add]
    by_cases hq : i = l.length - 1
    · rw [if_pos (by rw [n_le (by omega) (by omega)]; omega)]
      refine ⟨_, rfl, OnlyRR.rf, ?_, ?_, ?_⟩
      · rw [List.length_eraseIdx_of_lt hp]; omega
      · rw [List.length_eraseIdx_of_lt hp]; exact hs
      · intro j hj
        rw [List.length_eraseIdx_of_lt hp] at hj
        rw [← hr j (by omega), List.getElem?_eraseIdx]
        by_cases h1 : j < p
        · rw [if_pos h1, if_neg (by omega)]
        · rw [if_neg h1, if_pos (by omega)]
    · rw [if_neg (by rw [n_le (by omega) (by omega)]; omega), if_pos (by rw [n_in (by omega)]; exact decide_eq_true (by omega)), if_pos (by rw [n_in (by omega)]; exact decide_eq_true (by omega)), n_cl (by omega), n_cl (by omega)]
      unfold mst
      obtain ⟨ν2, e2, o2, r2⟩ := ih (mu_st ν 27 0 i (ν 27 0 (i + 1))) (i + 1) (by rw [mu_st_ne (by simp)]; exact hs) (fun j hj => by
        rw [mu_st_app]
        by_cases h1 : j = i
        · subst h1
          rw [if_pos (by omega), if_pos (by simp), ← hr (j + 1) (by omega), if_neg (by omega)]
        · rw [if_neg (show ¬ (27 = 27 ∧ 0 = 0 ∧ j = i) by simp [h1]), ← hr j hj]
          congr 1
          by_cases h2 : p ≤ j ∧ j < i
          · rw [if_pos h2, if_pos (by omega)]
          · rw [if_neg h2, if_neg (by omega)]) (by omega) (by omega) (by omega)
      exact ⟨ν2, e2, OnlyRR.s27.tr o2, r2⟩
theorem removeR_row {ν : Mu} {l : List Int32} (h : RowR ν l) (hl : l.length ≤ 40) (p : Nat) (hp : p < l.length) : ∃ ν', jX8_remove ν (nI p) = some ν' ∧ OnlyRR ν ν' ∧ RowR ν' (l.eraseIdx p) := by
  unfold jX8_remove
  rw [h.2.1, zl1, n_sub (by omega)]
  unfold mst
  obtain ⟨ν2, e2, o2, r2⟩ := removeR_L hl hp (nI p) fuel (mu_st ν 0 0 26 (nI (l.length - 1))) p (by rw [mu_st_app]; simp) (fun j hj => by rw [if_neg (by omega), mu_st_ne (by simp)]; exact h.2.2 j hj) (Nat.le_refl _) (by omega) (by have := fuel_ge; omega)
  exact ⟨ν2, e2, OnlyRR.s26.tr o2, r2⟩
theorem turn_row {ν : Mu} {l : List Int32} (h : RowR ν l) {i j : Nat} (hi : i < l.length) (hj : j < l.length) : ∃ ν', jX8_turn ν (nI i) (nI j) = some ν' ∧ OnlyRR ν ν' ∧ RowR ν' ((l.set i (ν 27 0 j)).set j (ν 27 0 i)) := by
  have hl := h.1
  unfold jX8_turn
  rw [if_pos (by rw [n_in (by omega)]; exact decide_eq_true (by omega)), if_pos (by rw [n_in (by omega)]; exact decide_eq_true (by omega)), if_pos (by rw [n_in (by omega)]; exact decide_eq_true (by omega)), n_cl (by omega), n_cl (by omega)]
  simp only [mst]
  rw [if_pos (by rw [n_in (by omega)]; exact decide_eq_true (by omega))]
  refine ⟨_, rfl, OnlyRR.s27.tr OnlyRR.s27, by simp; exact hl, ?_, ?_⟩
  · rw [mu_st_ne (by simp), mu_st_ne (by simp), List.length_set, List.length_set]
    exact h.2.1
  · intro q hq
    rw [List.length_set, List.length_set] at hq
    rw [mu_st_app, mu_st_app, List.getElem?_set, List.getElem?_set, List.length_set]
    by_cases h1 : j = q
    · subst h1
      simp [hj]
    · rw [if_neg h1, if_neg (show ¬ (27 = 27 ∧ 0 = 0 ∧ q = j) by simp; omega)]
      by_cases h2 : i = q
      · subst h2
        simp [hi]
      · rw [if_neg h2, if_neg (show ¬ (27 = 27 ∧ 0 = 0 ∧ q = i) by simp; omega)]
        exact h.2.2 q hq
