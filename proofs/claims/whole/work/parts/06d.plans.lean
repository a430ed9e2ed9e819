/-! Plans: two rows of them, the same up to their order. -/
theorem mu_st_nc {μ : Mu} {c k j : Nat} {x : Int32} {c' : Nat} (h : c' ≠ c) : mu_st μ c k j x c' = μ c' := by
  funext k'
  exact mu_st_ne (fun q => h q.1)
theorem perm_at {α : Type} (f : Nat → α) {n j : Nat} (hj : j < n) : ((List.range n).map f).Perm (f j :: ((List.range n).erase j).map f) := by
  have h := (List.perm_cons_erase (List.mem_range.mpr hj)).map f
  simpa using h
theorem erase_congr {α : Type} {f g : Nat → α} {n j : Nat} (h : ∀ i, i < n → i ≠ j → f i = g i) : ((List.range n).erase j).map f = ((List.range n).erase j).map g := by
  apply List.map_congr_left
  intro i hi
  have h1 := (List.nodup_range.mem_erase_iff).mp hi
  exact h i (List.mem_range.mp h1.2) h1.1
theorem swap_remove {α : Type} (f : Nat → α) {n j : Nat} (hj : j ≤ n) : ((List.range (n + 1)).map f).Perm (f j :: (List.range n).map (fun i => if i = j then f n else f i)) := by
  have h1 : ((List.range (n + 1)).map f).Perm (f n :: (List.range n).map f) := by
    rw [List.range_succ, List.map_append]
    exact List.perm_append_singleton _ _
  refine h1.trans ?_
  by_cases hq : j = n
  · subst hq
    rw [show (List.range j).map (fun i => if i = j then f j else f i) = (List.range j).map f from List.map_congr_left (fun i hi => if_neg (Nat.ne_of_lt (List.mem_range.mp hi)))]
  · have hlt : j < n := by omega
    have h2 := perm_at (fun i => if i = j then f n else f i) hlt
    rw [show (if j = j then f n else f j) = f n from if_pos rfl, erase_congr (g := f) (fun i _ hi => if_neg hi)] at h2
    exact ((perm_at f hlt).cons (f n)).trans ((List.Perm.swap (f j) (f n) _).trans (h2.symm.cons (f j)))
abbrev Pl : Type := Int32 × Int32 × Int32
def plC (μ : Mu) (n : Nat) : List Pl := (List.range n).map (fun i => (μ 6 0 i, μ 7 0 i, μ 8 0 i))
def effR (w f : Int32) : Int32 := if w = 0 then f else if w = 1 then -1 else -2
def plR (ν : Mu) (n : Nat) : List Pl := (List.range n).map (fun i => (ν 10 0 i, ν 11 0 i, effR (ν 12 0 i) (ν 13 0 i)))
def plK (q : Pl) : Int32 × Int32 := (q.1, q.2.1)
def RPl (np : Nat) (μ ν : Mu) : Prop := np ≤ 12 ∧ μ 5 0 3 = nI np ∧ ν 0 0 9 = nI np ∧ (plC μ np).Perm (plR ν np) ∧ ((plC μ np).map plK).Nodup ∧ ∀ i, i < np → (ν 12 0 i = 0 ∧ 0 < ν 13 0 i) ∨ ν 12 0 i = 1 ∨ ν 12 0 i = 2
theorem RPl.to {np : Nat} {μ ν μ' ν' : Mu} (h : RPl np μ ν) (h5 : μ' 5 = μ 5) (h6 : μ' 6 = μ 6) (h7 : μ' 7 = μ 7) (h8 : μ' 8 = μ 8) (n9 : ν' 0 0 9 = ν 0 0 9) (n10 : ν' 10 = ν 10) (n11 : ν' 11 = ν 11) (n12 : ν' 12 = ν 12) (n13 : ν' 13 = ν 13) : RPl np μ' ν' := by
  unfold RPl plC plR at *
  rw [h5, h6, h7, h8, n9, n10, n11, n12, n13]
  exact h
theorem indexOf_L {μ : Mu} {np : Nat} (hn : np ≤ 12) (hs : μ 5 0 3 = nI np) (h c : Int32) : ∀ (n i : Nat), i ≤ np → np - i < n → (∃ j, j < np ∧ μ 6 0 j = h ∧ μ 7 0 j = c ∧ jX4_indexOf_L2 μ h c n (nI i) = some (nI j)) ∨ ((∀ j, i ≤ j → j < np → ¬ (μ 6 0 j = h ∧ μ 7 0 j = c)) ∧ jX4_indexOf_L2 μ h c n (nI i) = some (-4)) := by
  intro n
  induction n with
  | zero => intro i _ h; exact absurd h (Nat.not_lt_zero _)
  | succ n ih =>
    intro i hi hf
    rw [jX4_indexOf_L2, hs]
    by_cases hq : i = np
    · rw [if_pos (by rw [n_le (by omega) (by omega)]; omega)]
      exact Or.inr ⟨fun j h1 h2 => by omega, rfl⟩
    · have hin : inb (nI i) 12 = true := by rw [n_in (by omega)]; exact decide_eq_true (by omega)
      rw [if_neg (by rw [n_le (by omega) (by omega)]; omega), if_pos hin, if_pos hin, n_cl (by omega), zl1, n_add]
      by_cases h1 : μ 6 0 i = h
      · by_cases h2 : μ 7 0 i = c
        · rw [if_pos h1, if_pos h2]
          exact Or.inl ⟨i, by omega, h1, h2, rfl⟩
        · rw [if_pos h1, if_neg h2]
          rcases ih (i + 1) (by omega) (by omega) with ⟨j, a1, a2, a3, a4⟩ | ⟨a1, a2⟩
          · exact Or.inl ⟨j, a1, a2, a3, a4⟩
          · refine Or.inr ⟨fun j b1 b2 => ?_, a2⟩
            by_cases e : j = i
            · subst e; exact fun z => h2 z.2
            · exact a1 j (by omega) b2
      · rw [if_neg h1]
        rcases ih (i + 1) (by omega) (by omega) with ⟨j, a1, a2, a3, a4⟩ | ⟨a1, a2⟩
        · exact Or.inl ⟨j, a1, a2, a3, a4⟩
        · refine Or.inr ⟨fun j b1 b2 => ?_, a2⟩
          by_cases e : j = i
          · subst e; exact fun z => h1 z.1
          · exact a1 j (by omega) b2
theorem indexOf_at {μ : Mu} {np : Nat} (hn : np ≤ 12) (hs : μ 5 0 3 = nI np) (h c : Int32) : (∃ j, j < np ∧ μ 6 0 j = h ∧ μ 7 0 j = c ∧ jX4_indexOf μ h c = some (nI j)) ∨ ((∀ j, j < np → ¬ (μ 6 0 j = h ∧ μ 7 0 j = c)) ∧ jX4_indexOf μ h c = some (-4)) := by
  rcases indexOf_L hn hs h c fuel 0 (Nat.zero_le _) (by have := fuel_ge; omega) with a | ⟨a, b⟩
  · exact Or.inl a
  · exact Or.inr ⟨fun j => a j (Nat.zero_le _), b⟩
theorem planOf_L {ν : Mu} {np : Nat} (hn : np ≤ 12) (hs : ν 0 0 9 = nI np) (h c : Int32) : ∀ (n i : Nat) (at' : Int32), i ≤ np → np - i < n → ((∃ j, j < i ∧ ν 10 0 j = h ∧ ν 11 0 j = c ∧ at' = nI j) ∨ ((∀ j, j < i → ¬ (ν 10 0 j = h ∧ ν 11 0 j = c)) ∧ at' = -4)) → (∃ j, j < np ∧ ν 10 0 j = h ∧ ν 11 0 j = c ∧ jX8_planOf_L6 ν h c n at' (nI i) = some (nI j)) ∨ ((∀ j, j < np → ¬ (ν 10 0 j = h ∧ ν 11 0 j = c)) ∧ jX8_planOf_L6 ν h c n at' (nI i) = some (-4)) := by
  intro n
  induction n with
  | zero => intro i _ _ h; exact absurd h (Nat.not_lt_zero _)
  | succ n ih =>
    intro i at' hi hf hat
    rw [jX8_planOf_L6, hs]
    by_cases hq : i = np
    · subst hq
      rw [if_pos (by rw [n_le (by omega) (by omega)]; omega)]
      rcases hat with ⟨j, a1, a2, a3, rfl⟩ | ⟨a1, rfl⟩
      · exact Or.inl ⟨j, a1, a2, a3, rfl⟩
      · exact Or.inr ⟨a1, rfl⟩
    · have hin : inb (nI i) 12 = true := by rw [n_in (by omega)]; exact decide_eq_true (by omega)
      rw [if_neg (by rw [n_le (by omega) (by omega)]; omega), if_pos hin, if_pos hin, n_cl (by omega), zl1, n_add]
      have skip : ¬ (ν 10 0 i = h ∧ ν 11 0 i = c) → ((∃ j, j < i + 1 ∧ ν 10 0 j = h ∧ ν 11 0 j = c ∧ at' = nI j) ∨ ((∀ j, j < i + 1 → ¬ (ν 10 0 j = h ∧ ν 11 0 j = c)) ∧ at' = -4)) := by
        intro hne
        rcases hat with ⟨j, a1, a2⟩ | ⟨a1, a2⟩
        · exact Or.inl ⟨j, by omega, a2⟩
        · refine Or.inr ⟨fun j b => ?_, a2⟩
          by_cases e : j = i
          · subst e; exact hne
          · exact a1 j (by omega)
      by_cases h1 : ν 10 0 i = h
      · by_cases h2 : ν 11 0 i = c
        · rw [if_pos h1, if_pos h2]
          exact ih (i + 1) (nI i) (by omega) (by omega) (Or.inl ⟨i, by omega, h1, h2, rfl⟩)
        · rw [if_pos h1, if_neg h2]
          exact ih (i + 1) at' (by omega) (by omega) (skip (fun z => h2 z.2))
      · rw [if_neg h1]
        exact ih (i + 1) at' (by omega) (by omega) (skip (fun z => h1 z.1))
theorem planOf_at {ν : Mu} {np : Nat} (hn : np ≤ 12) (hs : ν 0 0 9 = nI np) (h c : Int32) : (∃ j, j < np ∧ ν 10 0 j = h ∧ ν 11 0 j = c ∧ jX8_planOf ν h c = some (nI j)) ∨ ((∀ j, j < np → ¬ (ν 10 0 j = h ∧ ν 11 0 j = c)) ∧ jX8_planOf ν h c = some (-4)) :=
  planOf_L hn hs h c fuel 0 (-4) (Nat.zero_le _) (by have := fuel_ge; omega) (Or.inr ⟨fun j hj => absurd hj (Nat.not_lt_zero _), rfl⟩)
theorem plC_mem {μ : Mu} {n : Nat} {q : Pl} : q ∈ plC μ n ↔ ∃ i, i < n ∧ q = (μ 6 0 i, μ 7 0 i, μ 8 0 i) := by
  unfold plC
  rw [List.mem_map]
  constructor
  · rintro ⟨i, hi, rfl⟩; exact ⟨i, List.mem_range.mp hi, rfl⟩
  · rintro ⟨i, hi, rfl⟩; exact ⟨i, List.mem_range.mpr hi, rfl⟩
theorem plR_mem {ν : Mu} {n : Nat} {q : Pl} : q ∈ plR ν n ↔ ∃ i, i < n ∧ q = (ν 10 0 i, ν 11 0 i, effR (ν 12 0 i) (ν 13 0 i)) := by
  unfold plR
  rw [List.mem_map]
  constructor
  · rintro ⟨i, hi, rfl⟩; exact ⟨i, List.mem_range.mp hi, rfl⟩
  · rintro ⟨i, hi, rfl⟩; exact ⟨i, List.mem_range.mpr hi, rfl⟩
/-- of two plans in the row with the same key both are one -/
theorem key_one {l : List Pl} (h : (l.map plK).Nodup) {a b : Pl} (ha : a ∈ l) (hb : b ∈ l) (e : plK a = plK b) : a = b := by
  induction l with
  | nil => cases ha
  | cons x l ih =>
    rw [List.map_cons, List.nodup_cons] at h
    rcases List.mem_cons.mp ha with rfl | ha2
    · rcases List.mem_cons.mp hb with rfl | hb2
      · rfl
      · exact absurd (List.mem_map.mpr ⟨b, hb2, e.symm⟩) h.1
    · rcases List.mem_cons.mp hb with rfl | hb2
      · exact absurd (List.mem_map.mpr ⟨a, ha2, e⟩) h.1
      · exact ih h.2 ha2 hb2
/-- both find, or neither does; and what they find does the same -/
theorem find_both {np : Nat} {μ ν : Mu} (h : RPl np μ ν) (hk c : Int32) : (∃ j j', j < np ∧ j' < np ∧ μ 6 0 j = hk ∧ μ 7 0 j = c ∧ ν 10 0 j' = hk ∧ ν 11 0 j' = c ∧ μ 8 0 j = effR (ν 12 0 j') (ν 13 0 j') ∧ jX4_indexOf μ hk c = some (nI j) ∧ jX8_planOf ν hk c = some (nI j')) ∨ ((∀ j, j < np → ¬ (μ 6 0 j = hk ∧ μ 7 0 j = c)) ∧ (∀ j, j < np → ¬ (ν 10 0 j = hk ∧ ν 11 0 j = c)) ∧ jX4_indexOf μ hk c = some (-4) ∧ jX8_planOf ν hk c = some (-4)) := by
  obtain ⟨hn, hs, hs', hp, hnd, hok⟩ := h
  rcases indexOf_at hn hs hk c with ⟨j, a1, a2, a3, a4⟩ | ⟨a1, a2⟩
  · rcases planOf_at hn hs' hk c with ⟨j', b1, b2, b3, b4⟩ | ⟨b1, b2⟩
    · refine Or.inl ⟨j, j', a1, b1, a2, a3, b2, b3, ?_, a4, b4⟩
      have m1 : (μ 6 0 j, μ 7 0 j, μ 8 0 j) ∈ plC μ np := plC_mem.mpr ⟨j, a1, rfl⟩
      have m2 : (ν 10 0 j', ν 11 0 j', effR (ν 12 0 j') (ν 13 0 j')) ∈ plC μ np := hp.mem_iff.mpr (plR_mem.mpr ⟨j', b1, rfl⟩)
      have e := key_one hnd m1 m2 (by unfold plK; simp only [a2, a3, b2, b3])
      exact congrArg (fun q : Pl => q.2.2) e
    · exfalso
      obtain ⟨i, hi, e⟩ := plR_mem.mp (hp.mem_iff.mp (plC_mem.mpr ⟨j, a1, rfl⟩))
      refine b1 i hi ⟨?_, ?_⟩
      · exact (congrArg (fun q : Pl => q.1) e).symm.trans a2
      · exact (congrArg (fun q : Pl => q.2.1) e).symm.trans a3
  · rcases planOf_at hn hs' hk c with ⟨j', b1, b2, b3, b4⟩ | ⟨b1, b2⟩
    · exfalso
      obtain ⟨i, hi, e⟩ := plC_mem.mp (hp.mem_iff.mpr (plR_mem.mpr ⟨j', b1, rfl⟩))
      refine a1 i hi ⟨?_, ?_⟩
      · exact (congrArg (fun q : Pl => q.1) e).symm.trans b2
      · exact (congrArg (fun q : Pl => q.2.1) e).symm.trans b3
    · exact Or.inr ⟨a1, b1, a2, b2⟩
theorem drop_at {μ : Mu} {np j : Nat} (hn : np ≤ 12) (hs : μ 5 0 3 = nI np) (hj : j < np) : ∃ μ', jX4_drop μ (nI j) = some μ' ∧ (∀ c, ¬ (c = 5 ∨ c = 6 ∨ c = 7 ∨ c = 8) → μ' c = μ c) ∧ μ' 5 0 3 = nI (np - 1) ∧ (∀ i, μ' 6 0 i = if i = j then μ 6 0 (np - 1) else μ 6 0 i) ∧ (∀ i, μ' 7 0 i = if i = j then μ 7 0 (np - 1) else μ 7 0 i) ∧ ∀ i, μ' 8 0 i = if i = j then μ 8 0 (np - 1) else μ 8 0 i := by
  unfold jX4_drop
  have hin : inb (nI j) 12 = true := by rw [n_in (by omega)]; exact decide_eq_true (by omega)
  have hin2 : inb (nI (np - 1)) 12 = true := by rw [n_in (by omega)]; exact decide_eq_true (by omega)
  rw [hs, if_neg (by rw [zl0, n_lt (by omega) (by omega)]; omega), if_pos (by rw [n_lt (by omega) (by omega)]; omega), zl1, n_sub (by omega)]
  unfold mst
  simp only [mu_st_app, Nat.reduceEqDiff, false_and, and_false, and_true, true_and, if_true, if_false, hin, hin2, n_cl (show np - 1 < 100000 by omega), n_cl (show j < 100000 by omega)]
  refine ⟨_, rfl, fun c hc => ?_, ?_, fun i => ?_, fun i => ?_, fun i => ?_⟩
  · rw [mu_st_nc (by omega), mu_st_nc (by omega), mu_st_nc (by omega), mu_st_nc (by omega)]
  · simp [mu_st_app]
  · simp [mu_st_app]
  · simp [mu_st_app]
  · simp [mu_st_app]
theorem dropPlan_at {ν : Mu} {np j : Nat} (hn : np ≤ 12) (hs : ν 0 0 9 = nI np) (hj : j < np) : ∃ ν', jX8_dropPlan ν (nI j) = some ν' ∧ (∀ c, ¬ (c = 0 ∨ c = 10 ∨ c = 11 ∨ c = 12 ∨ c = 13) → ν' c = ν c) ∧ (∀ k i, ¬ (k = 0 ∧ i = 9) → ν' 0 k i = ν 0 k i) ∧ ν' 0 0 9 = nI (np - 1) ∧ (∀ i, ν' 10 0 i = if i = j then ν 10 0 (np - 1) else ν 10 0 i) ∧ (∀ i, ν' 11 0 i = if i = j then ν 11 0 (np - 1) else ν 11 0 i) ∧ (∀ i, ν' 12 0 i = if i = j then ν 12 0 (np - 1) else ν 12 0 i) ∧ ∀ i, ν' 13 0 i = if i = j then ν 13 0 (np - 1) else ν 13 0 i := by
  unfold jX8_dropPlan
  have hin : inb (nI j) 12 = true := by rw [n_in (by omega)]; exact decide_eq_true (by omega)
  have hin2 : inb (nI (np - 1)) 12 = true := by rw [n_in (by omega)]; exact decide_eq_true (by omega)
  rw [hs, zl1, n_sub (by omega)]
  unfold mst
  simp only [mu_st_app, Nat.reduceEqDiff, false_and, and_false, and_true, true_and, if_true, if_false, hin, hin2, n_cl (show np - 1 < 100000 by omega), n_cl (show j < 100000 by omega)]
  refine ⟨_, rfl, fun c hc => ?_, fun k i hk => ?_, ?_, fun i => ?_, fun i => ?_, fun i => ?_, fun i => ?_⟩
  · rw [mu_st_nc (by omega), mu_st_nc (by omega), mu_st_nc (by omega), mu_st_nc (by omega), mu_st_nc (by omega)]
  · simp [mu_st_app]; omega
  · simp [mu_st_app]
  · simp [mu_st_app]
  · simp [mu_st_app]
  · simp [mu_st_app]
  · simp [mu_st_app]
/-- both drop the plan that they found -/
theorem drop_both {np j j' : Nat} {μ ν μ' ν' : Mu} (h : RPl np μ ν) (hj : j < np) (hj' : j' < np) (hk : μ 6 0 j = ν 10 0 j') (hc : μ 7 0 j = ν 11 0 j') (s1 : μ' 5 0 3 = nI (np - 1)) (s6 : ∀ i, μ' 6 0 i = if i = j then μ 6 0 (np - 1) else μ 6 0 i) (s7 : ∀ i, μ' 7 0 i = if i = j then μ 7 0 (np - 1) else μ 7 0 i) (s8 : ∀ i, μ' 8 0 i = if i = j then μ 8 0 (np - 1) else μ 8 0 i) (t1 : ν' 0 0 9 = nI (np - 1)) (t10 : ∀ i, ν' 10 0 i = if i = j' then ν 10 0 (np - 1) else ν 10 0 i) (t11 : ∀ i, ν' 11 0 i = if i = j' then ν 11 0 (np - 1) else ν 11 0 i) (t12 : ∀ i, ν' 12 0 i = if i = j' then ν 12 0 (np - 1) else ν 12 0 i) (t13 : ∀ i, ν' 13 0 i = if i = j' then ν 13 0 (np - 1) else ν 13 0 i) : RPl (np - 1) μ' ν' ∧ ∀ i, i < np - 1 → ¬ (μ' 6 0 i = μ 6 0 j ∧ μ' 7 0 i = μ 7 0 j) := by
  obtain ⟨hn, hs, hs', hp, hnd, hok⟩ := h
  obtain ⟨n, rfl⟩ : ∃ n, np = n + 1 := ⟨np - 1, by omega⟩
  rw [Nat.add_sub_cancel] at *
  have p1 : (plC μ (n + 1)).Perm ((μ 6 0 j, μ 7 0 j, μ 8 0 j) :: plC μ' n) := by
    refine (swap_remove (fun i => (μ 6 0 i, μ 7 0 i, μ 8 0 i)) (show j ≤ n by omega)).trans ?_
    rw [show plC μ' n = (List.range n).map (fun i => if i = j then (μ 6 0 n, μ 7 0 n, μ 8 0 n) else (μ 6 0 i, μ 7 0 i, μ 8 0 i)) from List.map_congr_left (fun i _ => by
      show (μ' 6 0 i, μ' 7 0 i, μ' 8 0 i) = _
      rw [s6, s7, s8]
      by_cases e : i = j <;> simp [e])]
  have p2 : (plR ν (n + 1)).Perm ((ν 10 0 j', ν 11 0 j', effR (ν 12 0 j') (ν 13 0 j')) :: plR ν' n) := by
    refine (swap_remove (fun i => (ν 10 0 i, ν 11 0 i, effR (ν 12 0 i) (ν 13 0 i))) (show j' ≤ n by omega)).trans ?_
    rw [show plR ν' n = (List.range n).map (fun i => if i = j' then (ν 10 0 n, ν 11 0 n, effR (ν 12 0 n) (ν 13 0 n)) else (ν 10 0 i, ν 11 0 i, effR (ν 12 0 i) (ν 13 0 i))) from List.map_congr_left (fun i _ => by
      show (ν' 10 0 i, ν' 11 0 i, effR (ν' 12 0 i) (ν' 13 0 i)) = _
      rw [t10, t11, t12, t13]
      by_cases e : i = j' <;> simp [e])]
  have e : (μ 6 0 j, μ 7 0 j, μ 8 0 j) = (ν 10 0 j', ν 11 0 j', effR (ν 12 0 j') (ν 13 0 j')) := by
    refine key_one hnd (plC_mem.mpr ⟨j, hj, rfl⟩) (hp.mem_iff.mpr (plR_mem.mpr ⟨j', hj', rfl⟩)) ?_
    unfold plK
    simp only [hk, hc]
  have nd := (p1.map plK).nodup_iff.mp hnd
  rw [List.map_cons, List.nodup_cons] at nd
  refine ⟨⟨by omega, s1, t1, ?_, nd.2, fun i hi => ?_⟩, fun i hi z => ?_⟩
  · have p3 := (p1.symm.trans hp).trans p2
    rw [e] at p3
    exact p3.cons_inv
  · rw [t12, t13]
    by_cases q : i = j'
    · rw [if_pos q, if_pos q]; exact hok n (by omega)
    · rw [if_neg q, if_neg q]; exact hok i (by omega)
  · refine nd.1 (List.mem_map.mpr ⟨(μ' 6 0 i, μ' 7 0 i, μ' 8 0 i), plC_mem.mpr ⟨i, hi, rfl⟩, ?_⟩)
    unfold plK
    simp only [z.1, z.2]
