/-! Numbers, memories, rows: words for the pure part. -/
theorem mu_st_app (μ : Mu) (c k j : Nat) (x : Int32) (c' k' j' : Nat) : mu_st μ c k j x c' k' j' = if c' = c ∧ k' = k ∧ j' = j then x else μ c' k' j' := by
  unfold mu_st mu_up
  by_cases h1 : c' = c ∧ k' = k
  · obtain ⟨rfl, rfl⟩ := h1
    by_cases h2 : j' = j <;> simp [h2, upd]
  · rw [if_neg h1, if_neg (fun h => h1 ⟨h.1, h.2.1⟩)]
theorem mu_st_ne {μ : Mu} {c k j : Nat} {x : Int32} {c' k' : Nat} (h : ¬ (c' = c ∧ k' = k)) : mu_st μ c k j x c' k' = μ c' k' := by
  unfold mu_st mu_up
  rw [if_neg h]
theorem zl0 : (0 : Int32) = nI 0 := rfl
theorem zl1 : (1 : Int32) = nI 1 := rfl
theorem zl2 : (2 : Int32) = nI 2 := rfl
theorem zl3 : (3 : Int32) = nI 3 := rfl
theorem zl4 : (4 : Int32) = nI 4 := rfl
theorem zl6 : (6 : Int32) = nI 6 := rfl
theorem zl8 : (8 : Int32) = nI 8 := rfl
theorem zl12 : (12 : Int32) = nI 12 := rfl
theorem zl40 : (40 : Int32) = nI 40 := rfl
theorem zl99 : (99 : Int32) = nI 99 := rfl
theorem zl120 : (120 : Int32) = nI 120 := rfl
theorem zl1000 : (1000 : Int32) = nI 1000 := rfl
theorem n_lt {a b : Nat} (ha : a < 100000) (hb : b < 100000) : (nI a < nI b) = (a < b) := propext (nI_ltI (by omega) (by omega))
theorem n_le {a b : Nat} (ha : a < 100000) (hb : b < 100000) : (nI a ≤ nI b) = (a ≤ b) := propext (nI_leI (by omega) (by omega))
theorem n_eq {a b : Nat} (ha : a < 100000) (hb : b < 100000) : (nI a = nI b) = (a = b) := propext (nI_eq (by omega) (by omega))
theorem n_cl {a : Nat} (ha : a < 100000) : (nI a).toNatClampNeg = a := nI_clamp (by omega)
theorem n_add (a b : Nat) : nI a + nI b = nI (a + b) := nI_add a b
theorem n_sub {a b : Nat} (h : b ≤ a) : nI a - nI b = nI (a - b) := pk_sub h
theorem n_in {a n : Nat} (ha : a < 100000) : inb (nI a) n = decide (a < n) := by
  unfold inb
  rw [decide_eq_decide, n_cl ha]
  constructor
  · intro h
    exact Nat.not_le.mp fun q => h (Or.inr q)
  · intro h q
    rcases q with q | q
    · exact nI_pos (by omega) q
    · omega
/-- a row holds a list -/
def RowIs (μ : Mu) (k : Nat) (l : List Int32) : Prop := l.length ≤ 40 ∧ μ 14 k 1 = nI l.length ∧ ∀ i, i < l.length → l[i]? = some (μ 15 k i)
/-- nothing but that row is changed -/
def OnlyRow (k : Nat) (μ μ' : Mu) : Prop := ∀ c k', ¬ ((c = 14 ∨ c = 15) ∧ k' = k) → μ' c k' = μ c k'
theorem OnlyRow.rf {k : Nat} {μ : Mu} : OnlyRow k μ μ := fun _ _ _ => rfl
theorem OnlyRow.tr {k : Nat} {μ μ1 μ2 : Mu} (h1 : OnlyRow k μ μ1) (h2 : OnlyRow k μ1 μ2) : OnlyRow k μ μ2 := fun c k' h => (h2 c k' h).trans (h1 c k' h)
theorem OnlyRow.row {k k' : Nat} {μ μ' : Mu} (h : OnlyRow k μ μ') (hk : k' ≠ k) {l : List Int32} (hr : RowIs μ k' l) : RowIs μ' k' l := by
  unfold RowIs
  rw [h 14 k' (fun q => hk q.2), h 15 k' (fun q => hk q.2)]
  exact hr
theorem hasPlace_at {μ : Mu} {k : Nat} {l : List Int32} (h : RowIs μ k l) (i : Nat) (hi : i < 100000) : jX5_hasPlace μ k (nI i) = some (if i < l.length then 1 else 0) := by
  have h1 := h.1
  unfold jX5_hasPlace
  rw [h.2.1]
  by_cases hl : i < l.length
  · simp (disch := omega) only [zl0, zl1, zl2, zl3, zl4, zl6, zl8, zl12, zl40, zl99, zl120, zl1000, n_lt, n_le, n_eq, n_cl, n_in, n_add, n_sub, decide_eq_true_eq, Nat.not_lt_zero, Nat.zero_le, if_true, if_false, hl, Nat.not_le.mpr hl]
  · simp (disch := omega) only [zl0, zl1, zl2, zl3, zl4, zl6, zl8, zl12, zl40, zl99, zl120, zl1000, n_lt, n_le, n_eq, n_cl, n_in, n_add, n_sub, decide_eq_true_eq, Nat.not_lt_zero, Nat.zero_le, if_true, if_false, hl, Nat.not_lt.mp hl]
theorem cardAt_at {μ : Mu} {k : Nat} {l : List Int32} (h : RowIs μ k l) (i : Nat) (hi : i < l.length) : jX5_cardAt μ k (nI i) = some (μ 15 k i) := by
  have h1 := h.1
  unfold jX5_cardAt
  rw [hasPlace_at h i (by omega), if_pos hi]
  have hi2 : i < 40 := by omega
  simp (disch := omega) only [zl0, zl1, zl2, zl3, zl4, zl6, zl8, zl12, zl40, zl99, zl120, zl1000, n_lt, n_le, n_eq, n_cl, n_in, n_add, n_sub, decide_eq_true_eq, Nat.not_lt_zero, Nat.zero_le, if_true, if_false, Option.bind_some, hi2]
  rfl
theorem clear_row (μ : Mu) (k : Nat) : ∃ μ', jX5_clear μ k = some μ' ∧ OnlyRow k μ μ' ∧ RowIs μ' k [] := by
  refine ⟨_, rfl, fun c k' h => mu_st_ne (fun q => h ⟨Or.inl q.1, q.2⟩), by simp, ?_, fun i hi => by simp at hi⟩
  rw [mu_st_app]; simp; rfl
theorem append_row {μ : Mu} {k : Nat} {l : List Int32} (h : RowIs μ k l) (hl : l.length < 40) (c : Int32) : ∃ μ', jX5_append μ k c = some μ' ∧ OnlyRow k μ μ' ∧ RowIs μ' k (l ++ [c]) := by
  unfold jX5_append
  rw [h.2.1]
  have hn : ¬ 40 ≤ l.length := by omega
  simp (disch := omega) only [zl0, zl1, zl2, zl3, zl4, zl6, zl8, zl12, zl40, zl99, zl120, zl1000, n_lt, n_le, n_eq, n_cl, n_in, n_add, n_sub, decide_eq_true_eq, Nat.not_lt_zero, Nat.zero_le, if_true, if_false, hn, hl, mst]
  refine ⟨_, rfl, fun c' k' q => ?_, ?_, ?_, ?_⟩
  · rw [mu_st_ne (fun z => q ⟨Or.inl z.1, z.2⟩), mu_st_ne (fun z => q ⟨Or.inr z.1, z.2⟩)]
  · simp; omega
  · rw [mu_st_app]
    simp [mu_st_app, h.2.1, n_add]
  · intro i hi
    simp only [List.length_append, List.length_cons, List.length_nil] at hi
    rw [mu_st_ne (by simp), mu_st_app]
    by_cases hq : i = l.length
    · subst hq
      simp
    · rw [if_neg (by simp [hq]), List.getElem?_append_left (by omega)]
      exact h.2.2 i (by omega)
