/-! The relation between the class's memory and the reference's; a hook is asked. -/
def RDeck (nc : Nat) (μ ν : Mu) : Prop := nc ≤ 120 ∧ μ 2 0 2 = nI nc ∧ ν 0 0 0 = nI nc ∧ ∀ i, i < nc → μ 3 0 i = ν 1 0 i ∧ μ 4 0 i = ν 2 0 i
def RHooks (nh : Nat) (μ ν : Mu) : Prop := nh ≤ 8 ∧ μ 1 0 4 = nI nh ∧ ν 0 0 3 = nI nh ∧ (∀ i, i < nh → μ 11 i 0 = ν 4 0 i ∧ μ 11 i 1 = ν 5 0 i ∧ ∃ q, q ≤ 4 ∧ μ 11 i 0 = nI q) ∧ (∀ i, i < 8 → μ 11 i 2 = ν 6 0 i ∧ μ 11 i 3 = ν 7 0 i ∧ μ 11 i 4 = ν 8 0 i) ∧ ∀ i, nh ≤ i → i < 8 → μ 11 i 3 = 0
def RLate (b : Int32) (μ ν : Mu) : Prop := μ 9 0 0 = ν 0 0 22 ∧ μ 9 0 1 = ν 0 0 23 ∧ μ 9 0 2 = ν 0 0 24 ∧ μ 9 0 3 = ν 0 0 25 ∧ μ 9 0 4 = ν 0 0 19 ∧ μ 9 0 5 = ν 0 0 20 + b
def isCmp (μ : Mu) (h : Nat) : Prop := μ 11 h 0 = 0 ∨ μ 11 h 0 = 1 ∨ μ 11 h 0 = 2
def RTrays (nc nh nt : Nat) (rows : Nat → List Int32) (μ ν : Mu) : Prop := nt ≤ 6 ∧ μ 0 0 2 = nI nt ∧ ν 0 0 14 = nI nt ∧ (∀ t, t < nt → μ 13 t 1 = ν 15 0 t ∧ μ 13 t 2 = ν 16 0 t ∧ ((μ 13 t 1 = 0 ∧ μ 13 t 2 = -4) ∨ ((μ 13 t 1 = 1 ∨ μ 13 t 1 = 2) ∧ ∃ h, h < nh ∧ μ 13 t 2 = nI h ∧ isCmp μ h))) ∧ (∀ t, t < 6 → RowIs μ t (rows t) ∧ HeldIs ν t (rows t) ∧ ∀ c ∈ rows t, ∃ q, q < nc ∧ c = nI q) ∧ ∀ t, nt ≤ t → rows t = []
def Rel (nc nh nt : Nat) (rows : Nat → List Int32) (b : Int32) (μ ν : Mu) : Prop := RDeck nc μ ν ∧ RHooks nh μ ν ∧ (∃ np, RPl np μ ν) ∧ RLate b μ ν ∧ RTrays nc nh nt rows μ ν
theorem RDeck.to {nc : Nat} {μ ν μ' ν' : Mu} (h : RDeck nc μ ν) (h2 : μ' 2 = μ 2) (h3 : μ' 3 = μ 3) (h4 : μ' 4 = μ 4) (n0 : ν' 0 0 0 = ν 0 0 0) (n1 : ν' 1 = ν 1) (n2 : ν' 2 = ν 2) : RDeck nc μ' ν' := by
  unfold RDeck at *
  rw [h2, h3, h4, n0, n1, n2]
  exact h
theorem RHooks.to {nh : Nat} {μ ν μ' ν' : Mu} (h : RHooks nh μ ν) (h1 : μ' 1 = μ 1) (h11 : μ' 11 = μ 11) (n0 : ν' 0 0 3 = ν 0 0 3) (n4 : ν' 4 = ν 4) (n5 : ν' 5 = ν 5) (n6 : ν' 6 = ν 6) (n7 : ν' 7 = ν 7) (n8 : ν' 8 = ν 8) : RHooks nh μ' ν' := by
  unfold RHooks at *
  rw [h1, h11, n0, n4, n5, n6, n7, n8]
  exact h
theorem RLate.to {b : Int32} {μ ν μ' ν' : Mu} (h : RLate b μ ν) (h9 : μ' 9 = μ 9) (n19 : ν' 0 0 19 = ν 0 0 19) (n20 : ν' 0 0 20 = ν 0 0 20) (n22 : ν' 0 0 22 = ν 0 0 22) (n23 : ν' 0 0 23 = ν 0 0 23) (n24 : ν' 0 0 24 = ν 0 0 24) (n25 : ν' 0 0 25 = ν 0 0 25) : RLate b μ' ν' := by
  unfold RLate at *
  rw [h9, n19, n20, n22, n23, n24, n25]
  exact h
theorem RTrays.to {nc nh nt : Nat} {rows : Nat → List Int32} {μ ν μ' ν' : Mu} (h : RTrays nc nh nt rows μ ν) (h0 : μ' 0 = μ 0) (h11 : ∀ k, μ' 11 k 0 = μ 11 k 0) (h13 : μ' 13 = μ 13) (h14 : ∀ t, t < 6 → μ' 14 t = μ 14 t) (h15 : ∀ t, t < 6 → μ' 15 t = μ 15 t) (n14 : ν' 0 0 14 = ν 0 0 14) (n15 : ν' 15 = ν 15) (n16 : ν' 16 = ν 16) (n17 : ν' 17 = ν 17) (n18 : ν' 18 = ν 18) : RTrays nc nh nt rows μ' ν' := by
  obtain ⟨a1, a2, a3, a4, a5, a6⟩ := h
  refine ⟨a1, by rw [h0]; exact a2, by rw [n14]; exact a3, fun t ht => ?_, fun t ht => ?_, a6⟩
  · unfold isCmp
    rw [h13, n15, n16]
    simp only [h11]
    exact a4 t ht
  · obtain ⟨b1, b2, b3⟩ := a5 t ht
    refine ⟨?_, ?_, b3⟩
    · unfold RowIs
      rw [h14 t ht, h15 t ht]
      exact b1
    · unfold HeldIs
      rw [n17, n18]
      exact b2
/-- what a call of a hook leaves as it was -/
def CallFr (μ μ' ν ν' : Mu) : Prop := (∀ c, ¬ (c = 5 ∨ c = 6 ∨ c = 7 ∨ c = 8 ∨ c = 9 ∨ c = 11) → μ' c = μ c) ∧ (∀ k, μ' 11 k 0 = μ 11 k 0 ∧ μ' 11 k 1 = μ 11 k 1) ∧ (∀ c, ¬ (c = 0 ∨ c = 6 ∨ c = 7 ∨ c = 8 ∨ c = 10 ∨ c = 11 ∨ c = 12 ∨ c = 13) → ν' c = ν c) ∧ (ν' 0 0 0 = ν 0 0 0 ∧ ν' 0 0 25 = ν 0 0 25 ∧ ν' 0 0 26 = ν 0 0 26 ∧ ν' 0 0 20 = ν 0 0 20) ∧ μ' 9 0 3 = μ 9 0 3
theorem hasHook_at {μ : Mu} {nh h : Nat} (hn : nh ≤ 8) (hs : μ 1 0 4 = nI nh) (hh : h < nh) : jX1_hasHook μ (nI h) = some 1 := by
  unfold jX1_hasHook
  rw [hs, zl0, if_neg (by rw [n_lt (by omega) (by omega)]; omega), if_neg (by rw [n_le (by omega) (by omega)]; omega)]
theorem eff_pos {w f : Int32} (h : (w = 0 ∧ 0 < f) ∨ w = 1 ∨ w = 2) : (0 < effR w f ∧ w = 0 ∧ effR w f = f) ∨ (effR w f = -1 ∧ w = 1) ∨ (effR w f = -2 ∧ w = 2) := by
  unfold effR
  rcases h with ⟨rfl, h⟩ | rfl | rfl
  · exact Or.inl ⟨h, rfl, rfl⟩
  · exact Or.inr (Or.inl ⟨rfl, rfl⟩)
  · exact Or.inr (Or.inr ⟨rfl, rfl⟩)
theorem i_le_of_lt {x : Int32} (h : 0 < x) : ¬ x ≤ 0 := by
  intro q
  rw [Int32.lt_iff_toInt_lt] at h
  rw [Int32.le_iff_toInt_le] at q
  omega
theorem RHooks.call {nh h : Nat} {μ ν μ' ν' : Mu} (hR : RHooks nh μ ν) (hh : h < nh) (d : Int32) (m1 : μ' 1 = μ 1) (m11 : ∀ k j, μ' 11 k j = if k = h ∧ j = 2 then μ 11 h 2 + 1 else if k = h ∧ j = 3 then μ 11 h 3 + 1 else if k = h ∧ j = 4 then μ 11 h 4 + d else μ 11 k j) (n3 : ν' 0 0 3 = ν 0 0 3) (n4 : ν' 4 = ν 4) (n5 : ν' 5 = ν 5) (n6 : ∀ i, ν' 6 0 i = if i = h then ν 6 0 h + 1 else ν 6 0 i) (n7 : ∀ i, ν' 7 0 i = if i = h then ν 7 0 h + 1 else ν 7 0 i) (n8 : ∀ i, ν' 8 0 i = if i = h then ν 8 0 h + d else ν 8 0 i) : RHooks nh μ' ν' := by
  obtain ⟨a1, a2, a3, a4, a5, a6⟩ := hR
  refine ⟨a1, by rw [m1]; exact a2, by rw [n3]; exact a3, fun i hi => ?_, fun i hi => ?_, fun i h1 h2 => ?_⟩
  · rw [n4, n5, m11, m11]
    simpa using a4 i hi
  · obtain ⟨b1, b2, b3⟩ := a5 i hi
    rw [n6, n7, n8, m11, m11, m11]
    by_cases e : i = h
    · subst e
      simp [b1, b2, b3]
    · simp [e, b1, b2, b3]
  · rw [m11]
    have e : ¬ i = h := by omega
    simp [e]
    exact a6 i h1 h2
