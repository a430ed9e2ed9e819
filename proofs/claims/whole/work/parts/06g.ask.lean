/-! What a hook is asked: comparing, keeping, adding. -/
/-- a card that there is -/
def isCd (nc : Nat) (x : Int32) : Prop := ∃ q, q < nc ∧ x = nI q
theorem weightOf_at {μ : Mu} {nc q : Nat} (hn : nc ≤ 120) (hs : μ 2 0 2 = nI nc) (hq : q < nc) : jX0_weightOf μ (nI q) = some (μ 3 0 q) := by
  unfold jX0_weightOf
  rw [hs, zl0, if_neg (by rw [n_lt (by omega) (by omega)]; omega), if_neg (by rw [n_le (by omega) (by omega)]; omega), if_pos (by rw [n_in (by omega)]; exact decide_eq_true (by omega)), n_cl (by omega)]
theorem markOf_at {μ : Mu} {nc q : Nat} (hn : nc ≤ 120) (hs : μ 2 0 2 = nI nc) (hq : q < nc) : jX0_markOf μ (nI q) = some (μ 4 0 q) := by
  unfold jX0_markOf
  rw [hs, zl0, if_neg (by rw [n_lt (by omega) (by omega)]; omega), if_neg (by rw [n_le (by omega) (by omega)]; omega), if_pos (by rw [n_in (by omega)]; exact decide_eq_true (by omega)), n_cl (by omega)]
def sgn (a b : Int32) : Int32 := if b ≤ a then if a = b then 0 else 1 else -1
theorem compare_at (a b : Int32) : jJ6_compare_7cf53 a b = some (sgn a b) := by
  unfold jJ6_compare_7cf53 sgn
  by_cases h1 : b ≤ a
  · by_cases h2 : a = b
    · rw [if_pos h1, if_pos h2, if_pos h1, if_pos h2]
    · rw [if_pos h1, if_neg h2, if_pos h1, if_neg h2]
  · rw [if_neg h1, if_neg h1]
theorem sign_at (a b : Int32) : jX8_sign a b = some (sgn a b) := by
  unfold jX8_sign sgn
  by_cases h1 : b ≤ a
  · by_cases h2 : a = b
    · subst h2
      rw [if_pos h1, if_pos h1, if_pos h1, if_pos rfl]
    · rw [if_pos h1, if_pos h1, if_neg h2, if_neg]
      intro q
      apply h2
      apply Int32.toInt_inj.mp
      rw [Int32.le_iff_toInt_le] at h1 q
      omega
  · rw [if_neg h1, if_neg h1]
theorem sgn_v (a b : Int32) : sgn a b = -1 ∨ sgn a b = 0 ∨ sgn a b = 1 := by
  unfold sgn
  by_cases h1 : b ≤ a
  · by_cases h2 : a = b <;> simp [h1, h2]
  · simp [h1]
theorem sgn_0 (a b : Int32) : sgn a b = 0 ↔ a = b := by
  unfold sgn
  constructor
  · intro h
    by_cases h1 : b ≤ a
    · by_cases h2 : a = b
      · exact h2
      · rw [if_pos h1, if_neg h2] at h; cases h
    · rw [if_neg h1] at h; cases h
  · rintro rfl
    rw [if_pos (Int32.le_refl a), if_pos rfl]
/-- what a comparing hook truly answers -/
def trueV (μ : Mu) (h x y : Nat) : Int32 := if μ 11 h 0 = 2 then (if μ 4 0 x = μ 4 0 y then sgn (μ 3 0 x) (μ 3 0 y) else sgn (μ 4 0 x) (μ 4 0 y)) else if μ 11 h 0 = 0 then sgn (μ 3 0 x) (μ 3 0 y) else - sgn (μ 3 0 x) (μ 3 0 y)
theorem trueV_v (μ : Mu) (h x y : Nat) : trueV μ h x y = -1 ∨ trueV μ h x y = 0 ∨ trueV μ h x y = 1 := by
  unfold trueV
  by_cases h1 : μ 11 h 0 = 2
  · by_cases h2 : μ 4 0 x = μ 4 0 y
    · rw [if_pos h1, if_pos h2]; exact sgn_v _ _
    · rw [if_pos h1, if_neg h2]; exact sgn_v _ _
  · by_cases h2 : μ 11 h 0 = 0
    · rw [if_neg h1, if_pos h2]; exact sgn_v _ _
    · rw [if_neg h1, if_neg h2]
      rcases sgn_v (μ 3 0 x) (μ 3 0 y) with e | e | e <;> rw [e]
      · exact Or.inr (Or.inr rfl)
      · exact Or.inr (Or.inl rfl)
      · exact Or.inl rfl
theorem compareTruly_at {nc nh : Nat} {μ ν : Mu} (hD : RDeck nc μ ν) (hH : RHooks nh μ ν) {h x y : Nat} (hh : h < nh) (hc : isCmp μ h) (hx : x < nc) (hy : y < nc) : jX1_compareTruly μ (nI h) (nI x) (nI y) = some (trueV μ h x y) := by
  have hh8 : h < 8 := by have := hH.1; omega
  unfold jX1_compareTruly trueV
  rw [hasHook_at hH.1 hH.2.1 hh, Option.bind_some, if_neg (by decide), weightOf_at hD.1 hD.2.1 hx, Option.bind_some, weightOf_at hD.1 hD.2.1 hy, Option.bind_some, compare_at, Option.bind_some, if_pos (by rw [n_in (by omega)]; exact decide_eq_true hh8), n_cl (by omega), markOf_at hD.1 hD.2.1 hx, Option.bind_some, markOf_at hD.1 hD.2.1 hy, Option.bind_some, compare_at, Option.bind_some]
  rcases hc with e | e | e <;> rw [e]
  · rfl
  · rfl
  · rw [if_neg (by decide), if_neg (by decide), if_pos rfl, if_pos rfl]
    by_cases q : μ 4 0 x = μ 4 0 y
    · rw [if_pos ((sgn_0 _ _).mpr q), if_pos q]
    · rw [if_neg (fun z => q ((sgn_0 _ _).mp z)), if_neg q]
theorem truth_at {nc nh : Nat} {μ ν : Mu} (hD : RDeck nc μ ν) (hH : RHooks nh μ ν) {h x y : Nat} (hh : h < nh) (hx : x < nc) (hy : y < nc) : jX8_truth ν (nI h) (nI x) (nI y) = some (trueV μ h x y) := by
  have hh8 : h < 8 := by have := hH.1; omega
  have hn := hD.1
  have h1 : inb (nI x) 120 = true := by rw [n_in (by omega)]; exact decide_eq_true (by omega)
  have h2 : inb (nI y) 120 = true := by rw [n_in (by omega)]; exact decide_eq_true (by omega)
  have h3 : inb (nI h) 8 = true := by rw [n_in (by omega)]; exact decide_eq_true (by omega)
  obtain ⟨w1, k1⟩ := hD.2.2.2 x hx
  obtain ⟨w2, k2⟩ := hD.2.2.2 y hy
  obtain ⟨e1, -, -⟩ := hH.2.2.2.1 h hh
  unfold jX8_truth trueV
  simp only [h1, h2, h3, if_true, n_cl (show x < 100000 by omega), n_cl (show y < 100000 by omega), n_cl (show h < 100000 by omega), sign_at, Option.bind_some, ← w1, ← w2, ← k1, ← k2, ← e1]
  by_cases q1 : μ 11 h 0 = 2
  · by_cases q2 : μ 4 0 x = μ 4 0 y
    · simp only [q1, q2, if_true]
    · simp only [q1, q2, if_true, if_false]
  · by_cases q2 : μ 11 h 0 = 0
    · simp only [q2]; rfl
    · simp only [q1, q2, if_false]
theorem trueV_to {μ μ' : Mu} (h11 : ∀ k, μ' 11 k 0 = μ 11 k 0) (h3 : μ' 3 = μ 3) (h4 : μ' 4 = μ 4) (h x y : Nat) : trueV μ' h x y = trueV μ h x y := by
  unfold trueV
  rw [h11, h3, h4]
theorem isCmp_to {μ μ' : Mu} (h11 : ∀ k, μ' 11 k 0 = μ 11 k 0) {h : Nat} (hc : isCmp μ h) : isCmp μ' h := by
  unfold isCmp
  rw [h11]
  exact hc
theorem i_neg_v {v : Int32} (h : v = -1 ∨ v = 0 ∨ v = 1) : (-v = -1 ∨ -v = 0 ∨ -v = 1) ∧ (-v < 0 ↔ 0 < v) ∧ ¬ v = -11 ∧ ¬ -v = -11 := by
  rcases h with rfl | rfl | rfl <;> decide
theorem ask_sim {nc nh nt : Nat} {rows : Nat → List Int32} {μ ν : Mu} (hR : Rel nc nh nt rows 0 μ ν) (ht : ν 0 0 21 = 0) {h : Nat} (hh : h < nh) (hc : isCmp μ h) {x y : Int32} (hx : isCd nc x) (hy : isCd nc y) : ∃ (a : Int32) (μ' : Mu) (ah : Int32) (ν' : Mu), jX1_askComparing μ (nI h) x y = some (a, μ') ∧ jX8_isAhead ν (nI h) x y = some (ah, ν') ∧ CallFr μ μ' ν ν' ∧ ((a = -11 ∧ ah = 0 ∧ ν' 0 0 21 = 1 ∧ Rel nc nh nt rows 1 μ' ν') ∨ (¬ a = -11 ∧ ν' 0 0 21 = 0 ∧ Rel nc nh nt rows 0 μ' ν' ∧ ((a < 0 ∧ ah = 1) ∨ (¬ a < 0 ∧ 0 ≤ a ∧ ah = 0)))) := by
  obtain ⟨xn, hxn, rfl⟩ := hx
  obtain ⟨yn, hyn, rfl⟩ := hy
  obtain ⟨eff, μ', lies, ν', e1, e2, fr, hq⟩ := call_sim hR ht hh
  have hc' := isCmp_to (fun k => (fr.2.1 k).1) hc
  unfold jX1_askComparing jX8_isAhead
  rw [e1, e2, Option.bind_some, Option.bind_some]
  dsimp only
  rcases hq with ⟨q1, q2, q3, q4⟩ | ⟨q1, q2, q3, q4⟩
  · rw [if_neg q1, truth_at q4.1 q4.2.1 hh hxn hyn, Option.bind_some, if_neg (by rw [q3]; decide)]
    exact ⟨_, _, _, _, rfl, rfl, fr, Or.inl ⟨rfl, rfl, q3, q4⟩⟩
  · rw [if_pos q1, compareTruly_at q3.1 q3.2.1 hh hc' hxn hyn, Option.bind_some, truth_at q3.1 q3.2.1 hh hxn hyn, Option.bind_some, if_pos q2]
    have hv := trueV_v μ' h xn yn
    generalize trueV μ' h xn yn = v at hv
    obtain ⟨i1, i2, i3, i4⟩ := i_neg_v hv
    rcases q4 with ⟨rfl, rfl⟩ | ⟨q4, rfl⟩
    · rw [if_pos rfl, if_neg (by decide)]
      rcases hv with rfl | rfl | rfl
      · exact ⟨_, _, _, _, rfl, rfl, fr, Or.inr ⟨by decide, q2, q3, Or.inr ⟨by decide, by decide, rfl⟩⟩⟩
      · exact ⟨_, _, _, _, rfl, rfl, fr, Or.inr ⟨by decide, q2, q3, Or.inr ⟨by decide, by decide, rfl⟩⟩⟩
      · exact ⟨_, _, _, _, rfl, rfl, fr, Or.inr ⟨by decide, q2, q3, Or.inl ⟨by decide, rfl⟩⟩⟩
    · rw [if_neg q4, if_pos rfl]
      rcases hv with rfl | rfl | rfl
      · exact ⟨_, _, _, _, rfl, rfl, fr, Or.inr ⟨by decide, q2, q3, Or.inl ⟨by decide, rfl⟩⟩⟩
      · exact ⟨_, _, _, _, rfl, rfl, fr, Or.inr ⟨by decide, q2, q3, Or.inr ⟨by decide, by decide, rfl⟩⟩⟩
      · exact ⟨_, _, _, _, rfl, rfl, fr, Or.inr ⟨by decide, q2, q3, Or.inr ⟨by decide, by decide, rfl⟩⟩⟩
theorem numberOf_at {μ : Mu} {nh h : Nat} (hn : nh ≤ 8) (hs : μ 1 0 4 = nI nh) (hh : h < nh) : jX1_numberOf μ (nI h) = some (μ 11 h 1) := by
  unfold jX1_numberOf
  rw [hasHook_at hn hs hh, Option.bind_some, if_neg (by decide), if_pos (by rw [n_in (by omega)]; exact decide_eq_true (by omega)), n_cl (by omega)]
/-- KEEPING is asked; the answer of one that throws is not looked at -/
theorem keep_sim {nc nh nt : Nat} {rows : Nat → List Int32} {μ ν : Mu} (hR : Rel nc nh nt rows 0 μ ν) (ht : ν 0 0 21 = 0) {h : Nat} (hh : h < nh) {x : Int32} (hx : isCd nc x) : ∃ (a : Int32) (μ' : Mu) (kp : Int32) (ν' : Mu), jX1_askKeeping μ (nI h) x = some (a, μ') ∧ jX8_isKept ν (nI h) x = some (kp, ν') ∧ CallFr μ μ' ν ν' ∧ ((a = -11 ∧ ν' 0 0 21 = 1 ∧ Rel nc nh nt rows 1 μ' ν') ∨ (¬ a = -11 ∧ ν' 0 0 21 = 0 ∧ Rel nc nh nt rows 0 μ' ν' ∧ ((a = 1 ∧ kp = 1) ∨ (a = 0 ∧ kp = 0)))) := by
  obtain ⟨xn, hxn, rfl⟩ := hx
  obtain ⟨eff, μ', lies, ν', e1, e2, fr, hq⟩ := call_sim hR ht hh
  have hn := hR.1.1
  have hh8 : h < 8 := by have := hR.2.1.1; omega
  have h1 : inb (nI xn) 120 = true := by rw [n_in (by omega)]; exact decide_eq_true (by omega)
  have h3 : inb (nI h) 8 = true := by rw [n_in (by omega)]; exact decide_eq_true (by omega)
  unfold jX1_askKeeping jX8_isKept
  rw [e1, e2, Option.bind_some, Option.bind_some]
  simp only [h1, h3, if_true, n_cl (show xn < 100000 by omega), n_cl (show h < 100000 by omega)]
  rcases hq with ⟨q1, q2, q3, q4⟩ | ⟨q1, q2, q3, q4⟩
  · rw [if_neg q1, q2, if_pos rfl]
    by_cases z : ν' 1 0 xn < ν' 5 0 h
    · rw [if_pos z]
      exact ⟨_, _, _, _, rfl, rfl, fr, Or.inl ⟨rfl, q3, q4⟩⟩
    · rw [if_neg z, if_neg (by decide)]
      exact ⟨_, _, _, _, rfl, rfl, fr, Or.inl ⟨rfl, q3, q4⟩⟩
  · rw [if_pos q1, weightOf_at q3.1.1 q3.1.2.1 hxn, Option.bind_some, numberOf_at q3.2.1.1 q3.2.1.2.1 hh, Option.bind_some, ← (q3.1.2.2.2 xn hxn).1, ← (q3.2.1.2.2.2.1 h hh).2.1]
    by_cases z : μ' 3 0 xn < μ' 11 h 1
    · rw [if_pos z, if_pos z]
      rcases q4 with ⟨rfl, rfl⟩ | ⟨q4, rfl⟩
      · exact ⟨_, _, _, _, rfl, rfl, fr, Or.inr ⟨by decide, q2, q3, Or.inl ⟨by decide, rfl⟩⟩⟩
      · rw [if_neg q4]
        exact ⟨_, _, _, _, rfl, rfl, fr, Or.inr ⟨by decide, q2, q3, Or.inr ⟨rfl, rfl⟩⟩⟩
    · rw [if_neg z, if_neg z]
      rcases q4 with ⟨rfl, rfl⟩ | ⟨q4, rfl⟩
      · exact ⟨_, _, _, _, rfl, rfl, fr, Or.inr ⟨by decide, q2, q3, Or.inr ⟨by decide, rfl⟩⟩⟩
      · rw [if_neg q4]
        exact ⟨_, _, _, _, rfl, rfl, fr, Or.inr ⟨by decide, q2, q3, Or.inl ⟨rfl, rfl⟩⟩⟩
