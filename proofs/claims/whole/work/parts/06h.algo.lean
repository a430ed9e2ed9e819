/-! HALVING, UP, DOWN: both sides step for step. -/
theorem CallFr.rf {μ ν : Mu} : CallFr μ μ ν ν := ⟨fun _ _ => rfl, fun _ => ⟨rfl, rfl⟩, fun _ _ => rfl, ⟨rfl, rfl, rfl, rfl⟩, rfl⟩
theorem CallFr.tr {μ μ1 μ2 ν ν1 ν2 : Mu} (h1 : CallFr μ μ1 ν ν1) (h2 : CallFr μ1 μ2 ν1 ν2) : CallFr μ μ2 ν ν2 := by
  obtain ⟨a1, a2, a3, ⟨a4, a5, a6, a7⟩, a8⟩ := h1
  obtain ⟨b1, b2, b3, ⟨b4, b5, b6, b7⟩, b8⟩ := h2
  exact ⟨fun c hc => (b1 c hc).trans (a1 c hc), fun k => ⟨(b2 k).1.trans (a2 k).1, (b2 k).2.trans (a2 k).2⟩, fun c hc => (b3 c hc).trans (a3 c hc), ⟨b4.trans a4, b5.trans a5, b6.trans a6, b7.trans a7⟩, b8.trans a8⟩
theorem CallFr.row {μ μ' ν ν' : Mu} (h : CallFr μ μ' ν ν') {k : Nat} {l : List Int32} (hr : RowIs μ k l) : RowIs μ' k l := by
  unfold RowIs
  rw [h.1 14 (by omega), h.1 15 (by omega)]
  exact hr
theorem CallFr.rowR {μ μ' ν ν' : Mu} (h : CallFr μ μ' ν ν') {l : List Int32} (hr : RowR ν l) : RowR ν' l := by
  unfold RowR
  rw [h.2.2.2.1.2.2.1, h.2.2.1 27 (by omega)]
  exact hr
theorem CallFr.cmp {μ μ' ν ν' : Mu} (h : CallFr μ μ' ν ν') {k : Nat} (hc : isCmp μ k) : isCmp μ' k := isCmp_to (fun k => (h.2.1 k).1) hc
/-- what the steps on a working row leave as it was -/
def Fr (k : Nat) (μ μ' ν ν' : Mu) : Prop := (∀ k', k' ≠ k → μ' 14 k' = μ 14 k' ∧ μ' 15 k' = μ 15 k') ∧ μ' 13 = μ 13 ∧ (∀ h, μ' 11 h 0 = μ 11 h 0) ∧ ν' 28 = ν 28 ∧ ν' 15 = ν 15 ∧ ν' 16 = ν 16 ∧ ν' 17 = ν 17 ∧ ν' 18 = ν 18
theorem Fr.rf {k : Nat} {μ ν : Mu} : Fr k μ μ ν ν := ⟨fun _ _ => ⟨rfl, rfl⟩, rfl, fun _ => rfl, rfl, rfl, rfl, rfl, rfl⟩
theorem Fr.tr {k : Nat} {μ μ1 μ2 ν ν1 ν2 : Mu} (h1 : Fr k μ μ1 ν ν1) (h2 : Fr k μ1 μ2 ν1 ν2) : Fr k μ μ2 ν ν2 := by
  obtain ⟨a1, a2, a3, a4, a5, a6, a7, a8⟩ := h1
  obtain ⟨b1, b2, b3, b4, b5, b6, b7, b8⟩ := h2
  exact ⟨fun c hc => ⟨(b1 c hc).1.trans (a1 c hc).1, (b1 c hc).2.trans (a1 c hc).2⟩, b2.trans a2, fun h => (b3 h).trans (a3 h), b4.trans a4, b5.trans a5, b6.trans a6, b7.trans a7, b8.trans a8⟩
theorem CallFr.fr {k : Nat} {μ μ' ν ν' : Mu} (h : CallFr μ μ' ν ν') : Fr k μ μ' ν ν' := ⟨fun k' _ => ⟨by rw [h.1 14 (by omega)], by rw [h.1 15 (by omega)]⟩, h.1 13 (by omega), fun k => (h.2.1 k).1, h.2.2.1 28 (by omega), h.2.2.1 15 (by omega), h.2.2.1 16 (by omega), h.2.2.1 17 (by omega), h.2.2.1 18 (by omega)⟩
theorem OnlyRR.kind {ν ν' : Mu} (h : OnlyRR ν ν') {c : Nat} (hc : ¬ (c = 27 ∨ c = 0)) : ν' c = ν c := by
  funext k j
  exact h c k j (by omega)
theorem Fr.scr {k : Nat} {μ μ' ν ν' : Mu} (h : OnlyRow k μ μ') (h2 : OnlyRR ν ν') : Fr k μ μ' ν ν' := ⟨fun k' hk => ⟨h 14 k' (by omega), h 15 k' (by omega)⟩, by funext k'; exact h 13 k' (by omega), fun q => by rw [h 11 q (by omega)], h2.kind (by omega), h2.kind (by omega), h2.kind (by omega), h2.kind (by omega), h2.kind (by omega)⟩
theorem Fr.row {k k' : Nat} {μ μ' ν ν' : Mu} (h : Fr k μ μ' ν ν') (hk : k' ≠ k) {l : List Int32} (hr : RowIs μ k' l) : RowIs μ' k' l := by
  unfold RowIs
  rw [(h.1 k' hk).1, (h.1 k' hk).2]
  exact hr
theorem Fr.cmp {k : Nat} {μ μ' ν ν' : Mu} (h : Fr k μ μ' ν ν') {q : Nat} (hc : isCmp μ q) : isCmp μ' q := isCmp_to h.2.2.1 hc
/-- the working rows are no part of the relation -/
theorem Rel.scr {nc nh nt : Nat} {rows : Nat → List Int32} {b : Int32} {μ ν μ' ν' : Mu} (h : Rel nc nh nt rows b μ ν) {k : Nat} (hk : 6 ≤ k) (o : OnlyRow k μ μ') (o2 : OnlyRR ν ν') : Rel nc nh nt rows b μ' ν' := by
  obtain ⟨hD, hH, ⟨np, hP⟩, hL, hT⟩ := h
  have m : ∀ c, c ≠ 14 → c ≠ 15 → μ' c = μ c := fun c h1 h2 => by funext k'; exact o c k' (by omega)
  have n0 : ∀ j, j ≠ 26 → ν' 0 0 j = ν 0 0 j := fun j hj => o2 0 0 j (by omega)
  have n : ∀ c, ¬ (c = 27 ∨ c = 0) → ν' c = ν c := fun c hc => o2.kind hc
  refine ⟨hD.to (m 2 (by decide) (by decide)) (m 3 (by decide) (by decide)) (m 4 (by decide) (by decide)) (n0 0 (by decide)) (n 1 (by decide)) (n 2 (by decide)), hH.to (m 1 (by decide) (by decide)) (m 11 (by decide) (by decide)) (n0 3 (by decide)) (n 4 (by decide)) (n 5 (by decide)) (n 6 (by decide)) (n 7 (by decide)) (n 8 (by decide)), ⟨np, hP.to (m 5 (by decide) (by decide)) (m 6 (by decide) (by decide)) (m 7 (by decide) (by decide)) (m 8 (by decide) (by decide)) (n0 9 (by decide)) (n 10 (by decide)) (n 11 (by decide)) (n 12 (by decide)) (n 13 (by decide))⟩, hL.to (m 9 (by decide) (by decide)) (n0 19 (by decide)) (n0 20 (by decide)) (n0 22 (by decide)) (n0 23 (by decide)) (n0 24 (by decide)) (n0 25 (by decide)), hT.to (m 0 (by decide) (by decide)) (fun q => by rw [m 11 (by decide) (by decide)]) (m 13 (by decide) (by decide)) (fun t ht => o 14 t (by omega)) (fun t ht => o 15 t (by omega)) (n0 14 (by decide)) (n 15 (by decide)) (n 16 (by decide)) (n 17 (by decide)) (n 18 (by decide))⟩
theorem half_nI {a b : Nat} (h : a + b < 100000) : (nI a + nI b) / 2 = nI ((a + b) / 2) := by
  rw [n_add, zl2]
  exact pk_div (by omega) (by omega) (by omega)
set_option maxHeartbeats 1000000 in
theorem halving_sim {nc nh nt : Nat} {rows : Nat → List Int32} {h k : Nat} {c : Int32} {l : List Int32} (hh : h < nh) (hcd : isCd nc c) (hl40 : l.length ≤ 40) (hl : ∀ x ∈ l, isCd nc x) : ∀ (n n' lo hi : Nat) (μ ν : Mu), Rel nc nh nt rows 0 μ ν → ν 0 0 21 = 0 → isCmp μ h → RowIs μ k l → RowR ν l → lo ≤ hi → hi ≤ l.length → hi - lo < n → hi - lo + 1 < n' → ∃ (a : Int32) (μ' : Mu) (p : Nat) (ν' : Mu), jX5_placeFor_L9 k c (nI h) n μ (nI lo) (nI hi) = some (a, μ') ∧ jX8_halving_L8 (nI h) c n' ν (nI lo) (nI hi) = some (nI p, ν') ∧ CallFr μ μ' ν ν' ∧ p ≤ l.length ∧ ((a = -11 ∧ ν' 0 0 21 = 1 ∧ Rel nc nh nt rows 1 μ' ν') ∨ (a = nI p ∧ ν' 0 0 21 = 0 ∧ Rel nc nh nt rows 0 μ' ν')) := by
  intro n
  induction n with
  | zero => intro n' lo hi μ ν _ _ _ _ _ _ _ q; exact absurd q (Nat.not_lt_zero _)
  | succ n ih =>
    intro n' lo hi μ ν hR ht hc hr hr2 hlo hhi hn hn'
    obtain ⟨n', rfl⟩ : ∃ z, n' = z + 1 := ⟨n' - 1, by omega⟩
    rw [jX5_placeFor_L9, jX8_halving_L8]
    by_cases hq : lo = hi
    · have e : nI hi ≤ nI lo := by rw [n_le (by omega) (by omega)]; omega
      rw [if_pos e, if_pos e]
      exact ⟨_, _, lo, _, rfl, rfl, CallFr.rf, by omega, Or.inr ⟨rfl, ht, hR⟩⟩
    · have e : ¬ nI hi ≤ nI lo := by rw [n_le (by omega) (by omega)]; omega
      have hm : (lo + hi) / 2 < l.length := by omega
      rw [if_neg e, if_neg e, half_nI (by omega), cardAt_at hr _ hm, Option.bind_some, if_pos ht, if_pos (by rw [n_in (by omega)]; exact decide_eq_true (by omega)), n_cl (by omega)]
      have e1 := hr.2.2 _ hm
      have e2 : μ 15 k ((lo + hi) / 2) = ν 27 0 ((lo + hi) / 2) := Option.some.inj (e1.symm.trans (hr2.2.2 _ hm))
      rw [← e2]
      obtain ⟨a, μ', ah, ν', a1, a2, fr, hs⟩ := ask_sim hR ht hh hc hcd (hl _ (List.mem_of_getElem? e1))
      rw [a1, a2, Option.bind_some, Option.bind_some]
      dsimp only
      rcases hs with ⟨s1, s2, s3, s4⟩ | ⟨s1, s2, s3, ⟨s4, s5⟩ | ⟨s4, s5, s6⟩⟩
      · rw [if_pos s1, if_pos s2, zl1, n_add]
        obtain ⟨n2, rfl⟩ : ∃ z, n' = z + 1 := ⟨n' - 1, by omega⟩
        rw [jX8_halving_L8, if_neg (show ¬ ν' 0 0 21 = 0 by rw [s3]; decide)]
        have hz : (if nI hi ≤ nI ((lo + hi) / 2 + 1) then some (nI ((lo + hi) / 2 + 1), ν') else some (nI ((lo + hi) / 2 + 1), ν')) = some (nI ((lo + hi) / 2 + 1), ν') := by
          by_cases z : nI hi ≤ nI ((lo + hi) / 2 + 1)
          · rw [if_pos z]
          · rw [if_neg z]
        rw [hz]
        exact ⟨_, _, _, _, rfl, rfl, fr, by omega, Or.inl ⟨rfl, s3, s4⟩⟩
      · rw [if_neg s1, if_neg (show ¬ ah = 0 by rw [s5]; decide), if_neg (show ¬ 0 ≤ a from fun z => by rw [Int32.lt_iff_toInt_lt] at s4; rw [Int32.le_iff_toInt_le] at z; omega)]
        obtain ⟨a', μ2, p, ν2, b1, b2, b3, b4, b5⟩ := ih n' lo ((lo + hi) / 2) μ' ν' s3 s2 (fr.cmp hc) (fr.row hr) (fr.rowR hr2) (by omega) (by omega) (by omega) (by omega)
        exact ⟨a', μ2, p, ν2, b1, b2, fr.tr b3, b4, b5⟩
      · rw [if_neg s1, if_pos s6, if_pos s5, zl1, n_add]
        obtain ⟨a', μ2, p, ν2, b1, b2, b3, b4, b5⟩ := ih n' ((lo + hi) / 2 + 1) hi μ' ν' s3 s2 (fr.cmp hc) (fr.row hr) (fr.rowR hr2) (by omega) (by omega) (by omega) (by omega)
        exact ⟨a', μ2, p, ν2, b1, b2, fr.tr b3, b4, b5⟩
theorem mem_set2 {l : List Int32} {P : Int32 → Prop} (hl : ∀ x ∈ l, P x) {i j : Nat} {x y : Int32} (hx : P x) (hy : P y) : ∀ z ∈ (l.set i x).set j y, P z := by
  intro z hz
  rcases List.mem_or_eq_of_mem_set hz with hz | rfl
  · rcases List.mem_or_eq_of_mem_set hz with hz | rfl
    · exact hl z hz
    · exact hx
  · exact hy
theorem par_nI {i : Nat} (h0 : 0 < i) (h : i < 100000) : (nI i - 1) / 2 = nI ((i - 1) / 2) := by
  rw [zl1, n_sub (by omega), zl2]
  exact pk_div (by omega) (by omega) (by omega)
theorem a_ne {a : Nat} (h : a < 100000) : ¬ nI a = (-11 : Int32) := by
  intro q
  have := congrArg Int32.toInt q
  rw [nI_toInt (by omega)] at this
  have h4 : (-11 : Int32).toInt = -11 := rfl
  rw [h4] at this
  omega
set_option maxHeartbeats 1000000 in
theorem up_sim {nc nh nt : Nat} {rows : Nat → List Int32} {h k f0 : Nat} {x1 : Int32} (hk : 6 ≤ k) (hh : h < nh) (hf0 : f0 < 1000) : ∀ (n n' i : Nat) (μ ν : Mu) (l : List Int32), Rel nc nh nt rows 0 μ ν → ν 0 0 21 = 0 → isCmp μ h → RowIs μ k l → RowR ν l → (∀ x ∈ l, isCd nc x) → i < l.length → i ≤ f0 → i < n → i + 1 < n' → ∃ (a : Int32) (μ' : Mu) (r : Int32) (ν' : Mu), jX5_rise_L3 k x1 (nI h) n μ (nI i) = some (a, μ') ∧ jX8_up_L13 (nI h) (nI f0) n' ν (nI i) (if i = 0 then 0 else 1) = some (r, ν') ∧ Fr k μ μ' ν ν' ∧ ((a = -11 ∧ ν' 0 0 21 = 1 ∧ Rel nc nh nt rows 1 μ' ν') ∨ (∃ q l', q ≤ i ∧ a = nI q ∧ r = (if q = f0 then 0 else 1) ∧ ν' 0 0 21 = 0 ∧ Rel nc nh nt rows 0 μ' ν' ∧ RowIs μ' k l' ∧ RowR ν' l' ∧ l'.length = l.length ∧ ∀ x ∈ l', isCd nc x)) := by
  intro n
  induction n with
  | zero => intro n' i μ ν l _ _ _ _ _ _ _ _ q; exact absurd q (Nat.not_lt_zero _)
  | succ n ih =>
    intro n' i μ ν l hR ht hc hr hr2 hl hi hif hn hn'
    have hl40 := hr.1
    obtain ⟨n', rfl⟩ : ∃ z, n' = z + 1 := ⟨n' - 1, by omega⟩
    have hend : ∀ (z : Nat) (w : Mu) (q : Nat), q < 100000 → jX8_up_L13 (nI h) (nI f0) (z + 1) w (nI q) 0 = some (if q = f0 then 0 else 1, w) := by
      intro z w q hq
      rw [jX8_up_L13, if_pos rfl]
      by_cases e : q = f0
      · subst e; rw [if_pos rfl, if_pos rfl]
      · rw [if_neg (by rw [n_eq (by omega) (by omega)]; exact e), if_neg e]
    by_cases h0 : i = 0
    · subst h0
      rw [jX5_rise_L3, if_pos (by decide), if_pos rfl, hend _ _ _ (by omega)]
      exact ⟨_, _, _, _, rfl, rfl, Fr.rf, Or.inr ⟨0, l, by omega, rfl, rfl, ht, hR, hr, hr2, rfl, hl⟩⟩
    · rw [jX5_rise_L3, if_neg (by rw [zl0, n_le (by omega) (by omega)]; omega), if_neg h0, jX8_up_L13, if_neg (by decide), par_nI (by omega) (by omega)]
      have hp : (i - 1) / 2 < l.length := by omega
      rw [cardAt_at hr i hi, Option.bind_some, cardAt_at hr _ hp, Option.bind_some, if_pos (by rw [n_in (by omega)]; exact decide_eq_true (by omega)), if_pos (by rw [n_in (by omega)]; exact decide_eq_true (by omega)), n_cl (by omega), n_cl (by omega)]
      have e1 := hr.2.2 i hi
      have e2 := hr.2.2 _ hp
      have f1 : μ 15 k i = ν 27 0 i := Option.some.inj (e1.symm.trans (hr2.2.2 _ hi))
      have f2 : μ 15 k ((i - 1) / 2) = ν 27 0 ((i - 1) / 2) := Option.some.inj (e2.symm.trans (hr2.2.2 _ hp))
      rw [← f1, ← f2]
      obtain ⟨a, μ', ah, ν', a1, a2, fr, hs⟩ := ask_sim hR ht hh hc (hl _ (List.mem_of_getElem? e1)) (hl _ (List.mem_of_getElem? e2))
      rw [a1, a2, Option.bind_some, Option.bind_some]
      dsimp only
      obtain ⟨n2, rfl⟩ : ∃ z, n' = z + 1 := ⟨n' - 1, by omega⟩
      rcases hs with ⟨s1, s2, s3, s4⟩ | ⟨s1, s2, s3, ⟨s4, s5⟩ | ⟨s4, s5, s6⟩⟩
      · rw [if_pos s1, if_pos s2, s2, hend _ _ _ (by omega)]
        exact ⟨_, _, _, _, rfl, rfl, fr.fr, Or.inl ⟨rfl, s3, s4⟩⟩
      · rw [if_neg s1, if_pos s4, if_neg (show ¬ ah = 0 by rw [s5]; decide)]
        have hr' := fr.row hr
        have hr2' := fr.rowR hr2
        obtain ⟨μ2, b1, b2, b3⟩ := swap_row hr' hi hp
        obtain ⟨ν2, c1, c2, c3⟩ := turn_row hr2' hi hp
        rw [b1, c1, Option.bind_some, Option.bind_some]
        have g1 : μ' 15 k i = ν' 27 0 i := Option.some.inj ((hr'.2.2 _ hi).symm.trans (hr2'.2.2 _ hi))
        have g2 : μ' 15 k ((i - 1) / 2) = ν' 27 0 ((i - 1) / 2) := Option.some.inj ((hr'.2.2 _ hp).symm.trans (hr2'.2.2 _ hp))
        rw [← g1, ← g2] at c3
        have hz : (if nI ((i - 1) / 2) ≤ 0 then jX8_up_L13 (nI h) (nI f0) (n2 + 1) ν2 (nI ((i - 1) / 2)) 0 else jX8_up_L13 (nI h) (nI f0) (n2 + 1) ν2 (nI ((i - 1) / 2)) 1) = jX8_up_L13 (nI h) (nI f0) (n2 + 1) ν2 (nI ((i - 1) / 2)) (if (i - 1) / 2 = 0 then 0 else 1) := by
          by_cases z : (i - 1) / 2 = 0
          · rw [if_pos z, if_pos (by rw [zl0, n_le (by omega) (by omega)]; omega)]
          · rw [if_neg z, if_neg (by rw [zl0, n_le (by omega) (by omega)]; omega)]
        rw [hz]
        have hl2 : ∀ x ∈ (l.set i (μ' 15 k ((i - 1) / 2))).set ((i - 1) / 2) (μ' 15 k i), isCd nc x := mem_set2 hl (hl _ (List.mem_of_getElem? (hr'.2.2 _ hp))) (hl _ (List.mem_of_getElem? (hr'.2.2 _ hi)))
        have fr2 : Fr k μ' μ2 ν' ν2 := Fr.scr b2 c2
        obtain ⟨a', μ3, r, ν3, d1, d2, d3, d4⟩ := ih (n2 + 1) ((i - 1) / 2) μ2 ν2 _ (s3.scr hk b2 c2) (by rw [c2 0 0 21 (by omega)]; exact s2) (fr2.cmp (fr.cmp hc)) b3 c3 hl2 (by simp; omega) (by omega) (by omega) (by omega)
        refine ⟨a', μ3, r, ν3, d1, d2, (fr.fr.tr fr2).tr d3, ?_⟩
        rcases d4 with d4 | ⟨q, l', d5, d6, d7, d8, d9, d10, d11, d12, d13⟩
        · exact Or.inl d4
        · exact Or.inr ⟨q, l', by omega, d6, d7, d8, d9, d10, d11, by rw [d12]; simp, d13⟩
      · rw [if_neg s1, if_neg s4, if_pos s6, s6, hend _ _ _ (by omega)]
        exact ⟨_, _, _, _, rfl, rfl, fr.fr, Or.inr ⟨i, l, by omega, rfl, rfl, s2, s3, fr.row hr, fr.rowR hr2, rfl, hl⟩⟩
