/-! put, take, first, find. -/
theorem Rel.held {nc nh nt : Nat} {rows : Nat → List Int32} {b : Int32} {μ ν : Mu} (h : Rel nc nh nt rows b μ ν) {t : Nat} (ht : t < 6) : HeldIs ν t (rows t) := (h.row ht).2.1
/-- an act begins, and the tray is loaded -/
theorem load_sim {nc nh nt : Nat} {rows : Nat → List Int32} {μ ν : Mu} (hR : Rel nc nh nt rows 0 μ ν) (hth : ν 0 0 21 = 0) {t : Nat} (ht : t < nt) : ∃ (ν' : Mu), jX8_load ν (nI t) = some ν' ∧ Rel nc nh nt rows 0 μ ν' ∧ ν' 0 0 21 = 0 ∧ RowR ν' (rows t) ∧ OnlyRR ν ν' := by
  have h6 := hR.nt6
  obtain ⟨ν', e, o, r⟩ := load_row (show t < 6 by omega) (hR.held (show t < 6 by omega))
  exact ⟨ν', e, hR.scr (k := 6) (by decide) OnlyRow.rf o, by rw [o 0 0 21 (by omega)]; exact hth, r, o⟩
theorem sim_put {μ ν : Mu} (h : RelE μ ν) (a b : Int32) : ∃ (r : Int32) (μ' ν' : Mu), jX7_put μ a b = some (r, μ') ∧ jX8_put ν a b = some (r, ν') ∧ RelE μ' ν' := by
  obtain ⟨nc, nh, nt, rows, hR⟩ := id h
  have h6 := hR.nt6
  have hnc := hR.1.1
  unfold jX7_put jX8_put
  rw [(hasTray_at hR a).1, (hasTray_at hR a).2, (hasCard_at hR b).1, (hasCard_at hR b).2, Option.bind_some, Option.bind_some, Option.bind_some, Option.bind_some, ite10, ite10, ite10, ite10]
  by_cases v : vl a nt
  · rw [if_pos v, if_pos v]
    by_cases w : vl b nc
    · rw [if_pos w, if_pos w]
      obtain ⟨t, ht, rfl⟩ := vl_nI v (by omega)
      have hcd : isCd nc b := vl_nI w (by omega)
      have it : inb (nI t) 6 = true := by rw [n_in (by omega)]; exact decide_eq_true (by omega)
      obtain ⟨r1, s1, hl⟩ := hR.row (show t < 6 by omega)
      have hl40 := r1.1
      simp only [it, if_true, n_cl (show t < 100000 by omega), r1.2.1, s1.2.1]
      by_cases q : (rows t).length = 40
      · rw [if_neg (show ¬ nI (rows t).length < 40 by rw [zl40, n_lt (by omega) (by omega)]; omega), if_pos (show nI (rows t).length = 40 by rw [zl40, n_eq (by omega) (by omega)]; exact q)]
        exact ⟨_, _, _, rfl, rfl, h⟩
      · rw [if_pos (show nI (rows t).length < 40 by rw [zl40, n_lt (by omega) (by omega)]; omega), if_neg (show ¬ nI (rows t).length = 40 by rw [zl40, n_eq (by omega) (by omega)]; exact q)]
        obtain ⟨μ1, ν1, a1, a2, hR1, ht1, m1, -, n1⟩ := begin_sim hR
        obtain ⟨ν2, b1, hR2, ht2, rr2, o2⟩ := load_sim hR1 ht1 ht
        obtain ⟨μ2, c1, c2, c3⟩ := copy_row (show 6 ≠ t by omega) (hR2.row (show t < 6 by omega)).1
        have hR3 := hR2.scr (k := 6) (by decide) c2 OnlyRR.rf
        rw [a1, a2, Option.bind_some, Option.bind_some, b1, c1, Option.bind_some, Option.bind_some]
        obtain ⟨k1, k2, -⟩ := hR3.2.2.2.2.2.2.2.1 t ht
        rw [← k1, ← k2]
        obtain ⟨res, μ3, ν3, d1, d2, d3, d4⟩ := place_sim hR3 ht2 ht c3 rr2 hl (by omega) hcd
        rw [d1, d2, Option.bind_some, Option.bind_some]
        dsimp only
        rcases d4 with ⟨e1, e2, e3⟩ | ⟨e1, e2, e3, l', e4, e5, e6, e7⟩
        · obtain ⟨ν4, f1, f2, f3, -⟩ := end_thr e3 e2 t
          rw [e1, f1, f2, Option.bind_some, Option.bind_some]
          exact ⟨_, _, _, rfl, rfl, nc, nh, nt, rows, f3⟩
        · obtain ⟨μ4, ν4, f1, f2, f3⟩ := end_ok e3 e2 ht e4 e5 e7
          rw [e1, f1, f2, Option.bind_some, Option.bind_some]
          exact ⟨_, _, _, rfl, rfl, nc, nh, nt, _, f3⟩
    · rw [if_neg w, if_neg w]
      exact ⟨_, _, _, rfl, rfl, h⟩
  · rw [if_neg v, if_neg v]
    exact ⟨_, _, _, rfl, rfl, h⟩
theorem hasPlace_gen {μ : Mu} {k : Nat} {l : List Int32} (r : RowIs μ k l) (b : Int32) : jX5_hasPlace μ k b = some (if vl b l.length then 1 else 0) := by
  have hl := r.1
  unfold jX5_hasPlace
  rw [r.2.1]
  exact has_gen (by omega) b
theorem take_in {n : Nat} (hn : n ≤ 1000) (b : Int32) : jX8_in b.toInt64 0 ((nI n - 1).toInt64) = some (if vl b n then 1 else 0) := by
  have e : (nI n - 1).toInt = (n : Int) - 1 := by rw [zl1]; exact pk_sub_toInt (by omega) (by omega)
  rw [in_at, Int32.toInt_toInt64, Int32.toInt_toInt64, e, show (0 : Int64).toInt = 0 from rfl]
  by_cases h : vl b n
  · have hw : wi b.toInt 0 ((n : Int) - 1) := by unfold wi; unfold vl at h; omega
    rw [if_pos hw, if_pos h]
  · have hw : ¬ wi b.toInt 0 ((n : Int) - 1) := by unfold wi; unfold vl at h; omega
    rw [if_neg hw, if_neg h]
/-- the act of take() and first(), from its beginning on -/
theorem take_core {nc nh nt : Nat} {rows : Nat → List Int32} {μ ν : Mu} (hR : Rel nc nh nt rows 0 μ ν) {t p : Nat} (ht : t < nt) (hp : p < (rows t).length) : ∃ (μ1 ν1 ν2 : Mu) (res : Int32) (μ3 ν3 : Mu) (r : Int32) (μ' ν' : Mu), jX1_beginAct μ = some μ1 ∧ jX8_beginAct ν = some ν1 ∧ jX8_load ν1 (nI t) = some ν2 ∧ jX7_removeOnDraft μ1 t (nI p) = some (res, μ3) ∧ jX8_goes ν2 (nI t) (nI p) = some ν3 ∧ jX7_keepDraft μ3 t res = some (r, μ') ∧ jX8_ends ν3 (nI t) = some (r, ν') ∧ RelE μ' ν' := by
  have h6 := hR.nt6
  obtain ⟨μ1, ν1, a1, a2, hR1, ht1, m1, -, n1⟩ := begin_sim hR
  obtain ⟨ν2, b1, hR2, ht2, rr2, o2⟩ := load_sim hR1 ht1 ht
  obtain ⟨res, μ3, ν3, d1, d2, d3, d4⟩ := goes_sim hR2 ht2 ht rr2 hp
  rcases d4 with ⟨e1, e2, e3⟩ | ⟨e1, e2, e3, l', e4, e5, e7⟩
  · obtain ⟨ν4, f1, f2, f3, -⟩ := end_thr e3 e2 t
    exact ⟨μ1, ν1, ν2, res, μ3, ν3, _, _, _, a1, a2, b1, d1, d2, by rw [e1]; exact f1, f2, nc, nh, nt, rows, f3⟩
  · obtain ⟨μ4, ν4, f1, f2, f3⟩ := end_ok e3 e2 ht e4 e5 e7
    exact ⟨μ1, ν1, ν2, res, μ3, ν3, _, _, _, a1, a2, b1, d1, d2, by rw [e1]; exact f1, f2, nc, nh, nt, _, f3⟩
theorem sim_take {μ ν : Mu} (h : RelE μ ν) (a b : Int32) : ∃ (r : Int32) (μ' ν' : Mu), jX7_take μ a b = some (r, μ') ∧ jX8_take ν a b = some (r, ν') ∧ RelE μ' ν' := by
  obtain ⟨nc, nh, nt, rows, hR⟩ := id h
  have h6 := hR.nt6
  unfold jX7_take jX8_take
  rw [(hasTray_at hR a).1, (hasTray_at hR a).2, Option.bind_some, Option.bind_some, ite10, ite10]
  by_cases v : vl a nt
  · rw [if_pos v, if_pos v]
    obtain ⟨t, ht, rfl⟩ := vl_nI v (by omega)
    have it : inb (nI t) 6 = true := by rw [n_in (by omega)]; exact decide_eq_true (by omega)
    obtain ⟨r1, s1, hl⟩ := hR.row (show t < 6 by omega)
    have hl40 := r1.1
    simp only [it, if_true, n_cl (show t < 100000 by omega), s1.2.1]
    rw [hasPlace_gen r1, take_in (by omega), Option.bind_some, Option.bind_some, ite10, ite10]
    by_cases w : vl b (rows t).length
    · rw [if_pos w, if_pos w]
      obtain ⟨p, hp, rfl⟩ := vl_nI w (by omega)
      obtain ⟨μ1, ν1, ν2, res, μ3, ν3, r, μ', ν', a1, a2, a3, a4, a5, a6, a7, a8⟩ := take_core hR ht hp
      rw [a1, a2, Option.bind_some, Option.bind_some, a3, a4, Option.bind_some, Option.bind_some]
      dsimp only
      rw [a5, a6, Option.bind_some, Option.bind_some, a7, Option.bind_some]
      exact ⟨_, _, _, rfl, rfl, a8⟩
    · rw [if_neg w, if_neg w]
      exact ⟨_, _, _, rfl, rfl, h⟩
  · rw [if_neg v, if_neg v]
    exact ⟨_, _, _, rfl, rfl, h⟩
theorem sim_first {μ ν : Mu} (h : RelE μ ν) (a : Int32) : ∃ (r : Int32) (μ' ν' : Mu), jX7_first μ a = some (r, μ') ∧ jX8_first ν a = some (r, ν') ∧ RelE μ' ν' := by
  obtain ⟨nc, nh, nt, rows, hR⟩ := id h
  have h6 := hR.nt6
  unfold jX7_first jX8_first
  rw [(hasTray_at hR a).1, (hasTray_at hR a).2, Option.bind_some, Option.bind_some, ite10, ite10]
  by_cases v : vl a nt
  · rw [if_pos v, if_pos v]
    obtain ⟨t, ht, rfl⟩ := vl_nI v (by omega)
    have it : inb (nI t) 6 = true := by rw [n_in (by omega)]; exact decide_eq_true (by omega)
    obtain ⟨r1, s1, hl⟩ := hR.row (show t < 6 by omega)
    have hl40 := r1.1
    have e40 : (40 : Int32) * nI t = nI (40 * t) := by rw [zl40, pk_mul]
    have i40 : inb (nI (40 * t)) 240 = true := by rw [n_in (by omega)]; exact decide_eq_true (by omega)
    rw [e40]
    simp only [it, i40, if_true, n_cl (show t < 100000 by omega), n_cl (show 40 * t < 100000 by omega), s1.2.1]
    rw [zl0, hasPlace_at r1 0 (by omega), Option.bind_some]
    by_cases w : 0 < (rows t).length
    · rw [if_pos w, if_neg (show ¬ (1 : Int32) = nI 0 by decide), if_neg (show ¬ nI (rows t).length = nI 0 by rw [n_eq (by omega) (by omega)]; omega), cardAt_at r1 0 w, Option.bind_some]
      obtain ⟨μ1, ν1, ν2, res, μ3, ν3, r, μ', ν', a1, a2, a3, a4, a5, a6, a7, a8⟩ := take_core hR ht w
      rw [a1, a2, Option.bind_some, Option.bind_some, a3, a4, Option.bind_some, Option.bind_some]
      dsimp only
      rw [a5, a6, Option.bind_some, Option.bind_some, a7, Option.bind_some]
      dsimp only
      have e0 : ν 18 0 (40 * t) = μ 15 t 0 := Option.some.inj ((s1.2.2 0 w).symm.trans (r1.2.2 0 w))
      rw [e0]
      by_cases q : r = nI 0
      · rw [if_pos q, if_pos q]
        exact ⟨_, _, _, rfl, rfl, a8⟩
      · rw [if_neg q, if_neg q]
        exact ⟨_, _, _, rfl, rfl, a8⟩
    · rw [if_neg w, if_pos (show (0 : Int32) = nI 0 from rfl), if_pos (show nI (rows t).length = nI 0 by rw [n_eq (by omega) (by omega)]; omega)]
      exact ⟨_, _, _, rfl, rfl, h⟩
  · rw [if_neg v, if_neg v]
    exact ⟨_, _, _, rfl, rfl, h⟩
theorem sim_find {μ ν : Mu} (h : RelE μ ν) (a b : Int32) : ∃ (r : Int32) (μ' ν' : Mu), jX7_find μ a b = some (r, μ') ∧ jX8_find ν a b = some (r, ν') ∧ RelE μ' ν' := by
  obtain ⟨nc, nh, nt, rows, hR⟩ := id h
  have h6 := hR.nt6
  have hnc := hR.1.1
  unfold jX7_find jX8_find
  rw [(hasTray_at hR a).1, (hasTray_at hR a).2, (hasCard_at hR b).1, (hasCard_at hR b).2, Option.bind_some, Option.bind_some, Option.bind_some, Option.bind_some, ite10, ite10, ite10, ite10]
  by_cases v : vl a nt
  · rw [if_pos v, if_pos v]
    by_cases w : vl b nc
    · rw [if_pos w, if_pos w]
      obtain ⟨t, ht, rfl⟩ := vl_nI v (by omega)
      have hcd : isCd nc b := vl_nI w (by omega)
      have it : inb (nI t) 6 = true := by rw [n_in (by omega)]; exact decide_eq_true (by omega)
      obtain ⟨k1, k2, k3⟩ := hR.2.2.2.2.2.2.2.1 t ht
      simp only [it, if_true, n_cl (show t < 100000 by omega), ← k1]
      by_cases q : μ 13 t 1 = 1
      · rw [if_pos q, if_pos q]
        obtain ⟨hk, hh, hke, hc⟩ : ∃ h, h < nh ∧ μ 13 t 2 = nI h ∧ isCmp μ h := by
          rcases k3 with ⟨z, -⟩ | ⟨-, z⟩
          · rw [z] at q; cases q
          · exact z
        obtain ⟨μ1, ν1, a1, a2, hR1, ht1, m1, m11, n1⟩ := begin_sim hR
        obtain ⟨ν2, b1, hR2, ht2, rr2, o2⟩ := load_sim hR1 ht1 ht
        obtain ⟨r1, s1, hl⟩ := hR2.row (show t < 6 by omega)
        have hl40 := r1.1
        have e1 : μ1 13 t 2 = nI hk := by rw [m1 13 (by omega)]; exact hke
        have e2 : ν2 16 0 t = nI hk := by rw [← (hR2.2.2.2.2.2.2.2.1 t ht).2.1]; exact e1
        rw [a1, a2, Option.bind_some, Option.bind_some, b1, Option.bind_some, e1, e2]
        unfold jX5_placeFor jX8_halving
        rw [r1.2.1, rr2.2.1, zl0]
        obtain ⟨x, μ3, p, ν3, d1, d2, fr, hp, hs⟩ := halving_sim hh hcd r1.1 hl fuel fuel 0 (rows t).length μ1 ν2 hR2 ht2 (isCmp_to m11 hc) r1 rr2 (Nat.zero_le _) (Nat.le_refl _) (by have := fuel_ge; omega) (by have := fuel_ge; omega)
        rw [d1, d2, Option.bind_some, Option.bind_some]
        dsimp only
        rcases hs with ⟨s1, s2, s3⟩ | ⟨s1, s2, s3⟩
        · obtain ⟨ν4, f1, f2, f3, -⟩ := end_thr s3 s2 t
          rw [f2, Option.bind_some]
          dsimp only
          rw [if_neg (show ¬ (1 : Int32) = nI 0 by decide), s1]
          exact ⟨_, _, _, rfl, rfl, nc, nh, nt, rows, f3⟩
        · obtain ⟨ν4, g1, g2, g3⟩ := give_row (show t < 6 by omega) hl40 (fr.rowR rr2)
          unfold jX8_ends
          rw [if_pos s2, g1, Option.bind_some, Option.bind_some]
          dsimp only
          rw [if_pos (show (0 : Int32) = nI 0 from rfl), s1]
          refine ⟨_, _, _, rfl, rfl, nc, nh, nt, setR rows t (rows t), s3.giveRow ht (OnlyRow.rf (k := t)) (fr.row r1) g2 g3 hl⟩
      · rw [if_neg q, if_neg q]
        exact ⟨_, _, _, rfl, rfl, h⟩
    · rw [if_neg w, if_neg w]
      exact ⟨_, _, _, rfl, rfl, h⟩
  · rw [if_neg v, if_neg v]
    exact ⟨_, _, _, rfl, rfl, h⟩
