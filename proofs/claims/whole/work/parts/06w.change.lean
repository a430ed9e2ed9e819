/-! change. -/
theorem mu_st_comm {μ : Mu} {c k j c' k' j' : Nat} {x x' : Int32} (h : c ≠ c') : mu_st (mu_st μ c k j x) c' k' j' x' = mu_st (mu_st μ c' k' j' x') c k j x := by
  funext a b d
  simp only [mu_st_app]
  by_cases q1 : a = c ∧ b = k ∧ d = j
  · rw [if_neg (fun q => h (q1.1.symm.trans q.1)), if_pos q1, if_pos q1]
  · rw [if_neg q1, if_neg q1]
theorem mu_st_self {μ : Mu} {c k j : Nat} : mu_st μ c k j (μ c k j) = μ := by
  funext a b d
  rw [mu_st_app]
  by_cases q : a = c ∧ b = k ∧ d = j
  · obtain ⟨rfl, rfl, rfl⟩ := q
    rw [if_pos ⟨rfl, rfl, rfl⟩]
  · rw [if_neg q]
def endC (ν2 : Mu) : Option (Int32 × Mu) := if (ν2 0 0 21) = 0 then mst (mu_st ν2 0 0 20 ((ν2 0 0 20) + 0)) (fun μ25 => if (μ25 0 0 21) = 0 then some (0, μ25) else some (2, μ25)) else mst (mu_st ν2 0 0 20 ((ν2 0 0 20) + 1)) (fun μ27 => if (μ27 0 0 21) = 0 then some (0, μ27) else some (2, μ27))
/-- a card is made of another, and comes into its place -/
theorem Rel.made {nc nh nt : Nat} {rows : Nat → List Int32} {μ ν : Mu} (hR : Rel nc nh nt rows 0 μ ν) {t i : Nat} (ht : t < nt) (hi : i < (rows t).length) (hn : nc < 120) (w m : Int32) : ∃ (μ2 μ3 : Mu), jX0_add μ w m = some (nI nc, μ2) ∧ jX5_replace μ2 t (nI i) (nI nc) = some μ3 ∧ Rel (nc + 1) nh nt (setR rows t ((rows t).set i (nI nc))) 0 (mu_st μ3 9 0 3 (μ3 9 0 3 + 1)) (mu_st (mu_st (mu_st (mu_st (mu_st ν 1 0 nc w) 2 0 nc m) 18 0 (40 * t + i) (nI nc)) 0 0 0 (nI (nc + 1))) 0 0 25 (ν 0 0 25 + 1)) := by
  have h6 := hR.nt6
  obtain ⟨μ2, e1, e2, e3, e4, e5⟩ := add_at hn hR.1.2.1 w m
  have hRa : Rel (nc + 1) nh nt rows 0 μ2 (mu_st (mu_st (mu_st ν 1 0 nc w) 2 0 nc m) 0 0 0 (nI (nc + 1))) := by
    refine hR.addCard hn w m e2 e3 e4 e5 (fun c hc => ?_) (fun j hj => ?_) ?_ (fun j => ?_) (fun j => ?_)
    · rw [mu_st_nc (by omega), mu_st_nc (by omega), mu_st_nc (by omega)]
    · simp [mu_st_app, hj]
    · simp [mu_st_app]
    · simp [mu_st_app]
    · simp [mu_st_app]
  obtain ⟨r1, s1, hl⟩ := hRa.row (show t < 6 by omega)
  obtain ⟨μ3, f1, f2, f3⟩ := replace_row r1 i hi (nI nc)
  refine ⟨μ2, μ3, e1, f1, ?_⟩
  generalize hνa : mu_st (mu_st (mu_st ν 1 0 nc w) 2 0 nc m) 0 0 0 (nI (nc + 1)) = νa at hRa s1
  have oH : OnlyHeld t νa (mu_st νa 18 0 (40 * t + i) (nI nc)) := fun c k j q => by
    have := s1.1
    rw [mu_st_app, if_neg (fun z => q (Or.inr ⟨z.1, by omega, by omega⟩))]
  have hH : HeldIs (mu_st νa 18 0 (40 * t + i) (nI nc)) t ((rows t).set i (nI nc)) := by
    refine ⟨by simp; exact s1.1, by rw [mu_st_ne (by simp), List.length_set]; exact s1.2.1, fun j hj => ?_⟩
    rw [List.length_set] at hj
    rw [mu_st_app, List.getElem?_set]
    by_cases z : i = j
    · subst z
      simp [hj]
    · rw [if_neg z, if_neg (by simp; omega)]
      exact s1.2.2 j hj
  have hcd : ∀ x ∈ (rows t).set i (nI nc), isCd (nc + 1) x := fun x hx => by
    rcases List.mem_or_eq_of_mem_set hx with hx | rfl
    · exact hl x hx
    · exact ⟨nc, by omega, rfl⟩
  have hRb := (hRa.giveRow ht f2 f3 oH hH hcd).done
  have e : mu_st (mu_st (mu_st (mu_st (mu_st ν 1 0 nc w) 2 0 nc m) 18 0 (40 * t + i) (nI nc)) 0 0 0 (nI (nc + 1))) 0 0 25 (ν 0 0 25 + 1) = mu_st (mu_st νa 18 0 (40 * t + i) (nI nc)) 0 0 25 (mu_st νa 18 0 (40 * t + i) (nI nc) 0 0 25 + 1) := by
    rw [← hνa, mu_st_comm (c := 18) (c' := 0) (by decide)]
    congr 2
  rw [e]
  exact hRb
set_option maxHeartbeats 2000000 in
theorem change_L {nh nt h t : Nat} (hh : h < nh) (ht : t < nt) : ∀ (n n' i nc : Nat) (rows : Nat → List Int32) (μ ν : Mu), Rel nc nh nt rows 0 μ ν → ν 0 0 21 = 0 → i ≤ (rows t).length → nc + ((rows t).length - i) ≤ 120 → (rows t).length - i < n → (rows t).length - i + 1 < n' → ∃ (res : Int32) (μ' ν' : Mu) (nc' : Nat) (rows' : Nat → List Int32), jX7_changeCards_L2 t (nI h) n μ (nI i) = some (res, μ') ∧ jX8_change_L65 (nI t) (nI h) n' ν (nI i) = endC ν' ∧ ((res = 0 ∧ ν' 0 0 21 = 1 ∧ Rel nc' nh nt rows' 1 μ' ν') ∨ (res = 1 ∧ ν' 0 0 21 = 0 ∧ Rel nc' nh nt rows' 0 μ' ν')) := by
  intro n
  induction n with
  | zero => intro n' i nc rows μ ν _ _ _ _ q; exact absurd q (Nat.not_lt_zero _)
  | succ n ih =>
    intro n' i nc rows μ ν hR hth hi hnc hn hn'
    have h6 := hR.nt6
    have hnh := hR.2.1.1
    obtain ⟨r1, s1, hl⟩ := hR.row (show t < 6 by omega)
    have hl40 := r1.1
    have it : inb (nI t) 6 = true := by rw [n_in (by omega)]; exact decide_eq_true (by omega)
    obtain ⟨n', rfl⟩ : ∃ z, n' = z + 1 := ⟨n' - 1, by omega⟩
    rw [jX7_changeCards_L2, jX8_change_L65, r1.2.1, if_pos it, n_cl (show t < 100000 by omega), s1.2.1]
    by_cases q : i = (rows t).length
    · have e : nI (rows t).length ≤ nI i := by rw [n_le (by omega) (by omega)]; omega
      rw [if_pos e, if_pos e]
      exact ⟨1, μ, ν, nc, rows, rfl, rfl, Or.inr ⟨rfl, hth, hR⟩⟩
    · have e : ¬ nI (rows t).length ≤ nI i := by rw [n_le (by omega) (by omega)]; omega
      have hil : i < (rows t).length := by omega
      have i40 : inb (nI (40 * t + i)) 240 = true := by rw [n_in (by omega)]; exact decide_eq_true (by omega)
      have ec := r1.2.2 i hil
      obtain ⟨c, hc, e2⟩ := hl _ (List.mem_of_getElem? ec)
      have e3 : ν 18 0 (40 * t + i) = nI c := by rw [← e2]; exact Option.some.inj ((s1.2.2 i hil).symm.trans ec)
      have ic : inb (nI c) 120 = true := by rw [n_in (by omega)]; exact decide_eq_true (by omega)
      have ih8 : inb (nI h) 8 = true := by rw [n_in (by omega)]; exact decide_eq_true (by omega)
      have e40 : (40 : Int32) * nI t + nI i = nI (40 * t + i) := by rw [zl40, pk_mul, n_add]
      have e1 : nI i + 1 = nI (i + 1) := by rw [zl1, n_add]
      rw [if_neg e, if_neg e, cardAt_at r1 i hil, Option.bind_some, if_pos hth, e40]
      simp only [i40, if_true, n_cl (show 40 * t + i < 100000 by omega), e2, e3, ic, ih8, n_cl (show c < 100000 by omega), n_cl (show h < 100000 by omega)]
      unfold jX1_askAdding
      obtain ⟨eff, μ1, lies, ν1, a1, a2, fr, hs⟩ := call_sim hR hth hh
      rw [a1, a2, Option.bind_some, Option.bind_some]
      dsimp only
      rcases hs with ⟨s1, s2, s3, s4⟩ | ⟨s1, s2, s3, s4⟩
      · rw [if_neg s1, Option.bind_some, if_neg (show ¬ ν1 0 0 21 = 0 by rw [s3]; decide)]
        dsimp only
        rw [if_pos rfl]
        obtain ⟨n2, rfl⟩ : ∃ z, n' = z + 1 := ⟨n' - 1, by omega⟩
        refine ⟨0, μ1, ν1, nc, rows, rfl, ?_, Or.inl ⟨rfl, s3, s4⟩⟩
        have h0 : ¬ ν1 0 0 21 = 0 := by rw [s3]; decide
        rw [jX8_change_L65, if_pos it]
        unfold endC
        simp only [if_neg h0]
        by_cases y : ν1 17 0 (nI t).toNatClampNeg ≤ nI i + 1
        · rw [if_pos y]
        · rw [if_neg y]
      · rw [if_pos s1, if_pos s2, weightOf_at s3.1.1 s3.1.2.1 hc, Option.bind_some, numberOf_at s3.2.1.1 s3.2.1.2.1 hh, Option.bind_some, markOf_at s3.1.1 s3.1.2.1 hc, Option.bind_some]
        have inc : inb (nI nc) 120 = true := by rw [n_in (by omega)]; exact decide_eq_true (by omega)
        simp only [mst, mu_st_app, Nat.reduceEqDiff, false_and, and_false, and_true, true_and, if_true, if_false, s3.1.2.2.1, inc, n_cl (show nc < 100000 by omega), show ¬ c = nc by omega, ← (s3.1.2.2.2 c hc).1, ← (s3.1.2.2.2 c hc).2, ← (s3.2.1.2.2.2.1 h hh).2.1]
        rw [show nI nc + 1 = nI (nc + 1) from by rw [zl1, n_add]]
        have fin : ∀ w : Int32, ∃ (res : Int32) (μ' ν' : Mu) (nc' : Nat) (rows' : Nat → List Int32), ((jX0_add μ1 w (μ1 4 0 c)).bind (fun q16 => some (q16.1, q16.2))).bind (fun q6 => if q6.1 = (-11) then some ((0 : Int32), q6.2) else (jX5_replace q6.2 t (nI i) q6.1).bind (fun μ9 => jX7_changeCards_L2 t (nI h) n (mu_st μ9 9 0 3 (μ9 9 0 3 + 1)) (nI i + 1))) = some (res, μ') ∧ jX8_change_L65 (nI t) (nI h) n' (mu_st (mu_st (mu_st (mu_st (mu_st ν1 1 0 nc w) 2 0 nc (μ1 4 0 c)) 18 0 (40 * t + i) (nI nc)) 0 0 0 (nI (nc + 1))) 0 0 25 (ν1 0 0 25 + 1)) (nI i + 1) = endC ν' ∧ ((res = 0 ∧ ν' 0 0 21 = 1 ∧ Rel nc' nh nt rows' 1 μ' ν') ∨ (res = 1 ∧ ν' 0 0 21 = 0 ∧ Rel nc' nh nt rows' 0 μ' ν')) := by
          intro w
          obtain ⟨μ2, μ3, b1, b2, b3⟩ := s3.made ht hil (by omega) w (μ1 4 0 c)
          rw [b1, Option.bind_some, Option.bind_some]
          dsimp only
          rw [if_neg (a_ne (show nc < 100000 by omega)), b2, Option.bind_some, e1]
          have hlen : (setR rows t ((rows t).set i (nI nc)) t).length = (rows t).length := by unfold setR; rw [if_pos rfl, List.length_set]
          exact ih n' (i + 1) (nc + 1) _ _ _ b3 (by simp [mu_st_app]; exact s2) (by rw [hlen]; omega) (by rw [hlen]; omega) (by rw [hlen]; omega) (by rw [hlen]; omega)
        rcases s4 with ⟨s5, s6⟩ | ⟨s5, s6⟩
        · rw [if_pos s5, if_neg (show ¬ lies = 0 by rw [s6]; decide)]
          exact fin _
        · rw [if_neg s5, if_pos s6]
          exact fin _
theorem sim_change {μ ν : Mu} (h : RelE μ ν) (a b : Int32) : ∃ (r : Int32) (μ' ν' : Mu), jX7_change μ a b = some (r, μ') ∧ jX8_change ν a b = some (r, ν') ∧ RelE μ' ν' := by
  obtain ⟨nc, nh, nt, rows, hR⟩ := id h
  have h6 := hR.nt6
  have hnh := hR.2.1.1
  have hnc := hR.1.1
  unfold jX7_change jX8_change
  rw [(hasTray_at hR a).1, (hasTray_at hR a).2, (hasHook_gen hR b).1, (hasHook_gen hR b).2, Option.bind_some, Option.bind_some, Option.bind_some, Option.bind_some, ite10, ite10, ite10, ite10]
  by_cases v : vl a nt
  · rw [if_pos v, if_pos v]
    by_cases w : vl b nh
    · rw [if_pos w, if_pos w]
      obtain ⟨t, ht, rfl⟩ := vl_nI v (by omega)
      obtain ⟨j, hj, rfl⟩ := vl_nI w (by omega)
      have it : inb (nI t) 6 = true := by rw [n_in (by omega)]; exact decide_eq_true (by omega)
      have ij : inb (nI j) 8 = true := by rw [n_in (by omega)]; exact decide_eq_true (by omega)
      obtain ⟨r1, s1, hl⟩ := hR.row (show t < 6 by omega)
      have hl40 := r1.1
      simp only [it, ij, if_true, n_cl (show t < 100000 by omega), n_cl (show j < 100000 by omega), ← (hR.tk ht).1, ← (hR.2.1.2.2.2.1 j hj).1, r1.2.1, s1.2.1, hR.1.2.1, hR.1.2.2.1, kindOf_at hnh hR.2.1.2.1 hj, Option.bind_some, n_add]
      by_cases q : μ 13 t 1 = 0
      · rw [if_pos q, if_pos q]
        by_cases q2 : μ 11 j 0 = 4
        · rw [if_pos q2, if_pos q2]
          by_cases q3 : nI (nc + (rows t).length) ≤ 120
          · rw [if_pos q3, if_pos q3]
            rw [zl120, n_le (by omega) (by omega)] at q3
            obtain ⟨μ1, ν1, a1, a2, hR1, ht1, m1, m11, n1⟩ := begin_sim hR
            rw [a1, a2, Option.bind_some, Option.bind_some]
            unfold jX7_changeCards
            obtain ⟨res, μ2, ν2, nc', rows', b1, b2, b3⟩ := change_L hj ht fuel fuel 0 nc rows μ1 ν1 hR1 ht1 (Nat.zero_le _) (by omega) (by have := fuel_ge; omega) (by have := fuel_ge; omega)
            rw [← zl0] at b1 b2
            rw [b1, b2, Option.bind_some]
            unfold endC
            dsimp only
            simp only [mst]
            rcases b3 with ⟨c1, c2, c3⟩ | ⟨c1, c2, c3⟩
            · have hz : ¬ ν2 0 0 21 = 0 := by rw [c2]; decide
              have hz2 : ¬ mu_st ν2 0 0 20 (ν2 0 0 20 + 1) 0 0 21 = 0 := by rw [mu_st_app]; simp; exact hz
              rw [if_pos c1, if_neg hz, if_neg hz2]
              exact ⟨_, _, _, rfl, rfl, nc', nh, nt, rows', c3.acts rfl⟩
            · have hz2 : mu_st ν2 0 0 20 (ν2 0 0 20 + 0) 0 0 21 = 0 := by rw [mu_st_app]; simp; exact c2
              rw [if_neg (show ¬ res = 0 by rw [c1]; decide), if_pos c2, if_pos hz2]
              exact ⟨_, _, _, rfl, rfl, nc', nh, nt, rows', c3.acts rfl⟩
          · rw [if_neg q3, if_neg q3]
            exact ⟨_, _, _, rfl, rfl, h⟩
        · rw [if_neg q2, if_neg q2]
          exact ⟨_, _, _, rfl, rfl, h⟩
      · rw [if_neg q, if_neg q]
        exact ⟨_, _, _, rfl, rfl, h⟩
    · rw [if_neg w, if_neg w]
      exact ⟨_, _, _, rfl, rfl, h⟩
  · rw [if_neg v, if_neg v]
    exact ⟨_, _, _, rfl, rfl, h⟩
