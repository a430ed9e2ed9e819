/-! The start: the new objects' cells as memories, and the relation there. -/
def mu0 : Mu := fun c _ j => match c with
  | 9 => if j = 1 then -4 else 0
  | 13 => if j = 2 then -4 else 0
  | _ => 0
def nu0 : Mu := fun c _ j => match c with
  | 0 => if j = 23 then -4 else 0
  | _ => 0
theorem rel_start : RelE mu0 nu0 := by
  refine ⟨0, 0, 0, fun _ => [], ⟨by decide, by decide, by decide, fun i h => absurd h (by omega)⟩, ⟨by decide, by decide, by decide, fun i h => absurd h (by omega), fun i _ => ⟨rfl, rfl, rfl⟩, fun i _ _ => rfl⟩, ⟨0, by decide, by decide, by decide, ?_, ?_, fun i h => absurd h (by omega)⟩, ⟨by decide, by decide, by decide, by decide, by decide, by decide⟩, by decide, by decide, by decide, fun t h => absurd h (by omega), fun t ht => ⟨?_, ?_, fun c hc => by simp at hc⟩, fun _ _ => rfl⟩
  · exact List.Perm.refl _
  · exact List.nodup_nil
  · exact ⟨Nat.zero_le _, show (0 : Int32) = nI 0 by decide, fun i h => absurd h (Nat.not_lt_zero _)⟩
  · exact ⟨Nat.zero_le _, show (0 : Int32) = nI 0 by decide, fun i h => absurd h (Nat.not_lt_zero _)⟩
def adC (a : Nat) (u : Nat → Nat) (c k : Nat) : Nat := match c with
  | 0 => a
  | 1 => u 0
  | 2 => u 1
  | 3 => u 2
  | 4 => u 3
  | 5 => u 4
  | 6 => u 5
  | 7 => u 6
  | 8 => u 7
  | 9 => u 8
  | 10 => u 9
  | 11 => u (10 + k)
  | 12 => u 18
  | 13 => u (19 + 3 * k)
  | 14 => if k < 6 then u (20 + 3 * k) else if k = 6 then u 37 else u 39
  | _ => if k < 6 then u (21 + 3 * k) else if k = 6 then u 38 else u 40
def adR (a : Nat) (u : Nat → Nat) (c _k : Nat) : Nat := match c with
  | 0 => a
  | 1 => u 0
  | 2 => u 1
  | 4 => u 2
  | 5 => u 3
  | 6 => u 4
  | 7 => u 5
  | 8 => u 6
  | 10 => u 7
  | 11 => u 8
  | 12 => u 9
  | 13 => u 10
  | 15 => u 11
  | 16 => u 12
  | 17 => u 13
  | 18 => u 14
  | 27 => u 15
  | _ => u 16
def cwC (cI cH cT : ClassId) (ad : Nat → Nat → Nat) (μ : Mu) : va_W := keysC.map (fun q => (ad q.1 q.2, cEC cI cH cT ad q.1 q.2 (μ q.1 q.2)))
def cwR (cI : ClassId) (ad : Nat → Nat → Nat) (ν : Mu) : va_W := keysR.map (fun q => (ad q.1 q.2, cER cI ad q.1 q.2 (ν q.1 q.2)))
theorem P_set {D : va_G} {ws : va_W} {H : Heap} (hP : va_P D vwCl ws H) (k : Nat) {a : Nat} {e e' : va_E} (hk : ws[k]? = some (a, e)) (he : va_at D vwCl (a, e) H → va_at D vwCl (a, e') H) : va_P D vwCl (ws.set k (a, e')) H := by
  intro i q hq
  by_cases hi : i = k
  · subst hi
    have hlt : i < ws.length := (List.getElem?_eq_some_iff.mp hk).1
    rw [List.getElem?_set_self hlt] at hq
    cases hq
    exact he (hP i _ hk)
  · rw [List.getElem?_set_ne (Ne.symm hi)] at hq
    exact hP i q hq
theorem at_arr {D : va_G} {a : Nat} {cA : ClassId} {n : Nat} {f g : Nat → Option Nat} {H : Heap} (h : ∀ i, i < n → f i = g i) (hP : va_at D vwCl (a, .inl (cA, n, .inr (.inr (.inr (.inr f))))) H) : va_at D vwCl (a, .inl (cA, n, .inr (.inr (.inr (.inr g))))) H := by
  have h1 : H[a]? = some (arrV cA n (fun j => va_rf (f j))) := hP
  show H[a]? = some (arrV cA n (fun j => va_rf (g j)))
  rw [h1]
  have e : (fun i : Fin n => va_rf (f i)) = (fun i : Fin n => va_rf (g i)) := funext fun i => by rw [h i.1 i.2]
  unfold arrV
  rw [e]
theorem D_addr {A : Nat → Prop} {ws ws' : va_W} (e : ws.map Prod.fst = ws'.map Prod.fst) (h : va_D A ws) : va_D A ws' := by
  have key : ∀ (k : Nat) (q : Nat × va_E), ws'[k]? = some q → ∃ e0, ws[k]? = some (q.1, e0) := by
    intro k q hq
    have h1 : (ws'.map Prod.fst)[k]? = some q.1 := by rw [List.getElem?_map, hq]; rfl
    rw [← e, List.getElem?_map] at h1
    obtain ⟨x, hx, e1⟩ := Option.map_eq_some_iff.mp h1
    exact ⟨x.2, by rw [hx, ← e1]⟩
  refine ⟨fun i j p q hi hj hpq => ?_, fun k q hq => ?_⟩
  · obtain ⟨e1, h1⟩ := key i p hi
    obtain ⟨e2, h2⟩ := key j q hj
    exact h.1 i j _ _ h1 h2 hpq
  · obtain ⟨e1, h1⟩ := key k q hq
    exact h.2 k (q.1, e1) h1
theorem cwC_addr {cI cH cT : ClassId} {ad : Nat → Nat → Nat} {μ μ' : Mu} : (cwC cI cH cT ad μ).map Prod.fst = (cwC cI cH cT ad μ').map Prod.fst := by
  unfold cwC
  rw [List.map_map, List.map_map]
  rfl
theorem cwR_addr {cI : ClassId} {ad : Nat → Nat → Nat} {μ μ' : Mu} : (cwR cI ad μ).map Prod.fst = (cwR cI ad μ').map Prod.fst := by
  unfold cwR
  rw [List.map_map, List.map_map]
  rfl
def wX7m (cI cH cT : ClassId) (a : Nat) (u : Nat → Nat) : va_W := ((wX7 cI cH cT a u).set 10 (u 9, .inl (cH, 8, .inr (.inr (.inr (.inr (fun i => some (u (10 + i)))))))) ).set 19 (u 18, .inl (cT, 6, .inr (.inr (.inr (.inr (fun i => some (u (19 + 3 * i))))))))
theorem P_start {D : va_G} {cI cH cT : ClassId} {a : Nat} {u : Nat → Nat} {H : Heap} (hP : va_P D vwCl (wX7 cI cH cT a u) H) : va_P D vwCl (cwC cI cH cT (adC a u) mu0) H := by
  have h1 : va_P D vwCl (wX7m cI cH cT a u) H := by
    unfold wX7m
    refine P_set (P_set hP 10 rfl (at_arr fun i hi => ?_)) 19 rfl (at_arr fun i hi => ?_)
    · match i, hi with
      | 0, _ => rfl
      | 1, _ => rfl
      | 2, _ => rfl
      | 3, _ => rfl
      | 4, _ => rfl
      | 5, _ => rfl
      | 6, _ => rfl
      | 7, _ => rfl
      | i + 8, h => exact absurd h (by omega)
    · match i, hi with
      | 0, _ => rfl
      | 1, _ => rfl
      | 2, _ => rfl
      | 3, _ => rfl
      | 4, _ => rfl
      | 5, _ => rfl
      | i + 6, h => exact absurd h (by omega)
  exact h1.sub [0, 1, 2, 3, 4, 5, 6, 7, 8, 9, 10, 19, 11, 12, 13, 14, 15, 16, 17, 18, 20, 23, 26, 29, 32, 35, 21, 24, 27, 30, 33, 36, 38, 40, 22, 25, 28, 31, 34, 37, 39, 41] rfl
theorem P_startR {D : va_G} {cI cH cT : ClassId} {a : Nat} {u : Nat → Nat} {H : Heap} (hP : va_P D vwCl (wX8 cI cH cT a u) H) : va_P D vwCl (cwR cI (adR a u) nu0) H := hP
theorem D_start {A : Nat → Prop} {cI cH cT : ClassId} {a a2 : Nat} {u u2 : Nat → Nat} (hD : va_D A (wX7 cI cH cT a u ++ wX8 cI cH cT a2 u2)) (μ ν : Mu) : va_D A (cwC cI cH cT (adC a u) μ ++ cwR cI (adR a2 u2) ν) := by
  have h1 : va_D A (wX7m cI cH cT a u ++ wX8 cI cH cT a2 u2) := D_addr (ws := wX7 cI cH cT a u ++ wX8 cI cH cT a2 u2) rfl hD
  have h2 : va_D A (cwC cI cH cT (adC a u) mu0 ++ cwR cI (adR a2 u2) nu0) := h1.sub [0, 1, 2, 3, 4, 5, 6, 7, 8, 9, 10, 19, 11, 12, 13, 14, 15, 16, 17, 18, 20, 23, 26, 29, 32, 35, 21, 24, 27, 30, 33, 36, 38, 40, 22, 25, 28, 31, 34, 37, 39, 41, 42, 43, 44, 45, 46, 47, 48, 49, 50, 51, 52, 53, 54, 55, 56, 57, 58, 59] (by decide) rfl
  exact D_addr (by rw [List.map_append, List.map_append, cwC_addr (μ := mu0) (μ' := μ), cwR_addr (μ := nu0) (μ' := ν)]) h2
