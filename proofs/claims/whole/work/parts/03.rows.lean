/-! The judgement V: where the machine is, in words of a memory (kind of cell, which one, slot), locals and stack; the heap is hidden. -/
abbrev Mu : Type := Nat → Nat → Nat → Int32
def mu_up (μ : Mu) (c k : Nat) (g : Nat → Int32) : Mu := fun c' k' => if c' = c ∧ k' = k then g else μ c' k'
def mu_st (μ : Mu) (c k j : Nat) (x : Int32) : Mu := mu_up μ c k (upd (μ c k) j x)
/-- a memory gets a name -/
def mst {α : Type} (x : Mu) (f : Mu → α) : α := f x
theorem mst_at {α : Type} {x y : Mu} {f : Mu → α} {r : α} (e : y = x) (h : mst x f = r) : f y = r := by subst e; exact h
theorem ite_some {α : Type} {c : Prop} [Decidable c] {A : Option α} {r : α} (h : (if c then A else none) = some r) : c ∧ A = some r := by
  by_cases hc : c
  · rw [if_pos hc] at h; exact ⟨hc, h⟩
  · rw [if_neg hc] at h; cases h
theorem bind_ex {α β : Type} {x : Option α} {f : α → Option β} {r : β} (h : x.bind f = some r) : ∃ a, x = some a ∧ f a = some r := by
  cases x with
  | none => cases h
  | some a => exact ⟨a, rfl, h⟩
theorem ite_t {α : Type} {c : Prop} [Decidable c] {A B r : α} (hc : c) (h : (if c then A else B) = r) : A = r := by rw [if_pos hc] at h; exact h
theorem ite_f {α : Type} {c : Prop} [Decidable c] {A B r : α} (hc : ¬ c) (h : (if c then A else B) = r) : B = r := by rw [if_neg hc] at h; exact h
theorem none_no {α : Type} {r : α} {P : Prop} (h : (none : Option α) = some r) : P := by cases h
def inb (i : Int32) (n : Nat) : Bool := decide (¬ (i < 0 ∨ n ≤ i.toNatClampNeg))
theorem inb_in {i : Int32} {n : Nat} (h : inb i n = true) : vp_in i n := by
  have h2 : ¬ (i < 0 ∨ n ≤ i.toNatClampNeg) := of_decide_eq_true h
  exact h2
theorem inb_lt {i : Int32} {n : Nat} (h : inb i n = true) : i.toNatClampNeg < n := Nat.not_le.mp fun q => (of_decide_eq_true h) (Or.inr q)
/-- loops: so many turns at most; a number that is not to be counted down by the kernel -/
theorem fuel_ex : ∃ n : Nat, 2000 ≤ n := ⟨2000, Nat.le_refl _⟩
noncomputable def fuel : Nat := Classical.choose fuel_ex
theorem fuel_ge : 2000 ≤ fuel := Classical.choose_spec fuel_ex
theorem fuel_s : fuel = (fuel - 1) + 1 := by have := fuel_ge; omega
abbrev Gx : Type := Launch × va_G × List (ClassId × FieldType) × List (Nat × Nat) × (Nat → Nat → Nat) × (Nat → Nat → (Nat → Int32) → va_E) × va_W
def wd (G : Gx) (μ : Mu) : va_W := G.2.2.2.1.map (fun q => (G.2.2.2.2.1 q.1 q.2, G.2.2.2.2.2.1 q.1 q.2 (μ q.1 q.2))) ++ G.2.2.2.2.2.2
abbrev Cx : Type := Program × Env × Room × State × MethodId × Array Value × List Frame × Method × Code × (Nat → Prop) × (State → Prop) × Nat × Nat
def V (G : Gx) (X : Cx) (nL : Nat) (μ : Mu) (pc : Nat) (lv : List (Nat × Value)) (st : List Value) : Prop := match X with
  | (p, e, R, s, m, args, below, meth, c, A, Q, cells, slots) => ∀ (H : Heap) (locs : List Loc) (ls : Array Slot), va_P G.2.1 vwCl (wd G μ) H → va_S A s.heap H locs → lv_has ls nL lv → W p G.1 e R s m args below meth c H locs cells slots Q (F0 m pc ls st)
def KK (D : va_G) (tys : List (ClassId × FieldType)) (U : State) : Prop := va_K D vwCl tys U ∧ ∀ w ∈ tb_nest, va_Nw w U
def HX (G : Gx) (X : Cx) (cc : ByteArray) (nL : Nat) (own : String) (rm : Room) (ret : Option FieldType) : Prop := match X with
  | (p, _, R, s, m, args, _, meth, c, A, _, cells, slots) => p.tables.exec = Jvm.exec ∧ c.code = cc ∧ c.maxLocals = nL ∧ s.vm.findClass own = some m.cls ∧ (∀ w ∈ wsL_law, w.before args s = true) ∧ R = rm ∧ meth.sig.returnType = ret ∧ meth.locks = false ∧ KK G.2.1 G.2.2.1 s ∧ (∀ ν : Mu, va_D A (wd G ν)) ∧ cells + 0 ≤ R.cells ∧ slots + 0 ≤ R.slots
def QC (G : Gx) (A : Nat → Prop) (res : Option Value) (μ' : Mu) : Array Value → State → Outcome → State → Prop := fun _ st oc t => oc = .returned res ∧ va_P G.2.1 vwCl (wd G μ') t.heap ∧ va_F A st t
def HQ (G : Gx) (X : Cx) (res : Option Value) (μ' : Mu) : Prop := match X with
  | (_, _, _, s, _, args, below, _, _, A, Q, cells, slots) => Q = MQ below (QC G A res μ') args s 0 0 A ∧ cells = 0 ∧ slots = 0
def PC (G : Gx) (A : Nat → Prop) (μ : Mu) (U : State) : Prop := va_P G.2.1 vwCl (wd G μ) U.heap ∧ KK G.2.1 G.2.2.1 U ∧ ∀ ν : Mu, va_D A (wd G ν)
/-- a method's contract: with these arguments, from this memory, it answers so, and the memory is that -/
def CT (G : Gx) (y : MethodName) (ws : List Cond) (rm : Room) (av : List Value) (μ : Mu) (res : Option Value) (μ' : Mu) : Prop :=
  ∀ A : Nat → Prop, Met G.1 y ws rm (va_Pc av (PC G A μ)) (QC G A res μ') 0 0 A
theorem nest_tab {w : Cond} (h : tb_isNest w = true) : w.onTables = true := by
  cases w <;> first | rfl | (simp [tb_isNest] at h; done)
theorem nest_warm {w : Cond} (h : tb_isNest w = true) {s U : State} (hW : s.WarmedH U.vm) (hZ : va_Nw w s) : va_Nw w U := by
  cases w <;> first | (simp [tb_isNest] at h; done) | exact va_Nw.warmF hW hZ | exact va_Nw.warmM hW hZ
theorem KK.warm {D : va_G} {tys : List (ClassId × FieldType)} {s U : State} (hW : s.WarmedH U.vm) (h : KK D tys s) : KK D tys U :=
  ⟨va_K.moved hW.alike h.1, fun w hw => nest_warm (List.all_eq_true.mp tb_nest_ok w hw) hW (h.2 w hw)⟩
theorem KK.call {D : va_G} {tys : List (ClassId × FieldType)} {U : State} {g : JFrame} {mk : MethodId} {a : Array Value} (h : KK D tys U) : KK D tys (U.calling g mk a) :=
  ⟨va_K.moved (u := U) (U := U.calling g mk a) (Vm.Alike.refl U.vm) h.1, fun w hw => va_Nw.same (nest_tab (List.all_eq_true.mp tb_nest_ok w hw)) (u := U) (U := U.calling g mk a) rfl (h.2 w hw)⟩
theorem PC.blind {G : Gx} {A : Nat → Prop} {μ : Mu} {av : List Value} : FrameBlind (va_Pc av (PC G A μ)) := fun a U g mk q => ⟨q.1, q.2.1, q.2.2.1.call, q.2.2.2⟩
theorem wd_at {G : Gx} {μ : Mu} {q0 c k : Nat} (h : G.2.2.2.1[q0]? = some (c, k)) : (wd G μ)[q0]? = some (G.2.2.2.2.1 c k, G.2.2.2.2.2.1 c k (μ c k)) := by
  have hlt : q0 < G.2.2.2.1.length := (List.getElem?_eq_some_iff.mp h).1
  unfold wd
  rw [List.getElem?_append_left (by simpa using hlt), List.getElem?_map, h]
  rfl
theorem wd_len {G : Gx} {μ ν : Mu} {i : Nat} : (wd G μ)[i]?.map Prod.fst = (wd G ν)[i]?.map Prod.fst := by
  unfold wd
  by_cases h : i < G.2.2.2.1.length
  · rw [List.getElem?_append_left (by simpa using h), List.getElem?_append_left (by simpa using h), List.getElem?_map, List.getElem?_map, Option.map_map, Option.map_map]
    rfl
  · rw [List.getElem?_append_right (by simpa using h), List.getElem?_append_right (by simpa using h)]
    simp
theorem wd_set {G : Gx} {μ : Mu} {A : Nat → Prop} {q0 c k : Nat} (hD : va_D A (wd G μ)) (h : G.2.2.2.1[q0]? = some (c, k)) (g : Nat → Int32) : (wd G μ).set q0 (G.2.2.2.2.1 c k, G.2.2.2.2.2.1 c k g) = wd G (mu_up μ c k g) := by
  apply List.ext_getElem?
  intro i
  by_cases hi : i = q0
  · subst hi
    have hlt : i < (wd G μ).length := (List.getElem?_eq_some_iff.mp (wd_at (μ := μ) h)).1
    rw [wd_at (μ := mu_up μ c k g) h, List.getElem?_set_self hlt]
    simp [mu_up]
  · rw [List.getElem?_set_ne (Ne.symm hi)]
    by_cases hlt : i < G.2.2.2.1.length
    · obtain ⟨⟨c', k'⟩, hk'⟩ : ∃ q, G.2.2.2.1[i]? = some q := ⟨_, List.getElem?_eq_getElem hlt⟩
      have hne : ¬ (c' = c ∧ k' = k) := by
        rintro ⟨rfl, rfl⟩
        exact hi (hD.1 i q0 _ _ (wd_at hk') (wd_at h) rfl)
      rw [wd_at hk', wd_at hk']
      simp [mu_up, hne]
    · unfold wd
      rw [List.getElem?_append_right (by simpa using hlt), List.getElem?_append_right (by simpa using hlt)]
      simp

theorem r_iconst {G : Gx} {X : Cx} {nL : Nat} {μ : Mu} {pc : Nat} {lv : List (Nat × Value)} {st : List Value} {cc : ByteArray} {own : String} {rm : Room} {ret : Option FieldType} (h : HX G X cc nL own rm ret) {n : Int} {v : Int32} (d : decode cc pc = .ok (.iconst n, 1)) (hv : Int32.ofInt n = v) (k : V G X nL μ (pc + 1) lv (.int v :: st)) : V G X nL μ pc lv (st) := by
  obtain ⟨p, e, R, s, m, args, below, meth, c, A, Q, cells, slots⟩ := X
  obtain ⟨hx, hb, hml, hown, hts, hR, hr, hlk, hKK, hD, hcl⟩ := h
  exact fun H locs ls hP hS hl => lv_iconst hx hb d hv (k H locs ls hP hS hl)
theorem r_bipush {G : Gx} {X : Cx} {nL : Nat} {μ : Mu} {pc : Nat} {lv : List (Nat × Value)} {st : List Value} {cc : ByteArray} {own : String} {rm : Room} {ret : Option FieldType} (h : HX G X cc nL own rm ret) {n : Int} {v : Int32} (d : decode cc pc = .ok (.bipush n, 2)) (hv : (Int8.ofInt n).toInt32 = v) (k : V G X nL μ (pc + 2) lv (.int v :: st)) : V G X nL μ pc lv (st) := by
  obtain ⟨p, e, R, s, m, args, below, meth, c, A, Q, cells, slots⟩ := X
  obtain ⟨hx, hb, hml, hown, hts, hR, hr, hlk, hKK, hD, hcl⟩ := h
  exact fun H locs ls hP hS hl => lv_bipush hx hb d hv (k H locs ls hP hS hl)
theorem r_sipush {G : Gx} {X : Cx} {nL : Nat} {μ : Mu} {pc : Nat} {lv : List (Nat × Value)} {st : List Value} {cc : ByteArray} {own : String} {rm : Room} {ret : Option FieldType} (h : HX G X cc nL own rm ret) {n : Int} {v : Int32} (d : decode cc pc = .ok (.sipush n, 3)) (hv : (Int16.ofInt n).toInt32 = v) (k : V G X nL μ (pc + 3) lv (.int v :: st)) : V G X nL μ pc lv (st) := by
  obtain ⟨p, e, R, s, m, args, below, meth, c, A, Q, cells, slots⟩ := X
  obtain ⟨hx, hb, hml, hown, hts, hR, hr, hlk, hKK, hD, hcl⟩ := h
  exact fun H locs ls hP hS hl => lv_sipush hx hb d hv (k H locs ls hP hS hl)
theorem r_lconst {G : Gx} {X : Cx} {nL : Nat} {μ : Mu} {pc : Nat} {lv : List (Nat × Value)} {st : List Value} {cc : ByteArray} {own : String} {rm : Room} {ret : Option FieldType} (h : HX G X cc nL own rm ret) {n : Fin 2} {v : Int64} (d : decode cc pc = .ok (.lconst n, 1)) (hv : Int64.ofNat (n : Nat) = v) (k : V G X nL μ (pc + 1) lv (.long v :: st)) : V G X nL μ pc lv (st) := by
  obtain ⟨p, e, R, s, m, args, below, meth, c, A, Q, cells, slots⟩ := X
  obtain ⟨hx, hb, hml, hown, hts, hR, hr, hlk, hKK, hD, hcl⟩ := h
  exact fun H locs ls hP hS hl => lv_lconst hx hb d hv (k H locs ls hP hS hl)
theorem r_ldc2 {G : Gx} {X : Cx} {nL : Nat} {μ : Mu} {pc : Nat} {lv : List (Nat × Value)} {st : List Value} {cc : ByteArray} {own : String} {rm : Room} {ret : Option FieldType} (h : HX G X cc nL own rm ret) {i : Nat} {v : Int64} (d : decode cc pc = .ok (.ldc2_w i, 3)) (hw : Cond.constantLong own i v ∈ wsL_law) (k : V G X nL μ (pc + 3) lv (.long v :: st)) : V G X nL μ pc lv (st) := by
  obtain ⟨p, e, R, s, m, args, below, meth, c, A, Q, cells, slots⟩ := X
  obtain ⟨hx, hb, hml, hown, hts, hR, hr, hlk, hKK, hD, hcl⟩ := h
  exact fun H locs ls hP hS hl => lv_ldc2 hx hb hown (hts _ hw) d (k H locs ls hP hS hl)
theorem r_iload_n {G : Gx} {X : Cx} {nL : Nat} {μ : Mu} {pc : Nat} {lv : List (Nat × Value)} {st : List Value} {cc : ByteArray} {own : String} {rm : Room} {ret : Option FieldType} (h : HX G X cc nL own rm ret) {kk : Fin 4} {x : Int32} (d : decode cc pc = .ok (.iload_n kk, 1)) (j : Nat) (hj : lv[j]? = some ((kk : Nat), .int x)) (k : V G X nL μ (pc + 1) lv (.int x :: st)) : V G X nL μ pc lv (st) := by
  obtain ⟨p, e, R, s, m, args, below, meth, c, A, Q, cells, slots⟩ := X
  obtain ⟨hx, hb, hml, hown, hts, hR, hr, hlk, hKK, hD, hcl⟩ := h
  exact fun H locs ls hP hS hl => lv_iload_n hx hb d rfl (lv_at hl j hj) (k H locs ls hP hS hl)
theorem r_iload {G : Gx} {X : Cx} {nL : Nat} {μ : Mu} {pc : Nat} {lv : List (Nat × Value)} {st : List Value} {cc : ByteArray} {own : String} {rm : Room} {ret : Option FieldType} (h : HX G X cc nL own rm ret) {i : Nat} {x : Int32} (d : decode cc pc = .ok (.iload i, 2)) (j : Nat) (hj : lv[j]? = some (i, .int x)) (k : V G X nL μ (pc + 2) lv (.int x :: st)) : V G X nL μ pc lv (st) := by
  obtain ⟨p, e, R, s, m, args, below, meth, c, A, Q, cells, slots⟩ := X
  obtain ⟨hx, hb, hml, hown, hts, hR, hr, hlk, hKK, hD, hcl⟩ := h
  exact fun H locs ls hP hS hl => lv_iload hx hb d (lv_at hl j hj) (k H locs ls hP hS hl)
theorem r_lload_n {G : Gx} {X : Cx} {nL : Nat} {μ : Mu} {pc : Nat} {lv : List (Nat × Value)} {st : List Value} {cc : ByteArray} {own : String} {rm : Room} {ret : Option FieldType} (h : HX G X cc nL own rm ret) {kk : Fin 4} {x : Int64} (d : decode cc pc = .ok (.lload_n kk, 1)) (j : Nat) (hj : lv[j]? = some ((kk : Nat), .long x)) (k : V G X nL μ (pc + 1) lv (.long x :: st)) : V G X nL μ pc lv (st) := by
  obtain ⟨p, e, R, s, m, args, below, meth, c, A, Q, cells, slots⟩ := X
  obtain ⟨hx, hb, hml, hown, hts, hR, hr, hlk, hKK, hD, hcl⟩ := h
  exact fun H locs ls hP hS hl => lv_lload_n hx hb d rfl (lv_at hl j hj) (k H locs ls hP hS hl)
theorem r_lload {G : Gx} {X : Cx} {nL : Nat} {μ : Mu} {pc : Nat} {lv : List (Nat × Value)} {st : List Value} {cc : ByteArray} {own : String} {rm : Room} {ret : Option FieldType} (h : HX G X cc nL own rm ret) {i : Nat} {x : Int64} (d : decode cc pc = .ok (.lload i, 2)) (j : Nat) (hj : lv[j]? = some (i, .long x)) (k : V G X nL μ (pc + 2) lv (.long x :: st)) : V G X nL μ pc lv (st) := by
  obtain ⟨p, e, R, s, m, args, below, meth, c, A, Q, cells, slots⟩ := X
  obtain ⟨hx, hb, hml, hown, hts, hR, hr, hlk, hKK, hD, hcl⟩ := h
  exact fun H locs ls hP hS hl => lv_lload hx hb d (lv_at hl j hj) (k H locs ls hP hS hl)
theorem r_aload_n {G : Gx} {X : Cx} {nL : Nat} {μ : Mu} {pc : Nat} {lv : List (Nat × Value)} {st : List Value} {cc : ByteArray} {own : String} {rm : Room} {ret : Option FieldType} (h : HX G X cc nL own rm ret) {kk : Fin 4} {x : Nat} (d : decode cc pc = .ok (.aload_n kk, 1)) (j : Nat) (hj : lv[j]? = some ((kk : Nat), .ref x)) (k : V G X nL μ (pc + 1) lv (.ref x :: st)) : V G X nL μ pc lv (st) := by
  obtain ⟨p, e, R, s, m, args, below, meth, c, A, Q, cells, slots⟩ := X
  obtain ⟨hx, hb, hml, hown, hts, hR, hr, hlk, hKK, hD, hcl⟩ := h
  exact fun H locs ls hP hS hl => lv_aload_n hx hb d rfl (lv_at hl j hj) (k H locs ls hP hS hl)
theorem r_aload {G : Gx} {X : Cx} {nL : Nat} {μ : Mu} {pc : Nat} {lv : List (Nat × Value)} {st : List Value} {cc : ByteArray} {own : String} {rm : Room} {ret : Option FieldType} (h : HX G X cc nL own rm ret) {i : Nat} {x : Nat} (d : decode cc pc = .ok (.aload i, 2)) (j : Nat) (hj : lv[j]? = some (i, .ref x)) (k : V G X nL μ (pc + 2) lv (.ref x :: st)) : V G X nL μ pc lv (st) := by
  obtain ⟨p, e, R, s, m, args, below, meth, c, A, Q, cells, slots⟩ := X
  obtain ⟨hx, hb, hml, hown, hts, hR, hr, hlk, hKK, hD, hcl⟩ := h
  exact fun H locs ls hP hS hl => lv_aload hx hb d (lv_at hl j hj) (k H locs ls hP hS hl)
theorem r_iadd {G : Gx} {X : Cx} {nL : Nat} {μ : Mu} {pc : Nat} {lv : List (Nat × Value)} {st : List Value} {cc : ByteArray} {own : String} {rm : Room} {ret : Option FieldType} (h : HX G X cc nL own rm ret) {x y : Int32} (d : decode cc pc = .ok (.iadd, 1)) (k : V G X nL μ (pc + 1) lv (.int (x + y) :: st)) : V G X nL μ pc lv (.int y :: .int x :: st) := by
  obtain ⟨p, e, R, s, m, args, below, meth, c, A, Q, cells, slots⟩ := X
  obtain ⟨hx, hb, hml, hown, hts, hR, hr, hlk, hKK, hD, hcl⟩ := h
  exact fun H locs ls hP hS hl => lv_iadd hx hb d (k H locs ls hP hS hl)
theorem r_isub {G : Gx} {X : Cx} {nL : Nat} {μ : Mu} {pc : Nat} {lv : List (Nat × Value)} {st : List Value} {cc : ByteArray} {own : String} {rm : Room} {ret : Option FieldType} (h : HX G X cc nL own rm ret) {x y : Int32} (d : decode cc pc = .ok (.isub, 1)) (k : V G X nL μ (pc + 1) lv (.int (x - y) :: st)) : V G X nL μ pc lv (.int y :: .int x :: st) := by
  obtain ⟨p, e, R, s, m, args, below, meth, c, A, Q, cells, slots⟩ := X
  obtain ⟨hx, hb, hml, hown, hts, hR, hr, hlk, hKK, hD, hcl⟩ := h
  exact fun H locs ls hP hS hl => lv_isub hx hb d (k H locs ls hP hS hl)
theorem r_imul {G : Gx} {X : Cx} {nL : Nat} {μ : Mu} {pc : Nat} {lv : List (Nat × Value)} {st : List Value} {cc : ByteArray} {own : String} {rm : Room} {ret : Option FieldType} (h : HX G X cc nL own rm ret) {x y : Int32} (d : decode cc pc = .ok (.imul, 1)) (k : V G X nL μ (pc + 1) lv (.int (x * y) :: st)) : V G X nL μ pc lv (.int y :: .int x :: st) := by
  obtain ⟨p, e, R, s, m, args, below, meth, c, A, Q, cells, slots⟩ := X
  obtain ⟨hx, hb, hml, hown, hts, hR, hr, hlk, hKK, hD, hcl⟩ := h
  exact fun H locs ls hP hS hl => lv_imul hx hb d (k H locs ls hP hS hl)
theorem r_iand {G : Gx} {X : Cx} {nL : Nat} {μ : Mu} {pc : Nat} {lv : List (Nat × Value)} {st : List Value} {cc : ByteArray} {own : String} {rm : Room} {ret : Option FieldType} (h : HX G X cc nL own rm ret) {x y : Int32} (d : decode cc pc = .ok (.iand, 1)) (k : V G X nL μ (pc + 1) lv (.int (x &&& y) :: st)) : V G X nL μ pc lv (.int y :: .int x :: st) := by
  obtain ⟨p, e, R, s, m, args, below, meth, c, A, Q, cells, slots⟩ := X
  obtain ⟨hx, hb, hml, hown, hts, hR, hr, hlk, hKK, hD, hcl⟩ := h
  exact fun H locs ls hP hS hl => lv_iand hx hb d (k H locs ls hP hS hl)
theorem r_idiv {G : Gx} {X : Cx} {nL : Nat} {μ : Mu} {pc : Nat} {lv : List (Nat × Value)} {st : List Value} {cc : ByteArray} {own : String} {rm : Room} {ret : Option FieldType} (h : HX G X cc nL own rm ret) {x y : Int32} (d : decode cc pc = .ok (.idiv, 1)) (hne : ¬ y = 0) (k : V G X nL μ (pc + 1) lv (.int (x / y) :: st)) : V G X nL μ pc lv (.int y :: .int x :: st) := by
  obtain ⟨p, e, R, s, m, args, below, meth, c, A, Q, cells, slots⟩ := X
  obtain ⟨hx, hb, hml, hown, hts, hR, hr, hlk, hKK, hD, hcl⟩ := h
  exact fun H locs ls hP hS hl => lv_idiv hx hb d hne (k H locs ls hP hS hl)
theorem r_ineg {G : Gx} {X : Cx} {nL : Nat} {μ : Mu} {pc : Nat} {lv : List (Nat × Value)} {st : List Value} {cc : ByteArray} {own : String} {rm : Room} {ret : Option FieldType} (h : HX G X cc nL own rm ret) {x : Int32} (d : decode cc pc = .ok (.ineg, 1)) (k : V G X nL μ (pc + 1) lv (.int (-x) :: st)) : V G X nL μ pc lv (.int x :: st) := by
  obtain ⟨p, e, R, s, m, args, below, meth, c, A, Q, cells, slots⟩ := X
  obtain ⟨hx, hb, hml, hown, hts, hR, hr, hlk, hKK, hD, hcl⟩ := h
  exact fun H locs ls hP hS hl => lv_ineg hx hb d (k H locs ls hP hS hl)
theorem r_i2l {G : Gx} {X : Cx} {nL : Nat} {μ : Mu} {pc : Nat} {lv : List (Nat × Value)} {st : List Value} {cc : ByteArray} {own : String} {rm : Room} {ret : Option FieldType} (h : HX G X cc nL own rm ret) {x : Int32} (d : decode cc pc = .ok (.i2l, 1)) (k : V G X nL μ (pc + 1) lv (.long x.toInt64 :: st)) : V G X nL μ pc lv (.int x :: st) := by
  obtain ⟨p, e, R, s, m, args, below, meth, c, A, Q, cells, slots⟩ := X
  obtain ⟨hx, hb, hml, hown, hts, hR, hr, hlk, hKK, hD, hcl⟩ := h
  exact fun H locs ls hP hS hl => lv_i2l hx hb d rfl (k H locs ls hP hS hl)
theorem r_lcmp {G : Gx} {X : Cx} {nL : Nat} {μ : Mu} {pc : Nat} {lv : List (Nat × Value)} {st : List Value} {cc : ByteArray} {own : String} {rm : Room} {ret : Option FieldType} (h : HX G X cc nL own rm ret) {x y : Int64} (d : decode cc pc = .ok (.lcmp, 1)) (k : V G X nL μ (pc + 1) lv (.int (lg_cmp x y) :: st)) : V G X nL μ pc lv (.long y :: .long x :: st) := by
  obtain ⟨p, e, R, s, m, args, below, meth, c, A, Q, cells, slots⟩ := X
  obtain ⟨hx, hb, hml, hown, hts, hR, hr, hlk, hKK, hD, hcl⟩ := h
  exact fun H locs ls hP hS hl => W.lcmp hx hb d (k H locs ls hP hS hl)
theorem r_dup {G : Gx} {X : Cx} {nL : Nat} {μ : Mu} {pc : Nat} {lv : List (Nat × Value)} {st : List Value} {cc : ByteArray} {own : String} {rm : Room} {ret : Option FieldType} (h : HX G X cc nL own rm ret) {va : Value} (d : decode cc pc = .ok (.dup, 1)) (hva : va.category = 1) (k : V G X nL μ (pc + 1) lv (va :: va :: st)) : V G X nL μ pc lv (va :: st) := by
  obtain ⟨p, e, R, s, m, args, below, meth, c, A, Q, cells, slots⟩ := X
  obtain ⟨hx, hb, hml, hown, hts, hR, hr, hlk, hKK, hD, hcl⟩ := h
  exact fun H locs ls hP hS hl => lv_dup hx hb d hva (k H locs ls hP hS hl)
theorem r_pop {G : Gx} {X : Cx} {nL : Nat} {μ : Mu} {pc : Nat} {lv : List (Nat × Value)} {st : List Value} {cc : ByteArray} {own : String} {rm : Room} {ret : Option FieldType} (h : HX G X cc nL own rm ret) {va : Value} (d : decode cc pc = .ok (.pop, 1)) (hva : va.category = 1) (k : V G X nL μ (pc + 1) lv (st)) : V G X nL μ pc lv (va :: st) := by
  obtain ⟨p, e, R, s, m, args, below, meth, c, A, Q, cells, slots⟩ := X
  obtain ⟨hx, hb, hml, hown, hts, hR, hr, hlk, hKK, hD, hcl⟩ := h
  exact fun H locs ls hP hS hl => lv_pop hx hb d hva (k H locs ls hP hS hl)
theorem r_dup2 {G : Gx} {X : Cx} {nL : Nat} {μ : Mu} {pc : Nat} {lv : List (Nat × Value)} {st : List Value} {cc : ByteArray} {own : String} {rm : Room} {ret : Option FieldType} (h : HX G X cc nL own rm ret) {va vb : Value} (d : decode cc pc = .ok (.dup2, 1)) (hva : va.category = 1) (hvb : vb.category = 1) (k : V G X nL μ (pc + 1) lv (va :: vb :: va :: vb :: st)) : V G X nL μ pc lv (va :: vb :: st) := by
  obtain ⟨p, e, R, s, m, args, below, meth, c, A, Q, cells, slots⟩ := X
  obtain ⟨hx, hb, hml, hown, hts, hR, hr, hlk, hKK, hD, hcl⟩ := h
  exact fun H locs ls hP hS hl => lv_dup2_11 hx hb d hva hvb (k H locs ls hP hS hl)
theorem r_istore_n {G : Gx} {X : Cx} {nL : Nat} {μ : Mu} {pc : Nat} {lv : List (Nat × Value)} {st : List Value} {cc : ByteArray} {own : String} {rm : Room} {ret : Option FieldType} (h : HX G X cc nL own rm ret) {kk : Fin 4} {x : Int32} {lv' : List (Nat × Value)} (d : decode cc pc = .ok (.istore_n kk, 1)) (hn : (kk : Nat) < nL) (hl' : ((kk : Nat), Value.int x) :: lv.filter (fun q => !(q.1 == (kk : Nat)) && !(q.1 + 1 == (kk : Nat) && q.2.category == 2)) = lv') (k : V G X nL μ (pc + 1) lv' st) : V G X nL μ pc lv (.int x :: st) := by
  obtain ⟨p, e, R, s, m, args, below, meth, c, A, Q, cells, slots⟩ := X
  obtain ⟨hx, hb, hml, hown, hts, hR, hr, hlk, hKK, hD, hcl⟩ := h
  exact fun H locs ls hP hS hl => lv_istore_n hx hb d rfl hl hn hl' (fun ls hl => k H locs ls hP hS hl)
theorem r_istore {G : Gx} {X : Cx} {nL : Nat} {μ : Mu} {pc : Nat} {lv : List (Nat × Value)} {st : List Value} {cc : ByteArray} {own : String} {rm : Room} {ret : Option FieldType} (h : HX G X cc nL own rm ret) {i : Nat} {x : Int32} {lv' : List (Nat × Value)} (d : decode cc pc = .ok (.istore i, 2)) (hn : i < nL) (hl' : (i, Value.int x) :: lv.filter (fun q => !(q.1 == i) && !(q.1 + 1 == i && q.2.category == 2)) = lv') (k : V G X nL μ (pc + 2) lv' st) : V G X nL μ pc lv (.int x :: st) := by
  obtain ⟨p, e, R, s, m, args, below, meth, c, A, Q, cells, slots⟩ := X
  obtain ⟨hx, hb, hml, hown, hts, hR, hr, hlk, hKK, hD, hcl⟩ := h
  exact fun H locs ls hP hS hl => lv_istore hx hb d hl hn hl' (fun ls hl => k H locs ls hP hS hl)
theorem r_astore_n {G : Gx} {X : Cx} {nL : Nat} {μ : Mu} {pc : Nat} {lv : List (Nat × Value)} {st : List Value} {cc : ByteArray} {own : String} {rm : Room} {ret : Option FieldType} (h : HX G X cc nL own rm ret) {kk : Fin 4} {x : Nat} {lv' : List (Nat × Value)} (d : decode cc pc = .ok (.astore_n kk, 1)) (hn : (kk : Nat) < nL) (hl' : ((kk : Nat), Value.ref x) :: lv.filter (fun q => !(q.1 == (kk : Nat)) && !(q.1 + 1 == (kk : Nat) && q.2.category == 2)) = lv') (k : V G X nL μ (pc + 1) lv' st) : V G X nL μ pc lv (.ref x :: st) := by
  obtain ⟨p, e, R, s, m, args, below, meth, c, A, Q, cells, slots⟩ := X
  obtain ⟨hx, hb, hml, hown, hts, hR, hr, hlk, hKK, hD, hcl⟩ := h
  exact fun H locs ls hP hS hl => lv_astore_n hx hb d rfl hl hn hl' (fun ls hl => k H locs ls hP hS hl)
theorem r_astore {G : Gx} {X : Cx} {nL : Nat} {μ : Mu} {pc : Nat} {lv : List (Nat × Value)} {st : List Value} {cc : ByteArray} {own : String} {rm : Room} {ret : Option FieldType} (h : HX G X cc nL own rm ret) {i : Nat} {x : Nat} {lv' : List (Nat × Value)} (d : decode cc pc = .ok (.astore i, 2)) (hn : i < nL) (hl' : (i, Value.ref x) :: lv.filter (fun q => !(q.1 == i) && !(q.1 + 1 == i && q.2.category == 2)) = lv') (k : V G X nL μ (pc + 2) lv' st) : V G X nL μ pc lv (.ref x :: st) := by
  obtain ⟨p, e, R, s, m, args, below, meth, c, A, Q, cells, slots⟩ := X
  obtain ⟨hx, hb, hml, hown, hts, hR, hr, hlk, hKK, hD, hcl⟩ := h
  exact fun H locs ls hP hS hl => lv_astore hx hb d hl hn hl' (fun ls hl => k H locs ls hP hS hl)
theorem r_iinc {G : Gx} {X : Cx} {nL : Nat} {μ : Mu} {pc : Nat} {lv : List (Nat × Value)} {st : List Value} {cc : ByteArray} {own : String} {rm : Room} {ret : Option FieldType} (h : HX G X cc nL own rm ret) {i j : Nat} {n : Int} {x v : Int32} {lv' : List (Nat × Value)} (d : decode cc pc = .ok (.iinc i n, 3)) (hj : lv[j]? = some (i, .int x)) (hv : x + Int32.ofInt n = v) (hn : i < nL) (hl' : (i, Value.int v) :: lv.filter (fun q => !(q.1 == i) && !(q.1 + 1 == i && q.2.category == 2)) = lv') (k : V G X nL μ (pc + 3) lv' st) : V G X nL μ pc lv st := by
  obtain ⟨p, e, R, s, m, args, below, meth, c, A, Q, cells, slots⟩ := X
  obtain ⟨hx, hb, hml, hown, hts, hR, hr, hlk, hKK, hD, hcl⟩ := h
  exact fun H locs ls hP hS hl => lv_iinc hx hb d hl hj hv hn hl' (fun ls hl => k H locs ls hP hS hl)
theorem r_if_eq {G : Gx} {X : Cx} {nL : Nat} {μ : Mu} {pc : Nat} {lv : List (Nat × Value)} {st : List Value} {cc : ByteArray} {own : String} {rm : Room} {ret : Option FieldType} (h : HX G X cc nL own rm ret) {x : Int32} {off : Int} {tgt : Nat} (d : decode cc pc = .ok (.ifCond .eq off, 3)) (ht : (pc : Int) + off = (tgt : Int)) (kt : x = 0 → V G X nL μ tgt lv st) (kf : ¬ x = 0 → V G X nL μ (pc + 3) lv st) : V G X nL μ pc lv (.int x :: st) := by
  obtain ⟨p, e, R, s, m, args, below, meth, c, A, Q, cells, slots⟩ := X
  obtain ⟨hx, hb, hml, hown, hts, hR, hr, hlk, hKK, hD, hcl⟩ := h
  exact fun H locs ls hP hS hl => lv_if_eq hx hb d ht (fun q => kt q H locs ls hP hS hl) (fun q => kf q H locs ls hP hS hl)
theorem r_if_ne {G : Gx} {X : Cx} {nL : Nat} {μ : Mu} {pc : Nat} {lv : List (Nat × Value)} {st : List Value} {cc : ByteArray} {own : String} {rm : Room} {ret : Option FieldType} (h : HX G X cc nL own rm ret) {x : Int32} {off : Int} {tgt : Nat} (d : decode cc pc = .ok (.ifCond .ne off, 3)) (ht : (pc : Int) + off = (tgt : Int)) (kt : ¬ x = 0 → V G X nL μ tgt lv st) (kf : x = 0 → V G X nL μ (pc + 3) lv st) : V G X nL μ pc lv (.int x :: st) := by
  obtain ⟨p, e, R, s, m, args, below, meth, c, A, Q, cells, slots⟩ := X
  obtain ⟨hx, hb, hml, hown, hts, hR, hr, hlk, hKK, hD, hcl⟩ := h
  exact fun H locs ls hP hS hl => lv_if_ne hx hb d ht (fun q => kt q H locs ls hP hS hl) (fun q => kf q H locs ls hP hS hl)
theorem r_if_lt {G : Gx} {X : Cx} {nL : Nat} {μ : Mu} {pc : Nat} {lv : List (Nat × Value)} {st : List Value} {cc : ByteArray} {own : String} {rm : Room} {ret : Option FieldType} (h : HX G X cc nL own rm ret) {x : Int32} {off : Int} {tgt : Nat} (d : decode cc pc = .ok (.ifCond .lt off, 3)) (ht : (pc : Int) + off = (tgt : Int)) (kt : x < 0 → V G X nL μ tgt lv st) (kf : ¬ x < 0 → V G X nL μ (pc + 3) lv st) : V G X nL μ pc lv (.int x :: st) := by
  obtain ⟨p, e, R, s, m, args, below, meth, c, A, Q, cells, slots⟩ := X
  obtain ⟨hx, hb, hml, hown, hts, hR, hr, hlk, hKK, hD, hcl⟩ := h
  exact fun H locs ls hP hS hl => lv_if_lt hx hb d ht (fun q => kt q H locs ls hP hS hl) (fun q => kf q H locs ls hP hS hl)
theorem r_if_ge {G : Gx} {X : Cx} {nL : Nat} {μ : Mu} {pc : Nat} {lv : List (Nat × Value)} {st : List Value} {cc : ByteArray} {own : String} {rm : Room} {ret : Option FieldType} (h : HX G X cc nL own rm ret) {x : Int32} {off : Int} {tgt : Nat} (d : decode cc pc = .ok (.ifCond .ge off, 3)) (ht : (pc : Int) + off = (tgt : Int)) (kt : 0 ≤ x → V G X nL μ tgt lv st) (kf : ¬ 0 ≤ x → V G X nL μ (pc + 3) lv st) : V G X nL μ pc lv (.int x :: st) := by
  obtain ⟨p, e, R, s, m, args, below, meth, c, A, Q, cells, slots⟩ := X
  obtain ⟨hx, hb, hml, hown, hts, hR, hr, hlk, hKK, hD, hcl⟩ := h
  exact fun H locs ls hP hS hl => lv_if_ge hx hb d ht (fun q => kt q H locs ls hP hS hl) (fun q => kf q H locs ls hP hS hl)
theorem r_if_gt {G : Gx} {X : Cx} {nL : Nat} {μ : Mu} {pc : Nat} {lv : List (Nat × Value)} {st : List Value} {cc : ByteArray} {own : String} {rm : Room} {ret : Option FieldType} (h : HX G X cc nL own rm ret) {x : Int32} {off : Int} {tgt : Nat} (d : decode cc pc = .ok (.ifCond .gt off, 3)) (ht : (pc : Int) + off = (tgt : Int)) (kt : 0 < x → V G X nL μ tgt lv st) (kf : ¬ 0 < x → V G X nL μ (pc + 3) lv st) : V G X nL μ pc lv (.int x :: st) := by
  obtain ⟨p, e, R, s, m, args, below, meth, c, A, Q, cells, slots⟩ := X
  obtain ⟨hx, hb, hml, hown, hts, hR, hr, hlk, hKK, hD, hcl⟩ := h
  exact fun H locs ls hP hS hl => lv_if_gt hx hb d ht (fun q => kt q H locs ls hP hS hl) (fun q => kf q H locs ls hP hS hl)
theorem r_if_le {G : Gx} {X : Cx} {nL : Nat} {μ : Mu} {pc : Nat} {lv : List (Nat × Value)} {st : List Value} {cc : ByteArray} {own : String} {rm : Room} {ret : Option FieldType} (h : HX G X cc nL own rm ret) {x : Int32} {off : Int} {tgt : Nat} (d : decode cc pc = .ok (.ifCond .le off, 3)) (ht : (pc : Int) + off = (tgt : Int)) (kt : x ≤ 0 → V G X nL μ tgt lv st) (kf : ¬ x ≤ 0 → V G X nL μ (pc + 3) lv st) : V G X nL μ pc lv (.int x :: st) := by
  obtain ⟨p, e, R, s, m, args, below, meth, c, A, Q, cells, slots⟩ := X
  obtain ⟨hx, hb, hml, hown, hts, hR, hr, hlk, hKK, hD, hcl⟩ := h
  exact fun H locs ls hP hS hl => lv_if_le hx hb d ht (fun q => kt q H locs ls hP hS hl) (fun q => kf q H locs ls hP hS hl)
theorem r_icmp_eq {G : Gx} {X : Cx} {nL : Nat} {μ : Mu} {pc : Nat} {lv : List (Nat × Value)} {st : List Value} {cc : ByteArray} {own : String} {rm : Room} {ret : Option FieldType} (h : HX G X cc nL own rm ret) {x y : Int32} {off : Int} {tgt : Nat} (d : decode cc pc = .ok (.if_icmp .eq off, 3)) (ht : (pc : Int) + off = (tgt : Int)) (kt : x = y → V G X nL μ tgt lv st) (kf : ¬ x = y → V G X nL μ (pc + 3) lv st) : V G X nL μ pc lv (.int y :: .int x :: st) := by
  obtain ⟨p, e, R, s, m, args, below, meth, c, A, Q, cells, slots⟩ := X
  obtain ⟨hx, hb, hml, hown, hts, hR, hr, hlk, hKK, hD, hcl⟩ := h
  exact fun H locs ls hP hS hl => lv_icmp_eq hx hb d ht (fun q => kt q H locs ls hP hS hl) (fun q => kf q H locs ls hP hS hl)
theorem r_icmp_ne {G : Gx} {X : Cx} {nL : Nat} {μ : Mu} {pc : Nat} {lv : List (Nat × Value)} {st : List Value} {cc : ByteArray} {own : String} {rm : Room} {ret : Option FieldType} (h : HX G X cc nL own rm ret) {x y : Int32} {off : Int} {tgt : Nat} (d : decode cc pc = .ok (.if_icmp .ne off, 3)) (ht : (pc : Int) + off = (tgt : Int)) (kt : ¬ x = y → V G X nL μ tgt lv st) (kf : x = y → V G X nL μ (pc + 3) lv st) : V G X nL μ pc lv (.int y :: .int x :: st) := by
  obtain ⟨p, e, R, s, m, args, below, meth, c, A, Q, cells, slots⟩ := X
  obtain ⟨hx, hb, hml, hown, hts, hR, hr, hlk, hKK, hD, hcl⟩ := h
  exact fun H locs ls hP hS hl => lv_icmp_ne hx hb d ht (fun q => kt q H locs ls hP hS hl) (fun q => kf q H locs ls hP hS hl)
theorem r_icmp_lt {G : Gx} {X : Cx} {nL : Nat} {μ : Mu} {pc : Nat} {lv : List (Nat × Value)} {st : List Value} {cc : ByteArray} {own : String} {rm : Room} {ret : Option FieldType} (h : HX G X cc nL own rm ret) {x y : Int32} {off : Int} {tgt : Nat} (d : decode cc pc = .ok (.if_icmp .lt off, 3)) (ht : (pc : Int) + off = (tgt : Int)) (kt : x < y → V G X nL μ tgt lv st) (kf : ¬ x < y → V G X nL μ (pc + 3) lv st) : V G X nL μ pc lv (.int y :: .int x :: st) := by
  obtain ⟨p, e, R, s, m, args, below, meth, c, A, Q, cells, slots⟩ := X
  obtain ⟨hx, hb, hml, hown, hts, hR, hr, hlk, hKK, hD, hcl⟩ := h
  exact fun H locs ls hP hS hl => lv_icmp_lt hx hb d ht (fun q => kt q H locs ls hP hS hl) (fun q => kf q H locs ls hP hS hl)
theorem r_icmp_ge {G : Gx} {X : Cx} {nL : Nat} {μ : Mu} {pc : Nat} {lv : List (Nat × Value)} {st : List Value} {cc : ByteArray} {own : String} {rm : Room} {ret : Option FieldType} (h : HX G X cc nL own rm ret) {x y : Int32} {off : Int} {tgt : Nat} (d : decode cc pc = .ok (.if_icmp .ge off, 3)) (ht : (pc : Int) + off = (tgt : Int)) (kt : y ≤ x → V G X nL μ tgt lv st) (kf : ¬ y ≤ x → V G X nL μ (pc + 3) lv st) : V G X nL μ pc lv (.int y :: .int x :: st) := by
  obtain ⟨p, e, R, s, m, args, below, meth, c, A, Q, cells, slots⟩ := X
  obtain ⟨hx, hb, hml, hown, hts, hR, hr, hlk, hKK, hD, hcl⟩ := h
  exact fun H locs ls hP hS hl => lv_icmp_ge hx hb d ht (fun q => kt q H locs ls hP hS hl) (fun q => kf q H locs ls hP hS hl)
theorem r_icmp_gt {G : Gx} {X : Cx} {nL : Nat} {μ : Mu} {pc : Nat} {lv : List (Nat × Value)} {st : List Value} {cc : ByteArray} {own : String} {rm : Room} {ret : Option FieldType} (h : HX G X cc nL own rm ret) {x y : Int32} {off : Int} {tgt : Nat} (d : decode cc pc = .ok (.if_icmp .gt off, 3)) (ht : (pc : Int) + off = (tgt : Int)) (kt : y < x → V G X nL μ tgt lv st) (kf : ¬ y < x → V G X nL μ (pc + 3) lv st) : V G X nL μ pc lv (.int y :: .int x :: st) := by
  obtain ⟨p, e, R, s, m, args, below, meth, c, A, Q, cells, slots⟩ := X
  obtain ⟨hx, hb, hml, hown, hts, hR, hr, hlk, hKK, hD, hcl⟩ := h
  exact fun H locs ls hP hS hl => lv_icmp_gt hx hb d ht (fun q => kt q H locs ls hP hS hl) (fun q => kf q H locs ls hP hS hl)
theorem r_icmp_le {G : Gx} {X : Cx} {nL : Nat} {μ : Mu} {pc : Nat} {lv : List (Nat × Value)} {st : List Value} {cc : ByteArray} {own : String} {rm : Room} {ret : Option FieldType} (h : HX G X cc nL own rm ret) {x y : Int32} {off : Int} {tgt : Nat} (d : decode cc pc = .ok (.if_icmp .le off, 3)) (ht : (pc : Int) + off = (tgt : Int)) (kt : x ≤ y → V G X nL μ tgt lv st) (kf : ¬ x ≤ y → V G X nL μ (pc + 3) lv st) : V G X nL μ pc lv (.int y :: .int x :: st) := by
  obtain ⟨p, e, R, s, m, args, below, meth, c, A, Q, cells, slots⟩ := X
  obtain ⟨hx, hb, hml, hown, hts, hR, hr, hlk, hKK, hD, hcl⟩ := h
  exact fun H locs ls hP hS hl => lv_icmp_le hx hb d ht (fun q => kt q H locs ls hP hS hl) (fun q => kf q H locs ls hP hS hl)
theorem r_goto {G : Gx} {X : Cx} {nL : Nat} {μ : Mu} {pc : Nat} {lv : List (Nat × Value)} {st : List Value} {cc : ByteArray} {own : String} {rm : Room} {ret : Option FieldType} (h : HX G X cc nL own rm ret) {off : Int} {tgt : Nat} (d : decode cc pc = .ok (.goto off, 3)) (ht : (pc : Int) + off = (tgt : Int)) (k : V G X nL μ tgt lv st) : V G X nL μ pc lv st := by
  obtain ⟨p, e, R, s, m, args, below, meth, c, A, Q, cells, slots⟩ := X
  obtain ⟨hx, hb, hml, hown, hts, hR, hr, hlk, hKK, hD, hcl⟩ := h
  exact fun H locs ls hP hS hl => lv_goto hx hb d ht (k H locs ls hP hS hl)
theorem r_tsw {G : Gx} {X : Cx} {nL : Nat} {μ : Mu} {pc : Nat} {lv : List (Nat × Value)} {st : List Value} {cc : ByteArray} {own : String} {rm : Room} {ret : Option FieldType} (h : HX G X cc nL own rm ret) {dflt lo hi : Int} {offs : Array Int} {len : Nat} {x : Int32} {off : Int} {tgt : Nat} (d : decode cc pc = .ok (.tableswitch dflt lo hi offs, len)) (v : Int32) (hv : x = v) (h1 : ¬ v.toInt < lo) (h2 : ¬ hi < v.toInt) (ho : offs[(v.toInt - lo).toNat]? = some off) (ht : (pc : Int) + off = (tgt : Int)) (k : V G X nL μ tgt lv st) : V G X nL μ pc lv (.int x :: st) := by
  subst hv
  obtain ⟨p, e, R, s, m, args, below, meth, c, A, Q, cells, slots⟩ := X
  obtain ⟨hx, hb, hml, hown, hts, hR, hr, hlk, hKK, hD, hcl⟩ := h
  exact fun H locs ls hP hS hl => lv_tableIn hx hb d h1 h2 ho ht (k H locs ls hP hS hl)
theorem r_tswo {G : Gx} {X : Cx} {nL : Nat} {μ : Mu} {pc : Nat} {lv : List (Nat × Value)} {st : List Value} {cc : ByteArray} {own : String} {rm : Room} {ret : Option FieldType} (h : HX G X cc nL own rm ret) {dflt lo hi : Int} {offs : Array Int} {len : Nat} {x : Int32} {tgt : Nat} (d : decode cc pc = .ok (.tableswitch dflt lo hi offs, len)) (ho : x.toInt < lo ∨ hi < x.toInt) (ht : (pc : Int) + dflt = (tgt : Int)) (k : V G X nL μ tgt lv st) : V G X nL μ pc lv (.int x :: st) := by
  obtain ⟨p, e, R, s, m, args, below, meth, c, A, Q, cells, slots⟩ := X
  obtain ⟨hx, hb, hml, hown, hts, hR, hr, hlk, hKK, hD, hcl⟩ := h
  exact fun H locs ls hP hS hl => lv_tableOut hx hb d ho ht (k H locs ls hP hS hl)
theorem r_lsw {G : Gx} {X : Cx} {nL : Nat} {μ : Mu} {pc : Nat} {lv : List (Nat × Value)} {st : List Value} {cc : ByteArray} {own : String} {rm : Room} {ret : Option FieldType} (h : HX G X cc nL own rm ret) {dflt : Int} {ps : Array (Int × Int)} {len : Nat} {x : Int32} {off : Int} {tgt : Nat} (d : decode cc pc = .ok (.lookupswitch dflt ps, len)) (hp : (ps.toList.zip (ps.toList.drop 1)).all (fun (a, next) => a.1 < next.1) = true) (ho : Op.lookupswitch.offset ps.toList dflt x.toInt = off) (ht : (pc : Int) + off = (tgt : Int)) (k : V G X nL μ tgt lv st) : V G X nL μ pc lv (.int x :: st) := by
  obtain ⟨p, e, R, s, m, args, below, meth, c, A, Q, cells, slots⟩ := X
  obtain ⟨hx, hb, hml, hown, hts, hR, hr, hlk, hKK, hD, hcl⟩ := h
  exact fun H locs ls hP hS hl => lv_lookup hx hb d hp ho ht (k H locs ls hP hS hl)
/-- a number that is none of 0 .. n-1 lies outside -/
theorem sw_out {x : Int32} (n : Nat) (hn : n < 100) (hx : ∀ j : Nat, j < n → ¬ x = Int32.ofNat j) : x.toInt < 0 ∨ (n : Int) - 1 < x.toInt := by
  by_cases h : x.toInt < 0
  · exact Or.inl h
  · refine Or.inr ?_
    apply Int.not_le.mp
    intro hle
    obtain ⟨j, hj⟩ := Int.eq_ofNat_of_zero_le (Int.not_lt.mp h)
    refine hx j (by omega) ?_
    apply Int32.toInt_inj.mp
    rw [hj, Int32.toInt_ofNat_of_lt (by omega)]

theorem r_sub {G : Gx} {X : Cx} {nL : Nat} {μ : Mu} {pc : Nat} {lv lv' : List (Nat × Value)} {st : List Value} (ks : List Nat) (hp : lv_pick lv ks = lv') (k : V G X nL μ pc lv' st) : V G X nL μ pc lv st := by
  obtain ⟨p, e, R, s, m, args, below, meth, c, A, Q, cells, slots⟩ := X
  exact fun H locs ls hP hS hl => k H locs ls hP hS (lv_sub hl ks hp)
theorem r_get {l : Launch} {D : va_G} {tys : List (ClassId × FieldType)} {keys : List (Nat × Nat)} {ad : Nat → Nat → Nat} {cE : Nat → Nat → (Nat → Int32) → va_E} {Z : va_W} {X : Cx} {nL : Nat} {μ : Mu} {pc : Nat} {lv : List (Nat × Value)} {st : List Value} {cc : ByteArray} {own : String} {rm : Room} {ret : Option FieldType} (h : HX (l, D, tys, keys, ad, cE, Z) X cc nL own rm ret) {C : String} {T : u_T} {N ci index : Nat} {fs : List Value} {v : Value} (c k : Nat) (hkey : (c, k) ∈ keys) (he : cE c k (μ c k) = .inr (ci, fs)) (hc : vwCl[ci]? = some (C, T, N)) (hin : ∀ w ∈ u_ws C T N, w ∈ wsL_law) (j : Nat) (hj : j < N) (hw : Cond.fieldLink own index (T j).1 (T j).2.1 (T j).2.2.1 ∈ wsL_law) (hv : fs[j]? = some v) (d : decode cc pc = .ok (.getfield index, 3)) (kk : V (l, D, tys, keys, ad, cE, Z) X nL μ (pc + 3) lv (v :: st)) : V (l, D, tys, keys, ad, cE, Z) X nL μ pc lv (.ref (ad c k) :: st) := by
  obtain ⟨q0, hq0⟩ := List.getElem?_of_mem hkey
  obtain ⟨p, e, R, s, m, args, below, meth, c', A, Q, cells, slots⟩ := X
  obtain ⟨hx, hb, hml, hown, hts, hR, hr, hlk, hKK, hD, hcl⟩ := h
  intro H locs ls hP hS hl
  have hat : (wd (l, D, tys, keys, ad, cE, Z) μ)[q0]? = some (ad c k, cE c k (μ c k)) := wd_at (G := (l, D, tys, keys, ad, cE, Z)) (μ := μ) hq0
  rw [he] at hat
  exact va_get (D := D) (C := C) (T := T) (N := N) hx hb hts hin hown hKK.1 hP q0 hat hc j hj (hts _ hw) (fun _ h9 => h9) hv d (kk H locs ls hP hS hl)
theorem r_put {l : Launch} {D : va_G} {tys : List (ClassId × FieldType)} {keys : List (Nat × Nat)} {ad : Nat → Nat → Nat} {cE : Nat → Nat → (Nat → Int32) → va_E} {Z : va_W} {X : Cx} {nL : Nat} {μ : Mu} {pc : Nat} {lv : List (Nat × Value)} {st : List Value} {cc : ByteArray} {own : String} {rm : Room} {ret : Option FieldType} (h : HX (l, D, tys, keys, ad, cE, Z) X cc nL own rm ret) {C : String} {T : u_T} {N ci index : Nat} {fs : List Value} {x : Int32} {ty : FieldType} (c k : Nat) (hkey : (c, k) ∈ keys) (he : cE c k (μ c k) = .inr (ci, fs)) (hc : vwCl[ci]? = some (C, T, N)) (hin : ∀ w ∈ u_ws C T N, w ∈ wsL_law) (ty0 : Nat → FieldType) (hty : ∀ k, k < N → parseFieldDescriptor (T k).2.2.1 = some (ty0 k)) (hnm : ∀ a, a < N → ∀ b, b < N → a ≠ b → (T a).2.1 ≠ (T b).2.1) (j : Nat) (hj : j < N) (hw : Cond.fieldLink own index (T j).1 (T j).2.1 (T j).2.2.1 ∈ wsL_law) (hfin : (T j).2.2.2 = false) (hd : parseFieldDescriptor (T j).2.2.1 = some ty) (hn : narrow ty (.int x) = .int x) (hfit : fits ty (.int x) = true) (hl' : j < fs.length) (he' : cE c k (upd (μ c k) j x) = .inr (ci, fs.set j (.int x))) (d : decode cc pc = .ok (.putfield index, 3)) (kk : ∀ μ1 : Mu, μ1 = mu_st μ c k j x → V (l, D, tys, keys, ad, cE, Z) X nL μ1 (pc + 3) lv st) : V (l, D, tys, keys, ad, cE, Z) X nL μ pc lv (.int x :: .ref (ad c k) :: st) := by
  obtain ⟨q0, hq0⟩ := List.getElem?_of_mem hkey
  have kk := kk _ rfl
  obtain ⟨p, e, R, s, m, args, below, meth, c', A, Q, cells, slots⟩ := X
  obtain ⟨hx, hb, hml, hown, hts, hR, hr, hlk, hKK, hD, hcl⟩ := h
  intro H locs ls hP hS hl
  have hat : (wd (l, D, tys, keys, ad, cE, Z) μ)[q0]? = some (ad c k, cE c k (μ c k)) := wd_at (G := (l, D, tys, keys, ad, cE, Z)) (μ := μ) hq0
  rw [he] at hat
  refine va_put (D := D) (C := C) (T := T) (N := N) hx hb hts hin ty0 hty hnm hown hKK.1 hP (hD μ) hS q0 hat hc j hj (hts _ hw) (fun _ h9 => h9) hfin hd hn hfit hl' d (fun H1 locs1 hP1 hD1 hS1 => ?_)
  refine kk H1 locs1 ls ?_ hS1 hl
  have e1 : (wd (l, D, tys, keys, ad, cE, Z) μ).set q0 (ad c k, cE c k (upd (μ c k) j x)) = wd (l, D, tys, keys, ad, cE, Z) (mu_st μ c k j x) := wd_set (G := (l, D, tys, keys, ad, cE, Z)) (hD μ) hq0 (upd (μ c k) j x)
  rw [he'] at e1
  rw [← e1]
  exact hP1
theorem r_getN {l : Launch} {D : va_G} {tys : List (ClassId × FieldType)} {keys : List (Nat × Nat)} {ad : Nat → Nat → Nat} {cE : Nat → Nat → (Nat → Int32) → va_E} {Z : va_W} {X : Cx} {nL : Nat} {μ : Mu} {pc : Nat} {lv : List (Nat × Value)} {st : List Value} {cc : ByteArray} {own : String} {rm : Room} {ret : Option FieldType} (h : HX (l, D, tys, keys, ad, cE, Z) X cc nL own rm ret) {host : String} {C : String} {T : u_T} {N ci index : Nat} {fs : List Value} {v : Value} (c k : Nat) (hkey : (c, k) ∈ keys) (he : cE c k (μ c k) = .inr (ci, fs)) (hc : vwCl[ci]? = some (C, T, N)) (hin : ∀ w ∈ u_ws C T N, w ∈ wsL_law) (j : Nat) (hj : j < N) (hw : Cond.fieldLinkNest own index (T j).1 (T j).2.1 (T j).2.2.1 host ∈ tb_nest) (hv : fs[j]? = some v) (d : decode cc pc = .ok (.getfield index, 3)) (kk : V (l, D, tys, keys, ad, cE, Z) X nL μ (pc + 3) lv (v :: st)) : V (l, D, tys, keys, ad, cE, Z) X nL μ pc lv (.ref (ad c k) :: st) := by
  obtain ⟨q0, hq0⟩ := List.getElem?_of_mem hkey
  obtain ⟨p, e, R, s, m, args, below, meth, c', A, Q, cells, slots⟩ := X
  obtain ⟨hx, hb, hml, hown, hts, hR, hr, hlk, hKK, hD, hcl⟩ := h
  intro H locs ls hP hS hl
  have hat : (wd (l, D, tys, keys, ad, cE, Z) μ)[q0]? = some (ad c k, cE c k (μ c k)) := wd_at (G := (l, D, tys, keys, ad, cE, Z)) (μ := μ) hq0
  rw [he] at hat
  exact va_getN (D := D) (C := C) (T := T) (N := N) hx hb hts hin hown hKK.1 hP q0 hat hc j hj (va_Nw.use rfl (hKK.2 _ hw)) (fun _ h9 => h9) hv d (kk H locs ls hP hS hl)
theorem r_putN {l : Launch} {D : va_G} {tys : List (ClassId × FieldType)} {keys : List (Nat × Nat)} {ad : Nat → Nat → Nat} {cE : Nat → Nat → (Nat → Int32) → va_E} {Z : va_W} {X : Cx} {nL : Nat} {μ : Mu} {pc : Nat} {lv : List (Nat × Value)} {st : List Value} {cc : ByteArray} {own : String} {rm : Room} {ret : Option FieldType} (h : HX (l, D, tys, keys, ad, cE, Z) X cc nL own rm ret) {host : String} {C : String} {T : u_T} {N ci index : Nat} {fs : List Value} {x : Int32} {ty : FieldType} (c k : Nat) (hkey : (c, k) ∈ keys) (he : cE c k (μ c k) = .inr (ci, fs)) (hc : vwCl[ci]? = some (C, T, N)) (hin : ∀ w ∈ u_ws C T N, w ∈ wsL_law) (ty0 : Nat → FieldType) (hty : ∀ k, k < N → parseFieldDescriptor (T k).2.2.1 = some (ty0 k)) (hnm : ∀ a, a < N → ∀ b, b < N → a ≠ b → (T a).2.1 ≠ (T b).2.1) (j : Nat) (hj : j < N) (hw : Cond.fieldLinkNest own index (T j).1 (T j).2.1 (T j).2.2.1 host ∈ tb_nest) (hfin : (T j).2.2.2 = false) (hd : parseFieldDescriptor (T j).2.2.1 = some ty) (hn : narrow ty (.int x) = .int x) (hfit : fits ty (.int x) = true) (hl' : j < fs.length) (he' : cE c k (upd (μ c k) j x) = .inr (ci, fs.set j (.int x))) (d : decode cc pc = .ok (.putfield index, 3)) (kk : ∀ μ1 : Mu, μ1 = mu_st μ c k j x → V (l, D, tys, keys, ad, cE, Z) X nL μ1 (pc + 3) lv st) : V (l, D, tys, keys, ad, cE, Z) X nL μ pc lv (.int x :: .ref (ad c k) :: st) := by
  obtain ⟨q0, hq0⟩ := List.getElem?_of_mem hkey
  have kk := kk _ rfl
  obtain ⟨p, e, R, s, m, args, below, meth, c', A, Q, cells, slots⟩ := X
  obtain ⟨hx, hb, hml, hown, hts, hR, hr, hlk, hKK, hD, hcl⟩ := h
  intro H locs ls hP hS hl
  have hat : (wd (l, D, tys, keys, ad, cE, Z) μ)[q0]? = some (ad c k, cE c k (μ c k)) := wd_at (G := (l, D, tys, keys, ad, cE, Z)) (μ := μ) hq0
  rw [he] at hat
  refine va_putN (D := D) (C := C) (T := T) (N := N) hx hb hts hin ty0 hty hnm hown hKK.1 hP (hD μ) hS q0 hat hc j hj (va_Nw.use rfl (hKK.2 _ hw)) (fun _ h9 => h9) hfin hd hn hfit hl' d (fun H1 locs1 hP1 hD1 hS1 => ?_)
  refine kk H1 locs1 ls ?_ hS1 hl
  have e1 : (wd (l, D, tys, keys, ad, cE, Z) μ).set q0 (ad c k, cE c k (upd (μ c k) j x)) = wd (l, D, tys, keys, ad, cE, Z) (mu_st μ c k j x) := wd_set (G := (l, D, tys, keys, ad, cE, Z)) (hD μ) hq0 (upd (μ c k) j x)
  rw [he'] at e1
  rw [← e1]
  exact hP1
theorem r_iald {l : Launch} {D : va_G} {tys : List (ClassId × FieldType)} {keys : List (Nat × Nat)} {ad : Nat → Nat → Nat} {cE : Nat → Nat → (Nat → Int32) → va_E} {Z : va_W} {X : Cx} {nL : Nat} {μ : Mu} {pc : Nat} {lv : List (Nat × Value)} {st : List Value} {cc : ByteArray} {own : String} {rm : Room} {ret : Option FieldType} (h : HX (l, D, tys, keys, ad, cE, Z) X cc nL own rm ret) {cA : ClassId} {n t0 : Nat} {i : Int32} (c k : Nat) (hkey : (c, k) ∈ keys) (he : cE c k (μ c k) = .inl (cA, n, .inl (μ c k))) (ht : tys[t0]? = some (cA, .int)) (hi : inb i n = true) (d : decode cc pc = .ok (.iaload, 1)) (kk : V (l, D, tys, keys, ad, cE, Z) X nL μ (pc + 1) lv (.int (μ c k i.toNatClampNeg) :: st)) : V (l, D, tys, keys, ad, cE, Z) X nL μ pc lv (.int i :: .ref (ad c k) :: st) := by
  obtain ⟨q0, hq0⟩ := List.getElem?_of_mem hkey
  obtain ⟨p, e, R, s, m, args, below, meth, c', A, Q, cells, slots⟩ := X
  obtain ⟨hx, hb, hml, hown, hts, hR, hr, hlk, hKK, hD, hcl⟩ := h
  intro H locs ls hP hS hl
  have hat : (wd (l, D, tys, keys, ad, cE, Z) μ)[q0]? = some (ad c k, cE c k (μ c k)) := wd_at (G := (l, D, tys, keys, ad, cE, Z)) (μ := μ) hq0
  rw [he] at hat
  exact va_iald hx hb hKK.1 hP q0 t0 hat ht (inb_in hi) d (kk H locs ls hP hS hl)
theorem r_aald {l : Launch} {D : va_G} {tys : List (ClassId × FieldType)} {keys : List (Nat × Nat)} {ad : Nat → Nat → Nat} {cE : Nat → Nat → (Nat → Int32) → va_E} {Z : va_W} {X : Cx} {nL : Nat} {μ : Mu} {pc : Nat} {lv : List (Nat × Value)} {st : List Value} {cc : ByteArray} {own : String} {rm : Room} {ret : Option FieldType} (h : HX (l, D, tys, keys, ad, cE, Z) X cc nL own rm ret) {cA : ClassId} {C : String} {n t0 : Nat} {f : Nat → Option Nat} {i : Int32} {a : Nat} (c k : Nat) (hkey : (c, k) ∈ keys) (he : cE c k (μ c k) = .inl (cA, n, .inr (.inr (.inr (.inr f))))) (ht : tys[t0]? = some (cA, .object C)) (hi : inb i n = true) (ha : f i.toNatClampNeg = some a) (d : decode cc pc = .ok (.aaload, 1)) (kk : V (l, D, tys, keys, ad, cE, Z) X nL μ (pc + 1) lv (.ref a :: st)) : V (l, D, tys, keys, ad, cE, Z) X nL μ pc lv (.int i :: .ref (ad c k) :: st) := by
  obtain ⟨q0, hq0⟩ := List.getElem?_of_mem hkey
  obtain ⟨p, e, R, s, m, args, below, meth, c', A, Q, cells, slots⟩ := X
  obtain ⟨hx, hb, hml, hown, hts, hR, hr, hlk, hKK, hD, hcl⟩ := h
  intro H locs ls hP hS hl
  have hat : (wd (l, D, tys, keys, ad, cE, Z) μ)[q0]? = some (ad c k, cE c k (μ c k)) := wd_at (G := (l, D, tys, keys, ad, cE, Z)) (μ := μ) hq0
  rw [he] at hat
  exact va_aldq hx hb hKK.1 hP q0 t0 hat ht (inb_in hi) d (by rw [ha]; exact kk H locs ls hP hS hl)
theorem r_iast {l : Launch} {D : va_G} {tys : List (ClassId × FieldType)} {keys : List (Nat × Nat)} {ad : Nat → Nat → Nat} {cE : Nat → Nat → (Nat → Int32) → va_E} {Z : va_W} {X : Cx} {nL : Nat} {μ : Mu} {pc : Nat} {lv : List (Nat × Value)} {st : List Value} {cc : ByteArray} {own : String} {rm : Room} {ret : Option FieldType} (h : HX (l, D, tys, keys, ad, cE, Z) X cc nL own rm ret) {cA : ClassId} {n t0 : Nat} {i x : Int32} (c k : Nat) (hkey : (c, k) ∈ keys) (he : ∀ g : Nat → Int32, cE c k g = .inl (cA, n, .inl g)) (ht : tys[t0]? = some (cA, .int)) (hi : inb i n = true) (d : decode cc pc = .ok (.iastore, 1)) (kk : ∀ μ1 : Mu, μ1 = mu_st μ c k i.toNatClampNeg x → V (l, D, tys, keys, ad, cE, Z) X nL μ1 (pc + 1) lv st) : V (l, D, tys, keys, ad, cE, Z) X nL μ pc lv (.int x :: .int i :: .ref (ad c k) :: st) := by
  obtain ⟨q0, hq0⟩ := List.getElem?_of_mem hkey
  have kk := kk _ rfl
  obtain ⟨p, e, R, s, m, args, below, meth, c', A, Q, cells, slots⟩ := X
  obtain ⟨hx, hb, hml, hown, hts, hR, hr, hlk, hKK, hD, hcl⟩ := h
  intro H locs ls hP hS hl
  have hat : (wd (l, D, tys, keys, ad, cE, Z) μ)[q0]? = some (ad c k, cE c k (μ c k)) := wd_at (G := (l, D, tys, keys, ad, cE, Z)) (μ := μ) hq0
  rw [he] at hat
  refine va_iast hx hb hKK.1 hP (hD μ) hS q0 t0 hat ht (inb_in hi) d (fun H1 locs1 hP1 hD1 hS1 => ?_)
  refine kk H1 locs1 ls ?_ hS1 hl
  have e1 : (wd (l, D, tys, keys, ad, cE, Z) μ).set q0 (ad c k, cE c k (upd (μ c k) i.toNatClampNeg x)) = wd (l, D, tys, keys, ad, cE, Z) (mu_st μ c k i.toNatClampNeg x) := wd_set (G := (l, D, tys, keys, ad, cE, Z)) (hD μ) hq0 (upd (μ c k) i.toNatClampNeg x)
  rw [he] at e1
  rw [← e1]
  exact hP1
theorem run_go {p : Program} {e : Env} {R : Room} {s : State} {m : MethodId} {args : Array Value} {below : List Frame} {meth : Method} {c : Code} {H : Heap} {locs : List Loc} {cells slots : Nat} {Q : State → Prop} {G : Gx} {A : Nat → Prop} {res : Option Value} {μ' : Mu} {a : Array Value} {pc : Nat} {ls : Array Slot} {st0 rest : List Value} {ws : va_W}
    (hr : va_Run p G.1 e R s m args below meth c H locs cells slots 0 0 (F0 m pc ls st0) rest (QC G A res μ' a) A) (hS : va_S A s.heap H locs)
    (kk : ∀ (H1 : Heap) (locs1 : List Loc), va_P G.2.1 vwCl (wd G μ') H1 → va_S A s.heap H1 locs1 → W p G.1 e R s m args below meth c H1 locs1 cells slots Q (F0 m (pc + 3) ls (res.toList ++ rest))) : W p G.1 e R s m args below meth c H locs cells slots Q (F0 m pc ls st0) := by
  intro T hT X
  obtain ⟨v, st₀, t, T', L, h0, X', hL, e1, e2, ⟨hv, hP, hz, hk⟩, st⟩ := hr T hT X
  cases hv
  rw [h0] at hz hk
  obtain ⟨t2, a1, b1⟩ := kk T'.heap (locs ++ L) (by rw [e1]; exact hP)
    ⟨Nat.le_trans hS.1 (by rw [e1]; exact hz), fun q h1 h2 => by rw [e1, hk q (Nat.lt_of_lt_of_le h1 hS.1) h2]; exact hS.2.1 q h1 h2, fun q hq => (List.mem_append.mp hq).elim (fun h => hS.2.2 q h) (fun h => hL q h)⟩ T' rfl X'
  exact ⟨t2, st t2 a1, b1⟩
/-- what the tables tell of a call of an instance method -/
def ckV (own : String) (index : Nat) (C : String) (y : MethodName) (b : ByteArray) (nl : Nat) (ret : Option FieldType) (n : Nat) : Prop :=
  Cond.methodLink own index y ∈ wsL_law ∧ Cond.instanceMethod y ∈ wsL_law ∧ Cond.selects C y y ∈ wsL_law ∧ Cond.initialized C ∈ wsL_law ∧ Cond.code y b nl ret ∈ wsL_law ∧ (y.cls = C ∧ y.cls ≠ "java/lang/invoke/MethodHandle" ∧ y.cls ≠ "java/lang/invoke/VarHandle" ∧ (parseMethodDescriptor y.desc).map (fun d => d.parameters.length) = some n)
def ckS (own : String) (index : Nat) (y : MethodName) (b : ByteArray) (nl : Nat) (ret : Option FieldType) (n : Nat) : Prop :=
  Cond.methodLink own index y ∈ wsL_law ∧ Cond.static y ∈ wsL_law ∧ Cond.initialized y.cls ∈ wsL_law ∧ Cond.code y b nl ret ∈ wsL_law ∧ (y.cls ≠ "java/lang/invoke/MethodHandle" ∧ y.cls ≠ "java/lang/invoke/VarHandle" ∧ (parseMethodDescriptor y.desc).map (fun d => d.parameters.length) = some n)
def rmOk (rm' rm : Room) (nl : Nat) : Prop := rm'.cells = 0 ∧ rm'.slots = 0 ∧ rm'.frames + 1 ≤ rm.frames ∧ 8 + (nl + 11) + rm'.locals ≤ rm.locals
theorem gi_V {own : String} {index : Nat} {C : String} {y : MethodName} {b : ByteArray} {nl : Nat} {ret : Option FieldType} {n : Nat} (h : ckV own index C y b nl ret n) : GoodIn wsL_law (wsV own index C y (.code y b nl ret :: wsL_law)) := by
  obtain ⟨h1, h2, h3, h4, h5, -⟩ := h
  intro w hw
  unfold wsV at hw
  simp only [List.mem_append, List.mem_cons, List.not_mem_nil, or_false] at hw
  rcases hw with (rfl | rfl | rfl | rfl) | rfl | hw
  · exact tb_gi _ h1
  · exact tb_gi _ h2
  · exact tb_gi _ h3
  · exact tb_gi _ h4
  · exact tb_gi _ h5
  · exact tb_gi _ hw
theorem gi_C {c : Cond} (h : c ∈ wsL_law) : GoodIn wsL_law (c :: wsL_law) := by
  intro w hw
  rcases List.mem_cons.mp hw with rfl | hw
  · exact tb_gi _ h
  · exact tb_gi _ hw
theorem r_callV {l : Launch} {D : va_G} {tys : List (ClassId × FieldType)} {keys : List (Nat × Nat)} {ad : Nat → Nat → Nat} {cE : Nat → Nat → (Nat → Int32) → va_E} {Z : va_W} {X : Cx} {nL : Nat} {μ : Mu} {pc : Nat} {lv : List (Nat × Value)} {st : List Value} {cc : ByteArray} {own : String} {rm : Room} {ret : Option FieldType} (h : HX (l, D, tys, keys, ad, cE, Z) X cc nL own rm ret) {C : String} {T : u_T} {N ci index n nl : Nat} {fs : List Value} {y : MethodName} {b : ByteArray} {rt : Option FieldType} {rm' : Room} {As rest st' : List Value} {res : Option Value} {μ' : Mu} (c k : Nat) (hM : CT (l, D, tys, keys, ad, cE, Z) y (.code y b nl rt :: wsL_law) rm' (.ref (ad c k) :: As) μ res μ') (ck : ckV own index C y b nl rt n) (hrm : rmOk rm' rm nl) (hkey : (c, k) ∈ keys) (he : cE c k (μ c k) = .inr (ci, fs)) (hc : vwCl[ci]? = some (C, T, N)) (hn : As.length = n) (hst : st = As.reverse ++ .ref (ad c k) :: rest) (hw : (rest.map fun v => v.category).sum ≤ 8) (d : decode cc pc = .ok (.invokevirtual index, 3)) (hst' : st' = res.toList ++ rest) (kk : V (l, D, tys, keys, ad, cE, Z) X nL μ' (pc + 3) lv st') : V (l, D, tys, keys, ad, cE, Z) X nL μ pc lv st := by
  subst hst; subst hst'
  obtain ⟨q0, hq0⟩ := List.getElem?_of_mem hkey
  obtain ⟨p, e, R, s, m, args, below, meth, c', A, Q, cells, slots⟩ := X
  obtain ⟨hx, hb, hml, hown, hts, rfl, hr, hlk, hKK, hD, hcl⟩ := h
  intro H locs ls hP hS hl
  have hat : (wd (l, D, tys, keys, ad, cE, Z) μ)[q0]? = some (ad c k, cE c k (μ c k)) := wd_at (G := (l, D, tys, keys, ad, cE, Z)) (μ := μ) hq0
  rw [he] at hat
  refine run_go (G := (l, D, tys, keys, ad, cE, Z)) (ws := []) (va_runV (As := As) (rest := rest) ⟨hx, hb, hml, hown, hts⟩ (hM A) (cwV n hts (gi_V ck) rfl hrm.1 hrm.2.1 ck.2.2.2.2.2 ⟨hrm.2.2.1, hrm.2.2.2⟩) ⟨PC.blind, va_recv hKK.1 hP (ci := ci) (q0 := q0) hc hat, fun U hU hW => ⟨rfl, by rw [hU]; exact hP, hKK.warm hW, hD⟩⟩ rfl hn hl.1 rfl (lv_room hw) d ⟨?_, ?_⟩) hS (fun H1 locs1 hP1 hS1 => kk H1 locs1 ls hP1 hS1 hl)
  · exact hcl.1
  · exact hcl.2
theorem r_callS {G : Gx} {X : Cx} {nL : Nat} {μ : Mu} {pc : Nat} {lv : List (Nat × Value)} {st : List Value} {cc : ByteArray} {own : String} {rm : Room} {ret : Option FieldType} (h : HX G X cc nL own rm ret) {index n nl : Nat} {y : MethodName} {b : ByteArray} {rt : Option FieldType} {rm' : Room} {As rest st' : List Value} {res : Option Value} {μ' : Mu} (hM : CT G y (.code y b nl rt :: wsL_law) rm' As μ res μ') (ck : ckS own index y b nl rt n) (hrm : rmOk rm' rm nl) (hn : As.length = n) (hst : st = As.reverse ++ rest) (hw : (rest.map fun v => v.category).sum ≤ 8) (d : decode cc pc = .ok (.invokestatic index, 3)) (hst' : st' = res.toList ++ rest) (kk : V G X nL μ' (pc + 3) lv st') : V G X nL μ pc lv st := by
  subst hst; subst hst'
  obtain ⟨p, e, R, s, m, args, below, meth, c', A, Q, cells, slots⟩ := X
  obtain ⟨hx, hb, hml, hown, hts, rfl, hr, hlk, hKK, hD, hcl⟩ := h
  intro H locs ls hP hS hl
  refine run_go (ws := []) (va_runS (As := As) (rest := rest) ⟨hx, hb, hml, hown, hts⟩ (hM A) ⟨callB_of n hts (gi_C ck.2.2.2.1) rfl hrm.1 hrm.2.1 (hts _ ck.2.2.1) (hts _ ck.1) ck.2.2.2.2 ⟨hrm.2.2.1, hrm.2.2.2⟩, hts _ ck.2.1⟩ ⟨PC.blind, fun U hU hW => ⟨rfl, by rw [hU]; exact hP, hKK.warm hW, hD⟩⟩ rfl hn hl.1 rfl (lv_room hw) d ⟨?_, ?_⟩) hS (fun H1 locs1 hP1 hS1 => kk H1 locs1 ls hP1 hS1 hl)
  · exact hcl.1
  · exact hcl.2
theorem r_mmin {G : Gx} {X : Cx} {nL : Nat} {μ : Mu} {pc : Nat} {lv : List (Nat × Value)} {st : List Value} {cc : ByteArray} {own : String} {rm : Room} {ret : Option FieldType} (h : HX G X cc nL own rm ret) {x y : Int32} {index : Nat} (h1 : Cond.methodLink own index Lib.Math.min.name ∈ wsL_law) (h2 : Cond.static Lib.Math.min.name ∈ wsL_law) (h3 : Cond.initialized "java/lang/Math" ∈ wsL_law) (h4 : Cond.code Lib.Math.min.name Lib.Math.min.code 2 (some .int) ∈ wsL_law) (hf : 1 ≤ rm.frames) (hlo : (st.map fun v => v.category).sum + 13 ≤ rm.locals) (d : decode cc pc = .ok (.invokestatic index, 3)) (k : V G X nL μ (pc + 3) lv (.int (if y < x then y else x) :: st)) : V G X nL μ pc lv (.int y :: .int x :: st) := by
  obtain ⟨p, e, R, s, m, args, below, meth, c, A, Q, cells, slots⟩ := X
  obtain ⟨hx, hb, hml, hown, hts, rfl, hr, hlk, hKK, hD, hcl⟩ := h
  exact fun H locs ls hP hS hl => va_mmin hx hb (hml.trans hl.1.symm) hown (hts _ h1) (hts _ h2) (hts _ h3) (hts _ h4) hf hlo hcl.1 hcl.2 d (k H locs ls hP hS hl)
theorem r_iret {G : Gx} {X : Cx} {nL : Nat} {μ μ' : Mu} {pc : Nat} {lv : List (Nat × Value)} {cc : ByteArray} {own : String} {rm : Room} (h : HX G X cc nL own rm (some .int)) {x r : Int32} (hQ : HQ G X (some (.int r)) μ') (e : x = r) (eμ : μ = μ') (d : decode cc pc = .ok (.ireturn, 1)) : V G X nL μ pc lv [.int x] := by
  subst e; subst eμ
  obtain ⟨p, e, R, s, m, args, below, meth, c, A, Q, cells, slots⟩ := X
  obtain ⟨hx, hb, hml, hown, hts, hR, hr, hlk, hKK, hD, hcl⟩ := h
  obtain ⟨rfl, rfl, rfl⟩ := hQ
  exact fun H locs ls hP hS hl => W.iret hx hb hr (fun t ht hW => ⟨rfl, by rw [ht]; exact hP, hS.F ht⟩) hS.2.2 d hlk
theorem r_lret {G : Gx} {X : Cx} {nL : Nat} {μ μ' : Mu} {pc : Nat} {lv : List (Nat × Value)} {cc : ByteArray} {own : String} {rm : Room} (h : HX G X cc nL own rm (some .long)) {x r : Int64} (hQ : HQ G X (some (.long r)) μ') (e : x = r) (eμ : μ = μ') (d : decode cc pc = .ok (.lreturn, 1)) : V G X nL μ pc lv [.long x] := by
  subst e; subst eμ
  obtain ⟨p, e, R, s, m, args, below, meth, c, A, Q, cells, slots⟩ := X
  obtain ⟨hx, hb, hml, hown, hts, hR, hr, hlk, hKK, hD, hcl⟩ := h
  obtain ⟨rfl, rfl, rfl⟩ := hQ
  exact fun H locs ls hP hS hl => W.lret hx hb hr (fun t ht hW => ⟨rfl, by rw [ht]; exact hP, hS.F ht⟩) hS.2.2 d hlk
theorem r_zret {G : Gx} {X : Cx} {nL : Nat} {μ μ' : Mu} {pc : Nat} {lv : List (Nat × Value)} {cc : ByteArray} {own : String} {rm : Room} (h : HX G X cc nL own rm (some .boolean)) {x r : Int32} (hz : x = 0 ∨ x = 1) (hQ : HQ G X (some (.int r)) μ') (e : x = r) (eμ : μ = μ') (d : decode cc pc = .ok (.ireturn, 1)) : V G X nL μ pc lv [.int x] := by
  subst e; subst eμ
  obtain ⟨p, e, R, s, m, args, below, meth, c, A, Q, cells, slots⟩ := X
  obtain ⟨hx, hb, hml, hown, hts, hR, hr, hlk, hKK, hD, hcl⟩ := h
  obtain ⟨rfl, rfl, rfl⟩ := hQ
  have hnz : narrow .boolean (.int x) = .int x := by rcases hz with rfl | rfl <;> rfl
  exact fun H locs ls hP hS hl => W.zret hx hb hr hnz (fun t ht hW => ⟨rfl, by rw [ht]; exact hP, hS.F ht⟩) hS.2.2 d hlk
theorem r_vret {G : Gx} {X : Cx} {nL : Nat} {μ μ' : Mu} {pc : Nat} {lv : List (Nat × Value)} {cc : ByteArray} {own : String} {rm : Room} (h : HX G X cc nL own rm none) (hQ : HQ G X none μ') (eμ : μ = μ') (d : decode cc pc = .ok (.return_, 1)) : V G X nL μ pc lv [] := by
  subst eμ
  obtain ⟨p, e, R, s, m, args, below, meth, c, A, Q, cells, slots⟩ := X
  obtain ⟨hx, hb, hml, hown, hts, hR, hr, hlk, hKK, hD, hcl⟩ := h
  obtain ⟨rfl, rfl, rfl⟩ := hQ
  exact fun H locs ls hP hS hl => W.vret hx hb hr (fun t ht hW => ⟨rfl, by rw [ht]; exact hP, hS.F ht⟩) hS.2.2 d hlk
theorem pr1 {α β : Type} {a a' : α} {b b' : β} (h : some (a, b) = some (a', b')) : a = a' := by cases h; rfl
theorem pr2 {α β : Type} {a a' : α} {b b' : β} (h : some (a, b) = some (a', b')) : b = b' := by cases h; rfl
theorem ct_of {G : Gx} {y : MethodName} {cc : ByteArray} {nL : Nat} {ret : Option FieldType} {rm : Room} {av : List Value} {μ : Mu} {res : Option Value} {μ' : Mu} (hy : plainName y.cls = true) (hrm : rm.cells = 0 ∧ rm.slots = 0) (hlen : (lg_sl av).length ≤ nL) {own : String} (ho : y.cls = own)
    (body : ∀ X : Cx, HX G X cc nL own rm ret → HQ G X res μ' → V G X nL μ 0 (lv_args 0 av) []) : CT G y (.code y cc nL ret :: wsL_law) rm av μ res μ' := by
  subst ho
  intro A
  refine Met.ofW (cc := cc) (maxL := nL) (ret := ret) hy rfl ?_
  intro p e s m args below meth c s₁ B hml hv
  obtain ⟨rfl, hP, hK, hD⟩ := hv
  have hts := atoms_spec (ws := .code y cc nL ret :: wsL_law) B.pre
  rw [lg_entry_eq]
  exact body (p, e, rm, s, m, _, below, meth, c, A, _, 0, 0) ⟨B.exec, B.bytes, hml, findClass_of_methodNamed B.named, fun w hw => hts w (List.mem_cons_of_mem _ hw), rfl, B.returns, B.notSynchronized, hK, hD, Nat.zero_le _, Nat.zero_le _⟩ ⟨rfl, rfl, rfl⟩ s.heap [] _ hP va_S.rf (lv_entry av hlen)
