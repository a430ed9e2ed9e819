/-! The judgement U: for code that makes objects. -/
def KU (D : va_G) (tys : List (ClassId × FieldType)) (U : State) : Prop := KK D tys U ∧ va_AO "HookTrays$Hook" U ∧ va_AO "HookTrays$Tray" U
theorem KU.warm {D : va_G} {tys : List (ClassId × FieldType)} {s U : State} (hW : s.WarmedH U.vm) (h : KU D tys s) : KU D tys U := ⟨h.1.warm hW, va_AO.moved hW.alike h.2.1, va_AO.moved hW.alike h.2.2⟩
theorem KU.call {D : va_G} {tys : List (ClassId × FieldType)} {U : State} {g : JFrame} {mk : MethodId} {a : Array Value} (h : KU D tys U) : KU D tys (U.calling g mk a) := ⟨h.1.call, va_AO.moved (u := U) (U := U.calling g mk a) (Vm.Alike.refl U.vm) h.2.1, va_AO.moved (u := U) (U := U.calling g mk a) (Vm.Alike.refl U.vm) h.2.2⟩
def UU (l : Launch) (D : va_G) (X : Cx) (nL : Nat) (ws : va_W) (cells slots pc : Nat) (lv : List (Nat × Value)) (st : List Value) : Prop := match X with
  | (p, e, R, s, m, args, below, meth, c, A, Q, _, _) => ∀ (H : Heap) (locs : List Loc) (ls : Array Slot), va_P D vwCl ws H → va_D A ws → va_S A s.heap H locs → lv_has ls nL lv → W p l e R s m args below meth c H locs cells slots Q (F0 m pc ls st)
def HU (D : va_G) (tys : List (ClassId × FieldType)) (X : Cx) (cc : ByteArray) (nL : Nat) (own : String) (rm : Room) : Prop := match X with
  | (p, _, R, s, m, args, _, _, c, A, _, _, _) => p.tables.exec = Jvm.exec ∧ c.code = cc ∧ c.maxLocals = nL ∧ s.vm.findClass own = some m.cls ∧ (∀ w ∈ wsL_law, w.before args s = true) ∧ R = rm ∧ KU D tys s ∧ ∀ q : Nat, s.heap.size ≤ q → A q
def HI (X : Cx) : Prop := match X with
  | (_, _, _, _, _, _, _, meth, _, _, _, _, _) => meth.name = "<init>" ∧ meth.sig.returnType = none ∧ meth.locks = false
abbrev zA (cI : ClassId) (q n : Nat) : Nat × va_E := (q, .inl (cI, n, .inl (fun _ => 0)))
def QN (D : va_G) (w0 : va_W) (sz : Nat) (w1 : (Nat → Nat) → va_W) : Array Value → State → Outcome → State → Prop := fun _ st oc t => oc = .returned none ∧ (∃ u : Nat → Nat, va_P D vwCl (w1 u) t.heap ∧ va_D (va_A w0 sz) (w1 u)) ∧ va_F (va_A w0 sz) st t
def PN (D : va_G) (tys : List (ClassId × FieldType)) (w0 : va_W) (sz : Nat) (U : State) : Prop := U.heap.size = sz ∧ va_P D vwCl w0 U.heap ∧ KU D tys U ∧ va_D (fun _ => True) w0
/-- a constructor's contract: of the new object alone it makes these cells -/
def CN (l : Launch) (D : va_G) (tys : List (ClassId × FieldType)) (y : MethodName) (ws : List Cond) (rm : Room) (h0 : Nat) (e0 : va_E) (w1 : (Nat → Nat) → va_W) : Prop :=
  ∀ sz : Nat, Met l y ws rm (va_Pc [.ref h0] (PN D tys [(h0, e0)] sz)) (QN D [(h0, e0)] sz w1) rm.cells rm.slots (va_A [(h0, e0)] sz)
theorem PN.blind {D : va_G} {tys : List (ClassId × FieldType)} {w0 : va_W} {sz : Nat} {av : List Value} : FrameBlind (va_Pc av (PN D tys w0 sz)) := fun a U g mk q => ⟨q.1, q.2.1, q.2.2.1, q.2.2.2.1.call, q.2.2.2.2⟩
def HN (D : va_G) (X : Cx) (h0 : Nat) (e0 : va_E) (w1 : (Nat → Nat) → va_W) (mc ms : Nat) : Prop := match X with
  | (_, _, _, s, _, args, below, _, _, A, Q, _, _) => A = va_A [(h0, e0)] s.heap.size ∧ Q = MQ below (QN D [(h0, e0)] s.heap.size w1) args s mc ms (va_A [(h0, e0)] s.heap.size)
theorem cn_of {l : Launch} {D : va_G} {tys : List (ClassId × FieldType)} {y : MethodName} {cc : ByteArray} {nL : Nat} {rm : Room} {h0 : Nat} {e0 : va_E} {w1 : (Nat → Nat) → va_W} (hy : plainName y.cls = true) (hn : y.name = "<init>") {own : String} (ho : y.cls = own) (hlen : (lg_sl [Value.ref h0]).length ≤ nL)
    (body : ∀ X : Cx, HU D tys X cc nL own rm → HI X → HN D X h0 e0 w1 rm.cells rm.slots → UU l D X nL [(h0, e0)] 0 0 0 [(0, .ref h0)] []) : CN l D tys y (.code y cc nL none :: wsL_law) rm h0 e0 w1 := by
  subst ho
  intro sz
  refine Met.ofW (cc := cc) (maxL := nL) (ret := none) hy rfl ?_
  intro p e s m args below meth c s₁ B hml hv
  obtain ⟨rfl, hsz, hP, hK, hD⟩ := hv
  subst hsz
  have hts := atoms_spec (ws := .code y cc nL none :: wsL_law) B.pre
  rw [lg_entry_eq]
  exact body (p, e, rm, s, m, _, below, meth, c, va_A [(h0, e0)] s.heap.size, _, 0, 0) ⟨B.exec, B.bytes, hml, findClass_of_methodNamed B.named, fun w hw => hts w (List.mem_cons_of_mem _ hw), rfl, hK, fun q h => Or.inr h⟩ ⟨(name_of_methodNamed B.named B.method).1.trans hn, B.returns, B.notSynchronized⟩ ⟨rfl, rfl⟩ s.heap [] _ hP hD.self va_S.rf (lv_entry [Value.ref h0] hlen)
theorem pre_join {A0 : Nat → Prop} {D : va_G} {pre w1 : va_W} {a : Nat} {e0 : va_E} {H H1 : Heap} (hP : va_P D vwCl (pre ++ [(a, e0)]) H) (hD : va_D A0 (pre ++ [(a, e0)])) (hk : ∀ q : Nat, q < H.size → ¬ va_A [(a, e0)] H.size q → H1[q]? = H[q]?) (hF : ∀ q, va_A [(a, e0)] H.size q → A0 q) (hP1 : va_P D vwCl w1 H1) (hD1 : va_D (va_A [(a, e0)] H.size) w1) : va_P D vwCl (pre ++ w1) H1 ∧ va_D A0 (pre ++ w1) := by
  have hpre : ∀ (k : Nat) (q : Nat × va_E), pre[k]? = some q → (pre ++ [(a, e0)])[k]? = some q := fun k q hk => by
    rw [List.getElem?_append_left (List.getElem?_eq_some_iff.mp hk).1]; exact hk
  have hne : ∀ (k : Nat) (q : Nat × va_E), pre[k]? = some q → q.1 ≠ a ∧ q.1 < H.size := fun k q hq => by
    refine ⟨fun e => ?_, (hP k q (hpre k q hq)).lt⟩
    have h1 : (pre ++ [(a, e0)])[pre.length]? = some (a, e0) := by simp
    have := hD.1 k pre.length q (a, e0) (hpre k q hq) h1 e
    have := (List.getElem?_eq_some_iff.mp hq).1
    omega
  have hnA : ∀ (k : Nat) (q : Nat × va_E), pre[k]? = some q → ¬ va_A [(a, e0)] H.size q.1 := fun k q hq z => by
    rcases z with ⟨i, e, hi⟩ | z
    · have : (q.1, e) = (a, e0) := by
        match i, hi with
        | 0, hi => exact (Option.some.inj hi).symm
        | i + 1, hi => simp at hi
      exact (hne k q hq).1 (congrArg Prod.fst this)
    · have := (hne k q hq).2
      omega
  refine ⟨va_P.app (fun k q hq => (hP k q (hpre k q hq)).kept (hk _ (hne k q hq).2 (hnA k q hq))) hP1, va_D.app ⟨fun i j x y hi hj e => hD.1 i j x y (hpre i x hi) (hpre j y hj) e, fun k q hq => hD.2 k q (hpre k q hq)⟩ (hD1.weaken (fun k q _ h => hF q.1 h)) (fun i j x y hx hy e => ?_)⟩
  exact hnA i x hx (by rw [e]; exact hD1.2 j y hy)
theorem u_iconst {l : Launch} {D : va_G} {tys : List (ClassId × FieldType)} {X : Cx} {nL : Nat} {ws : va_W} {cells slots pc : Nat} {lv : List (Nat × Value)} {st : List Value} {cc : ByteArray} {own : String} {rm : Room} (h : HU D tys X cc nL own rm) {n : Int} {v : Int32} (d : decode cc pc = .ok (.iconst n, 1)) (hv : Int32.ofInt n = v) (k : UU l D X nL ws cells slots (pc + 1) lv (.int v :: st)) : UU l D X nL ws cells slots pc lv (st) := by
  obtain ⟨p, e, R, s, m, args, below, meth, c, A, Q, z1, z2⟩ := X
  obtain ⟨hx, hb, hml, hown, hts, rfl, hKU, hA⟩ := h
  exact fun H locs ls hP hD hS hl => lv_iconst hx hb d hv (k H locs ls hP hD hS hl)
theorem u_bipush {l : Launch} {D : va_G} {tys : List (ClassId × FieldType)} {X : Cx} {nL : Nat} {ws : va_W} {cells slots pc : Nat} {lv : List (Nat × Value)} {st : List Value} {cc : ByteArray} {own : String} {rm : Room} (h : HU D tys X cc nL own rm) {n : Int} {v : Int32} (d : decode cc pc = .ok (.bipush n, 2)) (hv : (Int8.ofInt n).toInt32 = v) (k : UU l D X nL ws cells slots (pc + 2) lv (.int v :: st)) : UU l D X nL ws cells slots pc lv (st) := by
  obtain ⟨p, e, R, s, m, args, below, meth, c, A, Q, z1, z2⟩ := X
  obtain ⟨hx, hb, hml, hown, hts, rfl, hKU, hA⟩ := h
  exact fun H locs ls hP hD hS hl => lv_bipush hx hb d hv (k H locs ls hP hD hS hl)
theorem u_sipush {l : Launch} {D : va_G} {tys : List (ClassId × FieldType)} {X : Cx} {nL : Nat} {ws : va_W} {cells slots pc : Nat} {lv : List (Nat × Value)} {st : List Value} {cc : ByteArray} {own : String} {rm : Room} (h : HU D tys X cc nL own rm) {n : Int} {v : Int32} (d : decode cc pc = .ok (.sipush n, 3)) (hv : (Int16.ofInt n).toInt32 = v) (k : UU l D X nL ws cells slots (pc + 3) lv (.int v :: st)) : UU l D X nL ws cells slots pc lv (st) := by
  obtain ⟨p, e, R, s, m, args, below, meth, c, A, Q, z1, z2⟩ := X
  obtain ⟨hx, hb, hml, hown, hts, rfl, hKU, hA⟩ := h
  exact fun H locs ls hP hD hS hl => lv_sipush hx hb d hv (k H locs ls hP hD hS hl)
theorem u_iload_n {l : Launch} {D : va_G} {tys : List (ClassId × FieldType)} {X : Cx} {nL : Nat} {ws : va_W} {cells slots pc : Nat} {lv : List (Nat × Value)} {st : List Value} {cc : ByteArray} {own : String} {rm : Room} (h : HU D tys X cc nL own rm) {kk : Fin 4} {x : Int32} (d : decode cc pc = .ok (.iload_n kk, 1)) (j : Nat) (hj : lv[j]? = some ((kk : Nat), .int x)) (k : UU l D X nL ws cells slots (pc + 1) lv (.int x :: st)) : UU l D X nL ws cells slots pc lv (st) := by
  obtain ⟨p, e, R, s, m, args, below, meth, c, A, Q, z1, z2⟩ := X
  obtain ⟨hx, hb, hml, hown, hts, rfl, hKU, hA⟩ := h
  exact fun H locs ls hP hD hS hl => lv_iload_n hx hb d rfl (lv_at hl j hj) (k H locs ls hP hD hS hl)
theorem u_istore_n {l : Launch} {D : va_G} {tys : List (ClassId × FieldType)} {X : Cx} {nL : Nat} {ws : va_W} {cells slots pc : Nat} {lv : List (Nat × Value)} {st : List Value} {cc : ByteArray} {own : String} {rm : Room} (h : HU D tys X cc nL own rm) {kk : Fin 4} {x : Int32} {lv' : List (Nat × Value)} (d : decode cc pc = .ok (.istore_n kk, 1)) (hn : (kk : Nat) < nL) (hl' : ((kk : Nat), Value.int x) :: lv.filter (fun q => !(q.1 == (kk : Nat)) && !(q.1 + 1 == (kk : Nat) && q.2.category == 2)) = lv') (k : UU l D X nL ws cells slots (pc + 1) lv' st) : UU l D X nL ws cells slots pc lv (.int x :: st) := by
  obtain ⟨p, e, R, s, m, args, below, meth, c, A, Q, z1, z2⟩ := X
  obtain ⟨hx, hb, hml, hown, hts, rfl, hKU, hA⟩ := h
  exact fun H locs ls hP hD hS hl => lv_istore_n hx hb d rfl hl hn hl' (fun ls hl => k H locs ls hP hD hS hl)
theorem u_aload_n {l : Launch} {D : va_G} {tys : List (ClassId × FieldType)} {X : Cx} {nL : Nat} {ws : va_W} {cells slots pc : Nat} {lv : List (Nat × Value)} {st : List Value} {cc : ByteArray} {own : String} {rm : Room} (h : HU D tys X cc nL own rm) {kk : Fin 4} {x : Nat} (d : decode cc pc = .ok (.aload_n kk, 1)) (j : Nat) (hj : lv[j]? = some ((kk : Nat), .ref x)) (k : UU l D X nL ws cells slots (pc + 1) lv (.ref x :: st)) : UU l D X nL ws cells slots pc lv (st) := by
  obtain ⟨p, e, R, s, m, args, below, meth, c, A, Q, z1, z2⟩ := X
  obtain ⟨hx, hb, hml, hown, hts, rfl, hKU, hA⟩ := h
  exact fun H locs ls hP hD hS hl => lv_aload_n hx hb d rfl (lv_at hl j hj) (k H locs ls hP hD hS hl)
theorem u_astore_n {l : Launch} {D : va_G} {tys : List (ClassId × FieldType)} {X : Cx} {nL : Nat} {ws : va_W} {cells slots pc : Nat} {lv : List (Nat × Value)} {st : List Value} {cc : ByteArray} {own : String} {rm : Room} (h : HU D tys X cc nL own rm) {kk : Fin 4} {x : Nat} {lv' : List (Nat × Value)} (d : decode cc pc = .ok (.astore_n kk, 1)) (hn : (kk : Nat) < nL) (hl' : ((kk : Nat), Value.ref x) :: lv.filter (fun q => !(q.1 == (kk : Nat)) && !(q.1 + 1 == (kk : Nat) && q.2.category == 2)) = lv') (k : UU l D X nL ws cells slots (pc + 1) lv' st) : UU l D X nL ws cells slots pc lv (.ref x :: st) := by
  obtain ⟨p, e, R, s, m, args, below, meth, c, A, Q, z1, z2⟩ := X
  obtain ⟨hx, hb, hml, hown, hts, rfl, hKU, hA⟩ := h
  exact fun H locs ls hP hD hS hl => lv_astore_n hx hb d rfl hl hn hl' (fun ls hl => k H locs ls hP hD hS hl)
theorem u_iinc {l : Launch} {D : va_G} {tys : List (ClassId × FieldType)} {X : Cx} {nL : Nat} {ws : va_W} {cells slots pc : Nat} {lv : List (Nat × Value)} {st : List Value} {cc : ByteArray} {own : String} {rm : Room} (h : HU D tys X cc nL own rm) {i j : Nat} {n : Int} {x v : Int32} {lv' : List (Nat × Value)} (d : decode cc pc = .ok (.iinc i n, 3)) (hj : lv[j]? = some (i, .int x)) (hv : x + Int32.ofInt n = v) (hn : i < nL) (hl' : (i, Value.int v) :: lv.filter (fun q => !(q.1 == i) && !(q.1 + 1 == i && q.2.category == 2)) = lv') (k : UU l D X nL ws cells slots (pc + 3) lv' st) : UU l D X nL ws cells slots pc lv st := by
  obtain ⟨p, e, R, s, m, args, below, meth, c, A, Q, z1, z2⟩ := X
  obtain ⟨hx, hb, hml, hown, hts, rfl, hKU, hA⟩ := h
  exact fun H locs ls hP hD hS hl => lv_iinc hx hb d hl hj hv hn hl' (fun ls hl => k H locs ls hP hD hS hl)
theorem u_dup {l : Launch} {D : va_G} {tys : List (ClassId × FieldType)} {X : Cx} {nL : Nat} {ws : va_W} {cells slots pc : Nat} {lv : List (Nat × Value)} {st : List Value} {cc : ByteArray} {own : String} {rm : Room} (h : HU D tys X cc nL own rm) {va : Value} (d : decode cc pc = .ok (.dup, 1)) (hva : va.category = 1) (k : UU l D X nL ws cells slots (pc + 1) lv (va :: va :: st)) : UU l D X nL ws cells slots pc lv (va :: st) := by
  obtain ⟨p, e, R, s, m, args, below, meth, c, A, Q, z1, z2⟩ := X
  obtain ⟨hx, hb, hml, hown, hts, rfl, hKU, hA⟩ := h
  exact fun H locs ls hP hD hS hl => lv_dup hx hb d hva (k H locs ls hP hD hS hl)
theorem u_goto {l : Launch} {D : va_G} {tys : List (ClassId × FieldType)} {X : Cx} {nL : Nat} {ws : va_W} {cells slots pc : Nat} {lv : List (Nat × Value)} {st : List Value} {cc : ByteArray} {own : String} {rm : Room} (h : HU D tys X cc nL own rm) {off : Int} {tgt : Nat} (d : decode cc pc = .ok (.goto off, 3)) (ht : (pc : Int) + off = (tgt : Int)) (k : UU l D X nL ws cells slots tgt lv st) : UU l D X nL ws cells slots pc lv st := by
  obtain ⟨p, e, R, s, m, args, below, meth, c, A, Q, z1, z2⟩ := X
  obtain ⟨hx, hb, hml, hown, hts, rfl, hKU, hA⟩ := h
  exact fun H locs ls hP hD hS hl => lv_goto hx hb d ht (k H locs ls hP hD hS hl)
theorem u_ge_t {l : Launch} {D : va_G} {tys : List (ClassId × FieldType)} {X : Cx} {nL : Nat} {ws : va_W} {cells slots pc : Nat} {lv : List (Nat × Value)} {st : List Value} {cc : ByteArray} {own : String} {rm : Room} (h : HU D tys X cc nL own rm) {x y : Int32} {off : Int} {tgt : Nat} (d : decode cc pc = .ok (.if_icmp .ge off, 3)) (ht : (pc : Int) + off = (tgt : Int)) (hc : y ≤ x) (k : UU l D X nL ws cells slots tgt lv st) : UU l D X nL ws cells slots pc lv (.int y :: .int x :: st) := by
  obtain ⟨p, e, R, s, m, args, below, meth, c, A, Q, z1, z2⟩ := X
  obtain ⟨hx, hb, hml, hown, hts, rfl, hKU, hA⟩ := h
  exact fun H locs ls hP hD hS hl => lv_icmp_ge hx hb d ht (fun _ => k H locs ls hP hD hS hl) (fun q => absurd hc q)
theorem u_ge_f {l : Launch} {D : va_G} {tys : List (ClassId × FieldType)} {X : Cx} {nL : Nat} {ws : va_W} {cells slots pc : Nat} {lv : List (Nat × Value)} {st : List Value} {cc : ByteArray} {own : String} {rm : Room} (h : HU D tys X cc nL own rm) {x y : Int32} {off : Int} {tgt : Nat} (d : decode cc pc = .ok (.if_icmp .ge off, 3)) (ht : (pc : Int) + off = (tgt : Int)) (hc : ¬ y ≤ x) (k : UU l D X nL ws cells slots (pc + 3) lv st) : UU l D X nL ws cells slots pc lv (.int y :: .int x :: st) := by
  obtain ⟨p, e, R, s, m, args, below, meth, c, A, Q, z1, z2⟩ := X
  obtain ⟨hx, hb, hml, hown, hts, rfl, hKU, hA⟩ := h
  exact fun H locs ls hP hD hS hl => lv_icmp_ge hx hb d ht (fun q => absurd q hc) (fun _ => k H locs ls hP hD hS hl)
theorem u_objInit {l : Launch} {D : va_G} {tys : List (ClassId × FieldType)} {X : Cx} {nL : Nat} {ws : va_W} {cells slots pc : Nat} {lv : List (Nat × Value)} {st : List Value} {cc : ByteArray} {own : String} {rm : Room} (h : HU D tys X cc nL own rm) {idx a : Nat} (hw : Cond.methodLink own idx objectInit ∈ wsL_law) (hw2 : Cond.instanceMethod objectInit ∈ wsL_law) (hf : 1 ≤ rm.frames) (hlo : (st.map fun v => v.category).sum + 12 ≤ rm.locals) (d : decode cc pc = .ok (.invokespecial idx, 3)) (k : UU l D X nL ws cells slots (pc + 3) lv st) : UU l D X nL ws cells slots pc lv (.ref a :: st) := by
  obtain ⟨p, e, R, s, m, args, below, meth, c, A, Q, z1, z2⟩ := X
  obtain ⟨hx, hb, hml, hown, hts, rfl, hKU, hA⟩ := h
  exact fun H locs ls hP hD hS hl => W.objInit hx hb hown (hts _ hw) (hts _ hw2) (hts _ tw_obj) rfl (by rw [hml]; exact hl.1) rfl d hf (by show 2 * 0 + _ + 12 ≤ _; omega) (k H locs ls hP hD hS hl)
theorem u_get {l : Launch} {D : va_G} {tys : List (ClassId × FieldType)} {X : Cx} {nL : Nat} {ws : va_W} {cells slots pc : Nat} {lv : List (Nat × Value)} {st : List Value} {cc : ByteArray} {own : String} {rm : Room} (h : HU D tys X cc nL own rm) {C : String} {T : u_T} {N ci index a : Nat} {fs : List Value} {v : Value} (q0 : Nat) (he : ws[q0]? = some (a, .inr (ci, fs))) (hc : vwCl[ci]? = some (C, T, N)) (hin : ∀ w ∈ u_ws C T N, w ∈ wsL_law) (j : Nat) (hj : j < N) (hw : Cond.fieldLink own index (T j).1 (T j).2.1 (T j).2.2.1 ∈ wsL_law) (hv : fs[j]? = some v) (d : decode cc pc = .ok (.getfield index, 3)) (k : UU l D X nL ws cells slots (pc + 3) lv (v :: st)) : UU l D X nL ws cells slots pc lv (.ref a :: st) := by
  obtain ⟨p, e, R, s, m, args, below, meth, c, A, Q, z1, z2⟩ := X
  obtain ⟨hx, hb, hml, hown, hts, rfl, hKU, hA⟩ := h
  exact fun H locs ls hP hD hS hl => va_get (D := D) (C := C) (T := T) (N := N) hx hb hts hin hown hKU.1.1 hP q0 he hc j hj (hts _ hw) (fun _ h9 => h9) hv d (k H locs ls hP hD hS hl)
theorem u_put {l : Launch} {D : va_G} {tys : List (ClassId × FieldType)} {X : Cx} {nL : Nat} {ws : va_W} {cells slots pc : Nat} {lv : List (Nat × Value)} {st : List Value} {cc : ByteArray} {own : String} {rm : Room} (h : HU D tys X cc nL own rm) {C : String} {T : u_T} {N ci index a : Nat} {fs : List Value} {v : Value} {ty : FieldType} {ws' : va_W} (q0 : Nat) (he : ws[q0]? = some (a, .inr (ci, fs))) (hc : vwCl[ci]? = some (C, T, N)) (hin : ∀ w ∈ u_ws C T N, w ∈ wsL_law) (ty0 : Nat → FieldType) (hty : ∀ k, k < N → parseFieldDescriptor (T k).2.2.1 = some (ty0 k)) (hnm : ∀ a, a < N → ∀ b, b < N → a ≠ b → (T a).2.1 ≠ (T b).2.1) (j : Nat) (hj : j < N) (hw : Cond.fieldLink own index (T j).1 (T j).2.1 (T j).2.2.1 ∈ wsL_law) (hfin : (T j).2.2.2 = false) (hd : parseFieldDescriptor (T j).2.2.1 = some ty) (hn : narrow ty v = v) (hfit : fits ty v = true) (hl' : j < fs.length) (hws : ws.set q0 (a, .inr (ci, fs.set j v)) = ws') (d : decode cc pc = .ok (.putfield index, 3)) (k : UU l D X nL ws' cells slots (pc + 3) lv st) : UU l D X nL ws cells slots pc lv (v :: .ref a :: st) := by
  subst hws
  obtain ⟨p, e, R, s, m, args, below, meth, c, A, Q, z1, z2⟩ := X
  obtain ⟨hx, hb, hml, hown, hts, rfl, hKU, hA⟩ := h
  exact fun H locs ls hP hD hS hl => va_put (D := D) (C := C) (T := T) (N := N) hx hb hts hin ty0 hty hnm hown hKU.1.1 hP hD hS q0 he hc j hj (hts _ hw) (fun _ h9 => h9) hfin hd hn hfit hl' d (fun H1 locs1 hP1 hD1 hS1 => k H1 locs1 ls hP1 hD1 hS1 hl)
theorem u_putF {l : Launch} {D : va_G} {tys : List (ClassId × FieldType)} {X : Cx} {nL : Nat} {ws : va_W} {cells slots pc : Nat} {lv : List (Nat × Value)} {st : List Value} {cc : ByteArray} {own : String} {rm : Room} (h : HU D tys X cc nL own rm) (hi : HI X) {C : String} {T : u_T} {N ci index a : Nat} {fs : List Value} {v : Value} {ty : FieldType} {ws' : va_W} (q0 : Nat) (he : ws[q0]? = some (a, .inr (ci, fs))) (hc : vwCl[ci]? = some (C, T, N)) (hin : ∀ w ∈ u_ws C T N, w ∈ wsL_law) (ty0 : Nat → FieldType) (hty : ∀ k, k < N → parseFieldDescriptor (T k).2.2.1 = some (ty0 k)) (hnm : ∀ a, a < N → ∀ b, b < N → a ≠ b → (T a).2.1 ≠ (T b).2.1) (j : Nat) (hj : j < N) (hw : Cond.fieldLink own index (T j).1 (T j).2.1 (T j).2.2.1 ∈ wsL_law) (hfin : (T j).2.2.2 = true) (hdecl : (T j).1 = own) (hd : parseFieldDescriptor (T j).2.2.1 = some ty) (hn : narrow ty v = v) (hfit : fits ty v = true) (hl' : j < fs.length) (hws : ws.set q0 (a, .inr (ci, fs.set j v)) = ws') (d : decode cc pc = .ok (.putfield index, 3)) (k : UU l D X nL ws' cells slots (pc + 3) lv st) : UU l D X nL ws cells slots pc lv (v :: .ref a :: st) := by
  subst hws
  obtain ⟨p, e, R, s, m, args, below, meth, c, A, Q, z1, z2⟩ := X
  obtain ⟨hx, hb, hml, hown, hts, rfl, hKU, hA⟩ := h
  exact fun H locs ls hP hD hS hl => va_putF (D := D) (C := C) (T := T) (N := N) hx hb hts hin ty0 hty hnm hown hKU.1.1 hP hD hS q0 he hc j hj (hts _ hw) (fun _ h9 => h9) hfin hi.1 hdecl hd hn hfit hl' d (fun H1 locs1 hP1 hD1 hS1 => k H1 locs1 ls hP1 hD1 hS1 hl)
theorem u_new {l : Launch} {D : va_G} {tys : List (ClassId × FieldType)} {X : Cx} {nL : Nat} {ws : va_W} {cells slots pc : Nat} {lv : List (Nat × Value)} {st : List Value} {cc : ByteArray} {own : String} {rm : Room} (h : HU D tys X cc nL own rm) {C : String} {T : u_T} {N ci index c2 s2 : Nat} {fs : List Value} (hin : ∀ w ∈ u_ws C T N, w ∈ wsL_law) (ty : Nat → FieldType) (hty : ∀ k, k < N → parseFieldDescriptor (T k).2.2.1 = some (ty k)) (hw : Cond.classLink own index C ∈ wsL_law) (hw2 : Cond.instantiable C N ∈ wsL_law) (hw3 : Cond.initialized C ∈ wsL_law) (hc : vwCl[ci]? = some (C, T, N)) (hfs : ∀ j, j < N → defaultValue (ty j) = vp_V fs j) (hc2 : cells + 1 = c2) (hs2 : slots + N = s2) (hce : c2 ≤ rm.cells) (hse : s2 ≤ rm.slots) (d : decode cc pc = .ok (.new index, 3)) (k : ∀ q : Nat, UU l D X nL (ws ++ [(q, .inr (ci, fs))]) c2 s2 (pc + 3) lv (.ref q :: st)) : UU l D X nL ws cells slots pc lv st := by
  subst hc2; subst hs2
  obtain ⟨p, e, R, s, m, args, below, meth, c, A, Q, z1, z2⟩ := X
  obtain ⟨hx, hb, hml, hown, hts, rfl, hKU, hA⟩ := h
  exact fun H locs ls hP hD hS hl => va_new (ci := ci) (fs := fs) (C := C) (T := T) (N := N) hx hb hts hin ty hty hown (hts _ hw) (hts _ hw2) (hts _ hw3) hKU.1.1 hP hD hS hA hc hfs hce hse d (fun q H1 hP1 hD1 hS1 => k q H1 locs ls hP1 hD1 hS1 hl)
theorem u_newa {l : Launch} {D : va_G} {tys : List (ClassId × FieldType)} {X : Cx} {nL : Nat} {ws : va_W} {cells slots pc : Nat} {lv : List (Nat × Value)} {st : List Value} {cc : ByteArray} {own : String} {rm : Room} (h : HU D tys X cc nL own rm) {cI : ClassId} {n : Int32} {N c2 s2 : Nat} (hty : tys[0]? = some (cI, .int)) (hn : ¬ n < 0) (hN : n.toNatClampNeg = N) (hbytes : N * componentBytes .int ≤ 536870912) (hc2 : cells + 1 = c2) (hs2 : slots + N = s2) (hce : c2 ≤ rm.cells) (hse : s2 ≤ rm.slots) (hw : Cond.arrayClass .int ∈ wsL_law) (d : decode cc pc = .ok (.newarray .int, 2)) (k : ∀ q : Nat, UU l D X nL (ws ++ [zA cI q N]) c2 s2 (pc + 2) lv (.ref q :: st)) : UU l D X nL ws cells slots pc lv (.int n :: st) := by
  subst hc2; subst hs2
  obtain ⟨p, e, R, s, m, args, below, meth, c, A, Q, z1, z2⟩ := X
  obtain ⟨hx, hb, hml, hown, hts, rfl, hKU, hA⟩ := h
  exact fun H locs ls hP hD hS hl => va_newa (atype := .int) (a0 := (N, .inl (fun _ => 0))) hx hb (hts _ (show Cond.arrayClass (newarray.typeOf .int) ∈ wsL_law from hw)) rfl hKU.1.1 hP hD hS hA (fun cA => rfl) hn hN hbytes hce hse d (fun q cA H1 hK1 hP1 hD1 hS1 => by
    have h1 : va_RA s cA .int := (hK1.2 tys.length (cA, newarray.typeOf .int) (by simp)).2
    have h2 : va_RA s cI .int := (hKU.1.1.2 0 _ hty).2
    have e : cA = cI := Option.some.inj (h1.symm.trans h2)
    subst e
    exact k q H1 locs ls hP1 hD1 hS1 hl)
theorem u_newqHook {l : Launch} {D : va_G} {tys : List (ClassId × FieldType)} {X : Cx} {nL : Nat} {ws : va_W} {cells slots pc : Nat} {lv : List (Nat × Value)} {st : List Value} {cc : ByteArray} {own : String} {rm : Room} (h : HU D tys X cc nL own rm) {cQ : ClassId} {n : Int32} {N c2 s2 index : Nat} (hty : tys[1]? = some (cQ, .object "HookTrays$Hook")) (hn : ¬ n < 0) (hN : n.toNatClampNeg = N) (hbytes : N * 4 ≤ 536870912) (hc2 : cells + 1 = c2) (hs2 : slots + N = s2) (hce : c2 ≤ rm.cells) (hse : s2 ≤ rm.slots) (hw : Cond.classLink own index "HookTrays$Hook" ∈ wsL_law) (d : decode cc pc = .ok (.anewarray index, 3)) (k : ∀ q : Nat, UU l D X nL (ws ++ [(q, .inl (cQ, N, .inr (.inr (.inr (.inr (fun _ => none))))))]) c2 s2 (pc + 3) lv (.ref q :: st)) : UU l D X nL ws cells slots pc lv (.int n :: st) := by
  subst hc2; subst hs2
  obtain ⟨p, e, R, s, m, args, below, meth, c, A, Q, z1, z2⟩ := X
  obtain ⟨hx, hb, hml, hown, hts, rfl, hKU, hA⟩ := h
  exact fun H locs ls hP hD hS hl => va_newq hx hb hown (hts _ hw) hKU.2.1 hKU.1.1 hP hD hS hA hn hN hbytes hce hse d (fun q cA H1 hK1 hP1 hD1 hS1 => by
    obtain ⟨k1, o1, -, -, -, h1⟩ := (hK1.2 tys.length (cA, .object "HookTrays$Hook") (by simp)).2
    obtain ⟨k2, o2, -, -, -, h2⟩ := (hKU.1.1.2 1 _ hty).2
    have e : cA = cQ := Option.some.inj (h1.symm.trans h2)
    subst e
    exact k q H1 locs ls hP1 hD1 hS1 hl)
theorem u_newqTray {l : Launch} {D : va_G} {tys : List (ClassId × FieldType)} {X : Cx} {nL : Nat} {ws : va_W} {cells slots pc : Nat} {lv : List (Nat × Value)} {st : List Value} {cc : ByteArray} {own : String} {rm : Room} (h : HU D tys X cc nL own rm) {cQ : ClassId} {n : Int32} {N c2 s2 index : Nat} (hty : tys[2]? = some (cQ, .object "HookTrays$Tray")) (hn : ¬ n < 0) (hN : n.toNatClampNeg = N) (hbytes : N * 4 ≤ 536870912) (hc2 : cells + 1 = c2) (hs2 : slots + N = s2) (hce : c2 ≤ rm.cells) (hse : s2 ≤ rm.slots) (hw : Cond.classLink own index "HookTrays$Tray" ∈ wsL_law) (d : decode cc pc = .ok (.anewarray index, 3)) (k : ∀ q : Nat, UU l D X nL (ws ++ [(q, .inl (cQ, N, .inr (.inr (.inr (.inr (fun _ => none))))))]) c2 s2 (pc + 3) lv (.ref q :: st)) : UU l D X nL ws cells slots pc lv (.int n :: st) := by
  subst hc2; subst hs2
  obtain ⟨p, e, R, s, m, args, below, meth, c, A, Q, z1, z2⟩ := X
  obtain ⟨hx, hb, hml, hown, hts, rfl, hKU, hA⟩ := h
  exact fun H locs ls hP hD hS hl => va_newq hx hb hown (hts _ hw) hKU.2.2 hKU.1.1 hP hD hS hA hn hN hbytes hce hse d (fun q cA H1 hK1 hP1 hD1 hS1 => by
    obtain ⟨k1, o1, -, -, -, h1⟩ := (hK1.2 tys.length (cA, .object "HookTrays$Tray") (by simp)).2
    obtain ⟨k2, o2, -, -, -, h2⟩ := (hKU.1.1.2 2 _ hty).2
    have e : cA = cQ := Option.some.inj (h1.symm.trans h2)
    subst e
    exact k q H1 locs ls hP1 hD1 hS1 hl)
theorem u_aast {l : Launch} {D : va_G} {tys : List (ClassId × FieldType)} {X : Cx} {nL : Nat} {ws : va_W} {cells slots pc : Nat} {lv : List (Nat × Value)} {st : List Value} {cc : ByteArray} {own : String} {rm : Room} (h : HU D tys X cc nL own rm) {cQ : ClassId} {r : vw_C} {n v a t0 ci : Nat} {vs : List Value} {f : Nat → Option Nat} {i : Int32} {ws' : va_W} (q0 qk : Nat) (ha : ws[q0]? = some (a, .inl (cQ, n, .inr (.inr (.inr (.inr f)))))) (ht : tys[t0]? = some (cQ, .object r.1)) (hv : ws[qk]? = some (v, .inr (ci, vs))) (hc : vwCl[ci]? = some r) (hi : inb i n = true) (hws : ws.set q0 (a, .inl (cQ, n, .inr (.inr (.inr (.inr (va_up f i.toNatClampNeg (some v))))))) = ws') (d : decode cc pc = .ok (.aastore, 1)) (k : UU l D X nL ws' cells slots (pc + 1) lv st) : UU l D X nL ws cells slots pc lv (.ref v :: .int i :: .ref a :: st) := by
  subst hws
  obtain ⟨p, e, R, s, m, args, below, meth, c, A, Q, z1, z2⟩ := X
  obtain ⟨hx, hb, hml, hown, hts, rfl, hKU, hA⟩ := h
  exact fun H locs ls hP hD hS hl => va_astq hx hb hKU.1.1 hP hD hS q0 t0 qk ci ha ht hv hc (inb_in hi) d (fun H1 locs1 hP1 hD1 hS1 => k H1 locs1 ls hP1 hD1 hS1 hl)
theorem run_new {p : Program} {l : Launch} {e : Env} {R : Room} {s : State} {m : MethodId} {args : Array Value} {below : List Frame} {meth : Method} {c : Code} {H : Heap} {locs : List Loc} {cells slots mc ms : Nat} {Q : State → Prop} {D : va_G} {A : Nat → Prop} {w0 : va_W} {w1 : (Nat → Nat) → va_W} {a : Array Value} {pc : Nat} {ls : Array Slot} {st0 rest : List Value}
    (hr : va_Run p l e R s m args below meth c H locs cells slots mc ms (F0 m pc ls st0) rest (QN D w0 H.size w1 a) (va_A w0 H.size)) (hS : va_S A s.heap H locs) (hF : ∀ q, va_A w0 H.size q → A q)
    (kk : ∀ (u : Nat → Nat) (H1 : Heap) (locs1 : List Loc), va_P D vwCl (w1 u) H1 → va_D (va_A w0 H.size) (w1 u) → (∀ q : Nat, q < H.size → ¬ va_A w0 H.size q → H1[q]? = H[q]?) → va_S A s.heap H1 locs1 → W p l e R s m args below meth c H1 locs1 (cells + mc) (slots + ms) Q (F0 m (pc + 3) ls rest)) : W p l e R s m args below meth c H locs cells slots Q (F0 m pc ls st0) := by
  intro T hT X
  obtain ⟨v, st₀, t, T', L, h0, X', hL, e1, e2, ⟨hv, ⟨u, hP, hD⟩, hz, hk⟩, st⟩ := hr T hT X
  cases hv
  rw [h0] at hz hk
  obtain ⟨t2, a1, b1⟩ := kk u T'.heap (locs ++ L) (by rw [e1]; exact hP) hD (fun q h1 h2 => by rw [e1]; exact hk q h1 h2)
    ⟨Nat.le_trans hS.1 (by rw [e1]; exact hz), fun q h1 h2 => by rw [e1, hk q (Nat.lt_of_lt_of_le h1 hS.1) (fun z => h2 (hF q z))]; exact hS.2.1 q h1 h2, fun q hq => (List.mem_append.mp hq).elim (fun h => hS.2.2 q h) (fun h => hF _ (hL q h))⟩ T' rfl X'
  exact ⟨t2, st t2 a1, b1⟩
def rmOkN (rm' rm : Room) (nl c1 s1 c2 s2 : Nat) : Prop := rm'.frames + 1 ≤ rm.frames ∧ 8 + (nl + 11) + rm'.locals ≤ rm.locals ∧ c1 + rm'.cells = c2 ∧ s1 + rm'.slots = s2 ∧ c2 ≤ rm.cells ∧ s2 ≤ rm.slots
theorem pre_free {A : Nat → Prop} {pre : va_W} {a : Nat} {e0 : va_E} {H0 H : Heap} {locs : List Loc} (hD : va_D A (pre ++ [(a, e0)])) (hS : va_S A H0 H locs) (hA : ∀ q : Nat, H0.size ≤ q → A q) : ∀ q, va_A [(a, e0)] H.size q → A q := fun q z => by
  rcases z with ⟨i, e, hi⟩ | z
  · match i, hi with
    | 0, hi =>
      have h1 : (pre ++ [(a, e0)])[pre.length]? = some (a, e0) := by simp
      have h9 : A a := hD.2 pre.length (a, e0) h1
      have e1 : a = q := congrArg Prod.fst (Option.some.inj hi)
      rw [← e1]
      exact h9
    | i + 1, hi => simp at hi
  · exact hA q (Nat.le_trans hS.1 z)
theorem last_P {D : va_G} {pre : va_W} {x : Nat × va_E} {H : Heap} (hP : va_P D vwCl (pre ++ [x]) H) : va_P D vwCl [x] H := fun k q hq => by
  match k, hq with
  | 0, hq => exact hP pre.length q (by simp; exact Option.some.inj hq)
  | k + 1, hq => simp at hq
theorem last_D {A : Nat → Prop} {x : Nat × va_E} : A x.1 → va_D A [x] := fun h => ⟨fun i j p q hi hj _ => by
  match i, j, hi, hj with
  | 0, 0, _, _ => rfl
  | 0, j + 1, _, hj => simp at hj
  | i + 1, _, hi, _ => simp at hi, fun k q hk => by
  match k, hk with
  | 0, hk => cases hk; exact h
  | k + 1, hk => simp at hk⟩
theorem u_call {l : Launch} {D : va_G} {tys : List (ClassId × FieldType)} {X : Cx} {nL : Nat} {ws : va_W} {cells slots pc : Nat} {lv : List (Nat × Value)} {st : List Value} {cc : ByteArray} {own : String} {rm : Room} (h : HU D tys X cc nL own rm) {y : MethodName} {b : ByteArray} {nl index a c2 s2 : Nat} {rm' : Room} {e0 : va_E} {w1 : (Nat → Nat) → va_W} {pre : va_W} (hM : CN l D tys y (.code y b nl none :: wsL_law) rm' a e0 w1) (hyn : y.name = "<init>") (h1 : Cond.methodLink own index y ∈ wsL_law) (h2 : Cond.instanceMethod y ∈ wsL_law) (h3 : Cond.initialized y.cls ∈ wsL_law) (h4 : Cond.code y b nl none ∈ wsL_law) (hd : y.cls ≠ "java/lang/invoke/MethodHandle" ∧ y.cls ≠ "java/lang/invoke/VarHandle" ∧ (parseMethodDescriptor y.desc).map (fun d => d.parameters.length) = some 0) (hrm : rmOkN rm' rm nl cells slots c2 s2) (hws : ws = pre ++ [(a, e0)]) (hw : (st.map fun v => v.category).sum ≤ 8) (d : decode cc pc = .ok (.invokespecial index, 3)) (k : ∀ u : Nat → Nat, UU l D X nL (pre ++ w1 u) c2 s2 (pc + 3) lv st) : UU l D X nL ws cells slots pc lv (.ref a :: st) := by
  subst hws
  obtain ⟨p, e, R, s, m, args, below, meth, c, A, Q, z1, z2⟩ := X
  obtain ⟨hx, hb, hml, hown, hts, rfl, hKU, hA⟩ := h
  obtain ⟨g1, g2, rfl, rfl, g5, g6⟩ := id hrm
  intro H locs ls hP hD hS hl
  have hF := pre_free hD hS hA
  refine run_new (va_runI (As := []) (rest := st) ⟨hx, hb, hml, hown, hts⟩ (hM H.size) ⟨callB_of 0 hts (gi_C h4) rfl rfl rfl (hts _ h3) (hts _ h1) hd ⟨hrm.1, hrm.2.1⟩, hyn, hts _ h2⟩ ⟨PN.blind, fun U hU hW => ⟨rfl, by rw [hU], by rw [hU]; exact last_P hP, hKU.warm hW, last_D trivial⟩⟩ rfl rfl hl.1 rfl (lv_room hw) d ⟨g5, g6⟩) hS hF (fun u H1 locs1 hP1 hD1 hk1 hS1 => ?_)
  obtain ⟨hP2, hD2⟩ := pre_join hP hD hk1 hF hP1 hD1
  exact k u H1 locs1 ls hP2 hD2 hS1 hl
theorem u_callN {l : Launch} {D : va_G} {tys : List (ClassId × FieldType)} {X : Cx} {nL : Nat} {ws : va_W} {cells slots pc : Nat} {lv : List (Nat × Value)} {st : List Value} {cc : ByteArray} {own : String} {rm : Room} (h : HU D tys X cc nL own rm) {y : MethodName} {b : ByteArray} {nl index a c2 s2 : Nat} {rm' : Room} {e0 : va_E} {w1 : (Nat → Nat) → va_W} {pre : va_W} (hM : CN l D tys y (.code y b nl none :: wsL_law) rm' a e0 w1) (hyn : y.name = "<init>") {host : String} (h1 : Cond.methodLinkNest own index y host ∈ tb_nest) (h2 : Cond.instanceMethod y ∈ wsL_law) (h3 : Cond.initialized y.cls ∈ wsL_law) (h4 : Cond.code y b nl none ∈ wsL_law) (hd : y.cls ≠ "java/lang/invoke/MethodHandle" ∧ y.cls ≠ "java/lang/invoke/VarHandle" ∧ (parseMethodDescriptor y.desc).map (fun d => d.parameters.length) = some 0) (hrm : rmOkN rm' rm nl cells slots c2 s2) (hws : ws = pre ++ [(a, e0)]) (hw : (st.map fun v => v.category).sum ≤ 8) (d : decode cc pc = .ok (.invokespecial index, 3)) (k : ∀ u : Nat → Nat, UU l D X nL (pre ++ w1 u) c2 s2 (pc + 3) lv st) : UU l D X nL ws cells slots pc lv (.ref a :: st) := by
  subst hws
  obtain ⟨p, e, R, s, m, args, below, meth, c, A, Q, z1, z2⟩ := X
  obtain ⟨hx, hb, hml, hown, hts, rfl, hKU, hA⟩ := h
  obtain ⟨g1, g2, rfl, rfl, g5, g6⟩ := id hrm
  intro H locs ls hP hD hS hl
  have hF := pre_free hD hS hA
  refine run_new (va_runIN (As := []) (rest := st) ⟨hx, hb, hml, hown, hts⟩ (hM H.size) ⟨va_cnB 0 hts (gi_C h4) rfl rfl rfl (hKU.1.2 _ h1) (hts _ h3) hd ⟨hrm.1, hrm.2.1⟩, hyn, hts _ h2⟩ ⟨PN.blind, fun U hU hW => ⟨rfl, by rw [hU], by rw [hU]; exact last_P hP, hKU.warm hW, last_D trivial⟩⟩ rfl rfl hl.1 rfl (lv_room hw) d ⟨g5, g6⟩) hS hF (fun u H1 locs1 hP1 hD1 hk1 hS1 => ?_)
  obtain ⟨hP2, hD2⟩ := pre_join hP hD hk1 hF hP1 hD1
  exact k u H1 locs1 ls hP2 hD2 hS1 hl
theorem u_ret {l : Launch} {D : va_G} {tys : List (ClassId × FieldType)} {X : Cx} {nL : Nat} {ws : va_W} {cells slots pc : Nat} {lv : List (Nat × Value)} {cc : ByteArray} {own : String} {rm : Room} (h : HU D tys X cc nL own rm) (hi : HI X) {h0 : Nat} {e0 : va_E} {w1 : (Nat → Nat) → va_W} (hN : HN D X h0 e0 w1 cells slots) (u : Nat → Nat) (hws : ws = w1 u) (d : decode cc pc = .ok (.return_, 1)) : UU l D X nL ws cells slots pc lv [] := by
  subst hws
  obtain ⟨p, e, R, s, m, args, below, meth, c, A, Q, z1, z2⟩ := X
  obtain ⟨hx, hb, hml, hown, hts, rfl, hKU, hA⟩ := h
  obtain ⟨hnm, hr, hlk⟩ := hi
  obtain ⟨rfl, rfl⟩ := hN
  exact fun H locs ls hP hD hS hl => W.vret hx hb hr (fun t ht hW => ⟨rfl, ⟨u, by rw [ht]; exact hP, hD⟩, hS.F ht⟩) hS.2.2 d hlk
