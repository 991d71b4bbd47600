/-! the environment that every method of the class may need: links into the nest, the one static row -/
def ev_f : List (String × Nat × String × String × String) := [("OptionLattice", 66, "OptionLattice$Signs", "size", "I"), ("OptionLattice", 80, "OptionLattice$Signs", "at", "I"), ("OptionLattice", 158, "OptionLattice$Plan", "columnCount", "I"), ("OptionLattice", 164, "OptionLattice$Plan", "roomCount", "I"), ("OptionLattice$Seating", 49, "OptionLattice$Plan", "size", "I"), ("OptionLattice", 79, "OptionLattice$Plan", "size", "I"), ("OptionLattice", 149, "OptionLattice$Plan", "barsOf", "[I"), ("OptionLattice$Seating", 73, "OptionLattice$Plan", "subjectOf", "[I"), ("OptionLattice", 174, "OptionLattice$Plan", "subjectOf", "[I"), ("OptionLattice", 177, "OptionLattice$Plan", "teacherOf", "[I"), ("OptionLattice$Seating", 52, "OptionLattice$Plan", "seatsOf", "[I"), ("OptionLattice", 116, "OptionLattice$Plan", "seatsOf", "[I"), ("OptionLattice$Seating", 76, "OptionLattice$Plan", "columnOf", "[I"), ("OptionLattice", 122, "OptionLattice$Plan", "columnOf", "[I"), ("OptionLattice$Seating", 55, "OptionLattice$Plan", "columnsWith", "[I"), ("OptionLattice", 192, "OptionLattice$Plan", "columnsWith", "[I"), ("OptionLattice$Seating", 38, "OptionLattice$Roll", "choicesOf", "[I"), ("OptionLattice", 168, "OptionLattice$Roll", "choicesOf", "[I"), ("OptionLattice$Seating", 32, "OptionLattice$Roll", "size", "I"), ("OptionLattice", 92, "OptionLattice$Roll", "size", "I"), ("OptionLattice", 171, "OptionLattice$Roll", "kept", "I"), ("OptionLattice$Seating", 62, "OptionLattice$Ways", "first", "[I"), ("OptionLattice", 289, "OptionLattice$Ways", "first", "[I"), ("OptionLattice", 262, "OptionLattice$Seating", "left", "[I"), ("OptionLattice", 265, "OptionLattice$Seating", "sitting", "[I")]
def ev_m : List (String × Nat × MethodName) := [("OptionLattice", 9, ⟨"OptionLattice$Signs", "<init>", "()V"⟩), ("OptionLattice", 18, ⟨"OptionLattice$Plan", "<init>", "()V"⟩), ("OptionLattice", 28, ⟨"OptionLattice$Roll", "<init>", "()V"⟩), ("OptionLattice", 38, ⟨"OptionLattice$Ways", "<init>", "()V"⟩), ("OptionLattice", 45, ⟨"OptionLattice$Seating", "<init>", "()V"⟩), ("OptionLattice$Seating", 23, ⟨"OptionLattice$Ways", "<init>", "()V"⟩), ("OptionLattice$Plan", 95, ⟨"OptionLattice", "digitsAbove", "(I)I"⟩), ("OptionLattice$Signs", 22, ⟨"OptionLattice", "hasBit", "(II)Z"⟩), ("OptionLattice$Plan", 58, ⟨"OptionLattice", "hasBit", "(II)Z"⟩), ("OptionLattice$Roll", 49, ⟨"OptionLattice", "digitsAbove", "(I)I"⟩), ("OptionLattice$Ways", 24, ⟨"OptionLattice", "hasBit", "(II)Z"⟩), ("OptionLattice$Seating", 58, ⟨"OptionLattice", "hasBit", "(II)Z"⟩)]
def ev_sw : Nat → Int64 := fun j => match j with
  | 0 => 0x5555555555555555
  | 1 => 0x3333333333333333
  | 2 => 0x0F0F0F0F0F0F0F0F
  | 3 => 0x00FF00FF00FF00FF
  | 4 => 0x0000FFFF0000FFFF
  | _ => 0x00000000FFFFFFFF
def EV (A : Nat → Prop) (U : State) : Prop :=
  (∀ q ∈ ev_f, va_Nw (.fieldLinkNest q.1 q.2.1 q.2.2.1 q.2.2.2.1 q.2.2.2.2 "OptionLattice") U) ∧
  (∀ q ∈ ev_m, va_Nw (.methodLinkNest q.1 q.2.1 q.2.2 "OptionLattice") U) ∧
  ∃ t : Nat, va_Z "OptionLattice$Ways" "SETS_WITHOUT" "[J" (.ref t) A U U.heap ∧ va_T .long t 6 (fun j => .long (ev_sw j)) A U U.heap
theorem EV.call {A B : Nat → Prop} {s U : State} {H : Heap} {locs : List Loc} (h : EV A s) (hS : va_S A s.heap H locs) (hU : U.heap = H) (hW : s.WarmedH U.vm) (hAB : ∀ q, B q → A q) : EV B U := by
  obtain ⟨h1, h2, t, hz, ht⟩ := h
  refine ⟨fun q hq => va_Nw.warmF hW (h1 q hq), fun q hq => va_Nw.warmM hW (h2 q hq), t, ?_, ?_⟩
  · rw [hU]; exact (va_Z.moved hW.alike (hz.kept hS.2.1)).narrow hAB
  · rw [hU]; exact (va_T.moved hW.alike (ht.kept hS.2.1)).narrow hAB
theorem EV.calling {A : Nat → Prop} {U : State} {g : JFrame} {mk : MethodId} {a : Array Value} (h : EV A U) : EV A (U.calling g mk a) := by
  obtain ⟨h1, h2, t, hz, ht⟩ := h
  exact ⟨fun q hq => va_Nw.same rfl rfl (h1 q hq), fun q hq => va_Nw.same rfl rfl (h2 q hq), t, va_Z.moved (u := U) (U := U.calling g mk a) (Vm.Alike.refl U.vm) hz, va_T.moved (u := U) (U := U.calling g mk a) (Vm.Alike.refl U.vm) ht⟩
/-! worlds: the callee's cells put back into the caller's -/
def putAt (w : va_W) : List Nat → va_W → va_W
  | i :: is, x :: xs => (putAt w is xs).set i x
  | _, _ => w
theorem putAt_get {w : va_W} : ∀ (is : List Nat) (xs : va_W) (k : Nat) (q : Nat × va_E), is.length = xs.length → (putAt w is xs)[k]? = some q → (∃ j : Nat, is[j]? = some k ∧ xs[j]? = some q) ∨ (k ∉ is ∧ w[k]? = some q)
  | [], [], k, q, _, h => Or.inr ⟨List.not_mem_nil, h⟩
  | [], _ :: _, _, _, hl, _ => by simp at hl
  | _ :: _, [], _, _, hl, _ => by simp at hl
  | i :: is, x :: xs, k, q, hl, h => by
    simp only [putAt] at h
    by_cases hk : i = k
    · subst hk
      rw [List.getElem?_set] at h
      simp only [if_true] at h
      split at h
      · cases h
        exact Or.inl ⟨0, rfl, rfl⟩
      · cases h
    · rw [List.getElem?_set_ne hk] at h
      rcases putAt_get is xs k q (by simpa using hl) h with ⟨j, h1, h2⟩ | ⟨h1, h2⟩
      · exact Or.inl ⟨j + 1, h1, h2⟩
      · exact Or.inr ⟨fun z => (List.mem_cons.mp z).elim (fun z => hk z.symm) h1, h2⟩
theorem uAt {is : List Nat} {w ws : va_W} (hs : is.map (fun i => ws[i]?) = w.map some) (k : Nat) (q : Nat × va_E) (hq : w[k]? = some q) : ∃ i, is[k]? = some i ∧ ws[i]? = some q := by
  have h1 : (is.map (fun i => ws[i]?))[k]? = some (some q) := by rw [hs, List.getElem?_map, hq]; rfl
  rw [List.getElem?_map] at h1
  cases hi : is[k]? with
  | none => rw [hi] at h1; cases h1
  | some i => rw [hi] at h1; exact ⟨i, rfl, Option.some.inj h1⟩
theorem uSub {is : List Nat} {w ws : va_W} (hs : is.map (fun i => ws[i]?) = w.map some) : is.filterMap (fun i => ws[i]?) = w := by
  have h : is.filterMap (fun i => ws[i]?) = (is.map (fun i => ws[i]?)).filterMap id := by rw [List.filterMap_map]; rfl
  rw [h, hs, List.filterMap_map]
  induction w with
  | nil => rfl
  | cons a w ih => simp
theorem uJoin {A : Nat → Prop} {D : va_G} {cl : List vw_C} {w wc w1 : va_W} {H H1 : Heap} {isC : List Nat} (hP : va_P D cl w H) (hD : va_D A w) (hC : isC.map (fun i => w[i]?) = wc.map some) (hf : w1.map Prod.fst = wc.map Prod.fst)
    (hk : ∀ q : Nat, q < H.size → ¬ va_A wc H.size q → H1[q]? = H[q]?) (hP1 : va_P D cl w1 H1) : va_P D cl (putAt w isC w1) H1 ∧ va_D A (putAt w isC w1) := by
  have hlen : isC.length = w1.length := by
    have a := congrArg List.length hC
    have b := congrArg List.length hf
    simp only [List.length_map] at a b
    omega
  have back : ∀ (k : Nat) (q : Nat × va_E), (putAt w isC w1)[k]? = some q → ∃ q0 : Nat × va_E, w[k]? = some q0 ∧ q0.1 = q.1 := by
    intro k q h
    rcases putAt_get isC w1 k q hlen h with ⟨j, h1, h2⟩ | ⟨-, h2⟩
    · have e1 : (w1.map Prod.fst)[j]? = some q.1 := by rw [List.getElem?_map, h2]; rfl
      rw [hf, List.getElem?_map] at e1
      cases hj : wc[j]? with
      | none => rw [hj] at e1; cases e1
      | some q0 =>
        rw [hj] at e1
        obtain ⟨i, hi, hw⟩ := uAt hC j q0 hj
        rw [h1] at hi
        cases hi
        exact ⟨q0, hw, Option.some.inj e1⟩
    · exact ⟨q, h2, rfl⟩
  refine ⟨fun k q h => ?_, fun i j x y hx hy hxy => ?_, fun k q h => ?_⟩
  · rcases putAt_get isC w1 k q hlen h with ⟨j, -, h2⟩ | ⟨h1, h2⟩
    · exact hP1 j q h2
    · refine (hP k q h2).kept (hk q.1 (hP k q h2).lt (fun z => ?_))
      rcases z with ⟨j, e, hj⟩ | z
      · obtain ⟨i, hi, hw⟩ := uAt hC j (q.1, e) hj
        have := hD.1 i k (q.1, e) q hw h2 rfl
        subst this
        exact h1 (List.mem_of_getElem? hi)
      · exact absurd (hP k q h2).lt (by omega)
  · obtain ⟨x0, a1, b1⟩ := back i x hx
    obtain ⟨y0, a2, b2⟩ := back j y hy
    exact hD.1 i j x0 y0 a1 a2 (by rw [b1, b2, hxy])
  · obtain ⟨q0, a1, b1⟩ := back k q h
    rw [← b1]
    exact hD.2 k q0 a1
/-! contracts: from the cells w to the cells w1, with the answer r -/
def uP (D : va_G) (tys : List (ClassId × FieldType)) (as : List Value) (w : va_W) (sz : Nat) : Array Value → State → Prop :=
  va_Pc as (fun U => U.heap.size = sz ∧ va_P D vwCl w U.heap ∧ va_K D vwCl tys U ∧ va_D (fun _ => True) w ∧ EV (va_A w sz) U)
def uMi (l : Launch) (y : MethodName) (ws : List Cond) (rm : Room) (D : va_G) (tys : List (ClassId × FieldType)) (as : List Value) (w w1 : va_W) (r : Int32) : Prop :=
  ∀ sz : Nat, Met l y ws rm (uP D tys as w sz) (va_Qi (fun r' (_ : Unit) => r' = r) (fun _ t => va_P D vwCl w1 t.heap ∧ va_K D vwCl tys t) (va_A w sz)) 0 0 (va_A w sz)
def uMl (l : Launch) (y : MethodName) (ws : List Cond) (rm : Room) (D : va_G) (tys : List (ClassId × FieldType)) (as : List Value) (w w1 : va_W) (r : Int64) : Prop :=
  ∀ sz : Nat, Met l y ws rm (uP D tys as w sz) (va_Ql (fun r' (_ : Unit) => r' = r) (fun _ t => va_P D vwCl w1 t.heap ∧ va_K D vwCl tys t) (va_A w sz)) 0 0 (va_A w sz)
def uMv (l : Launch) (y : MethodName) (ws : List Cond) (rm : Room) (D : va_G) (tys : List (ClassId × FieldType)) (as : List Value) (w w1 : va_W) : Prop :=
  ∀ sz : Nat, Met l y ws rm (uP D tys as w sz) (va_Qv (fun (_ : Unit) => True) (fun _ t => va_P D vwCl w1 t.heap ∧ va_K D vwCl tys t) (va_A w sz)) 0 0 (va_A w sz)
theorem uP.blind {D : va_G} {tys : List (ClassId × FieldType)} {as : List Value} {w : va_W} {sz : Nat} : FrameBlind (uP D tys as w sz) := fun a U g mk q => by
  obtain ⟨q0, q1, qP, qK, qD, qE⟩ := q
  exact ⟨q0, q1, qP, va_K.moved (u := U) (U := U.calling g mk a) (Vm.Alike.refl U.vm) qK, qD, qE.calling⟩
theorem uP.here {D : va_G} {tys : List (ClassId × FieldType)} {as : List Value} {w wc : va_W} {A : Nat → Prop} {s : State} {H : Heap} {locs : List Loc} (hK : va_K D vwCl tys s) (hP : va_P D vwCl w H) (hD : va_D A w) (hS : va_S A s.heap H locs) (hA : ∀ q, s.heap.size ≤ q → A q) (hE : EV A s) (isC : List Nat) (hnd : va_nd isC = true) (hC : isC.map (fun i => w[i]?) = wc.map some) :
    ∀ U : State, U.heap = H → s.WarmedH U.vm → uP D tys as wc H.size as.toArray U := fun U hU hW =>
  ⟨rfl, by rw [hU], by rw [hU]; exact hP.sub isC (uSub hC), va_K.moved hW.alike hK, (hD.sub isC hnd hC).weaken (fun _ _ _ _ => trivial), hE.call hS hU hW (va_free hD hS hA isC hC)⟩
section UM
variable {l : Launch} {y : MethodName} {ws ws' : List Cond} {rm : Room} {D : va_G} {tys : List (ClassId × FieldType)} {as : List Value} {w w1 : va_W} {cc : ByteArray} {maxL : Nat}
theorem uMi.of {rt : FieldType} {r : Int32} (hy : plainName y.cls = true) (hw : ws = Cond.code y cc maxL (some rt) :: ws') (hn : (lg_sl as).length ≤ maxL)
    (body : ∀ (p : Program) (e : Env) (s : State) (m : MethodId) (args : Array Value) (below : List Frame) (meth : Method) (c : Code) (A : Nat → Prop) (ls : Array Slot) (Q : State → Prop),
      p.tables.exec = Jvm.exec → c.code = cc → c.maxLocals = maxL → s.vm.findClass y.cls = some m.cls → (∀ w ∈ ws, w.before args s = true) → (∀ q : Nat, s.heap.size ≤ q → A q) → va_P D vwCl w s.heap → va_K D vwCl tys s → va_D A w → EV A s → va_S A s.heap s.heap [] → lv_has ls maxL (lv_args 0 as) →
      (∀ (H : Heap) (locs : List Loc) (pc : Nat) (ls' : Array Slot), va_P D vwCl w1 H → va_S A s.heap H locs → narrow rt (.int r) = .int r → decode cc pc = .ok (.ireturn, 1) → W p l e rm s m args below meth c H locs 0 0 Q (F0 m pc ls' [.int r])) →
      W p l e rm s m args below meth c s.heap [] 0 0 Q (F0 m 0 ls [])) : uMi l y ws rm D tys as w w1 r := by
  intro sz
  refine Met.ofW (cc := cc) (maxL := maxL) (ret := some rt) hy hw ?_
  intro p e s m args below meth c s₁ B hml hv
  obtain ⟨rfl, hsz, hP, hK, hD0, hE⟩ := hv
  subst hsz
  have hD := hD0.self (sz := s.heap.size)
  have hx := B.exec
  have hb := B.bytes
  have hr := B.returns
  have hts := atoms_spec (ws := ws) B.pre
  have hown : s.vm.findClass y.cls = some m.cls := findClass_of_methodNamed B.named
  have hlocks := B.notSynchronized
  have hl := lv_entry as (n := maxL) hn
  rw [lg_entry_eq]
  refine body p e s m _ below meth c (va_A w s.heap.size) _ _ hx hb hml hown hts (fun q h => Or.inr h) hP hK hD hE va_S.rf hl ?_
  intro H locs pc ls' hP1 hS hnr hdg
  exact W.zret (v := r) hx hb hr hnr (fun t ht hW => ⟨⟨r, (), rfl, rfl, by rw [ht]; exact hP1, va_K.moved hW.alike hK⟩, hS.F ht⟩) hS.2.2 hdg
theorem uMl.of {r : Int64} (hy : plainName y.cls = true) (hw : ws = Cond.code y cc maxL (some .long) :: ws') (hn : (lg_sl as).length ≤ maxL)
    (body : ∀ (p : Program) (e : Env) (s : State) (m : MethodId) (args : Array Value) (below : List Frame) (meth : Method) (c : Code) (A : Nat → Prop) (ls : Array Slot) (Q : State → Prop),
      p.tables.exec = Jvm.exec → c.code = cc → c.maxLocals = maxL → s.vm.findClass y.cls = some m.cls → (∀ w ∈ ws, w.before args s = true) → (∀ q : Nat, s.heap.size ≤ q → A q) → va_P D vwCl w s.heap → va_K D vwCl tys s → va_D A w → EV A s → va_S A s.heap s.heap [] → lv_has ls maxL (lv_args 0 as) →
      (∀ (H : Heap) (locs : List Loc) (pc : Nat) (ls' : Array Slot), va_P D vwCl w1 H → va_S A s.heap H locs → decode cc pc = .ok (.lreturn, 1) → W p l e rm s m args below meth c H locs 0 0 Q (F0 m pc ls' [.long r])) →
      W p l e rm s m args below meth c s.heap [] 0 0 Q (F0 m 0 ls [])) : uMl l y ws rm D tys as w w1 r := by
  intro sz
  refine Met.ofW (cc := cc) (maxL := maxL) (ret := some .long) hy hw ?_
  intro p e s m args below meth c s₁ B hml hv
  obtain ⟨rfl, hsz, hP, hK, hD0, hE⟩ := hv
  subst hsz
  have hD := hD0.self (sz := s.heap.size)
  have hx := B.exec
  have hb := B.bytes
  have hr := B.returns
  have hts := atoms_spec (ws := ws) B.pre
  have hown : s.vm.findClass y.cls = some m.cls := findClass_of_methodNamed B.named
  have hlocks := B.notSynchronized
  have hl := lv_entry as (n := maxL) hn
  rw [lg_entry_eq]
  refine body p e s m _ below meth c (va_A w s.heap.size) _ _ hx hb hml hown hts (fun q h => Or.inr h) hP hK hD hE va_S.rf hl ?_
  intro H locs pc ls' hP1 hS hdg
  exact W.lret (v := r) hx hb hr (fun t ht hW => ⟨⟨r, (), rfl, rfl, by rw [ht]; exact hP1, va_K.moved hW.alike hK⟩, hS.F ht⟩) hS.2.2 hdg
theorem uMv.of (hy : plainName y.cls = true) (hw : ws = Cond.code y cc maxL none :: ws') (hn : (lg_sl as).length ≤ maxL)
    (body : ∀ (p : Program) (e : Env) (s : State) (m : MethodId) (args : Array Value) (below : List Frame) (meth : Method) (c : Code) (A : Nat → Prop) (ls : Array Slot) (Q : State → Prop),
      p.tables.exec = Jvm.exec → c.code = cc → c.maxLocals = maxL → s.vm.findClass y.cls = some m.cls → (∀ w ∈ ws, w.before args s = true) → (∀ q : Nat, s.heap.size ≤ q → A q) → va_P D vwCl w s.heap → va_K D vwCl tys s → va_D A w → EV A s → va_S A s.heap s.heap [] → lv_has ls maxL (lv_args 0 as) →
      (∀ (H : Heap) (locs : List Loc) (pc : Nat) (ls' : Array Slot), va_P D vwCl w1 H → va_S A s.heap H locs → decode cc pc = .ok (.return_, 1) → W p l e rm s m args below meth c H locs 0 0 Q (F0 m pc ls' [])) →
      W p l e rm s m args below meth c s.heap [] 0 0 Q (F0 m 0 ls [])) : uMv l y ws rm D tys as w w1 := by
  intro sz
  refine Met.ofW (cc := cc) (maxL := maxL) (ret := none) hy hw ?_
  intro p e s m args below meth c s₁ B hml hv
  obtain ⟨rfl, hsz, hP, hK, hD0, hE⟩ := hv
  subst hsz
  have hD := hD0.self (sz := s.heap.size)
  have hx := B.exec
  have hb := B.bytes
  have hr := B.returns
  have hts := atoms_spec (ws := ws) B.pre
  have hown : s.vm.findClass y.cls = some m.cls := findClass_of_methodNamed B.named
  have hlocks := B.notSynchronized
  have hl := lv_entry as (n := maxL) hn
  rw [lg_entry_eq]
  refine body p e s m _ below meth c (va_A w s.heap.size) _ _ hx hb hml hown hts (fun q h => Or.inr h) hP hK hD hE va_S.rf hl ?_
  intro H locs pc ls' hP1 hS hdg
  exact W.vret hx hb hr (fun t ht hW => ⟨⟨(), rfl, trivial, by rw [ht]; exact hP1, va_K.moved hW.alike hK⟩, hS.F ht⟩) hS.2.2 hdg
end UM
/-! calls -/
section UC
variable {p : Program} {l : Launch} {e : Env} {R : Room} {s : State} {m : MethodId} {args : Array Value} {below : List Frame} {meth : Method} {c : Code} {H : Heap} {locs : List Loc} {cells slots : Nat} {Q : State → Prop}
variable {y : MethodName} {bytes cc : ByteArray} {maxL nL n index pc : Nat} {ret : Option FieldType} {ws Ts : List Cond} {rm : Room} {own C : String} {b : Addr} {As rest st0 : List Value} {ls : Array Slot} {D : va_G} {tys : List (ClassId × FieldType)} {w wc w1 : va_W} {A : Nat → Prop}
theorem uk_i {a : Array Value} {r : Int32} (hr : va_Run p l e R s m args below meth c H locs cells slots 0 0 (F0 m pc ls st0) rest (va_Qi (fun r' (_ : Unit) => r' = r) (fun _ t => va_P D vwCl w1 t.heap ∧ va_K D vwCl tys t) (va_A wc H.size) a) (va_A wc H.size))
    (hP : va_P D vwCl w H) (hD : va_D A w) (hS : va_S A s.heap H locs) (hA : ∀ q, s.heap.size ≤ q → A q) (isC : List Nat) (hC : isC.map (fun i => w[i]?) = wc.map some) (hf : w1.map Prod.fst = wc.map Prod.fst)
    (kk : ∀ (H1 : Heap) (locs1 : List Loc), va_P D vwCl (putAt w isC w1) H1 → va_D A (putAt w isC w1) → va_S A s.heap H1 locs1 → W p l e R s m args below meth c H1 locs1 cells slots Q (F0 m (pc + 3) ls (.int r :: rest))) : W p l e R s m args below meth c H locs cells slots Q (F0 m pc ls st0) := by
  have hFc := va_free (wc := wc) hD hS hA isC hC
  refine va_calli hr hS (fun q _ h => hFc q h) hFc (fun r' u t H1 locs1 ht hvm hw hB hz1 hk1 hS1 => ?_)
  obtain ⟨hP1, -⟩ := hB
  rw [ht] at hP1
  obtain ⟨hP', hD'⟩ := uJoin hP hD hC hf hk1 hP1
  have hw : r' = r := hw
  subst hw
  exact kk H1 locs1 hP' hD' hS1
theorem uk_l {a : Array Value} {r : Int64} (hr : va_Run p l e R s m args below meth c H locs cells slots 0 0 (F0 m pc ls st0) rest (va_Ql (fun r' (_ : Unit) => r' = r) (fun _ t => va_P D vwCl w1 t.heap ∧ va_K D vwCl tys t) (va_A wc H.size) a) (va_A wc H.size))
    (hP : va_P D vwCl w H) (hD : va_D A w) (hS : va_S A s.heap H locs) (hA : ∀ q, s.heap.size ≤ q → A q) (isC : List Nat) (hC : isC.map (fun i => w[i]?) = wc.map some) (hf : w1.map Prod.fst = wc.map Prod.fst)
    (kk : ∀ (H1 : Heap) (locs1 : List Loc), va_P D vwCl (putAt w isC w1) H1 → va_D A (putAt w isC w1) → va_S A s.heap H1 locs1 → W p l e R s m args below meth c H1 locs1 cells slots Q (F0 m (pc + 3) ls (.long r :: rest))) : W p l e R s m args below meth c H locs cells slots Q (F0 m pc ls st0) := by
  have hFc := va_free (wc := wc) hD hS hA isC hC
  refine va_calll hr hS (fun q _ h => hFc q h) hFc (fun r' u t H1 locs1 ht hvm hw hB hz1 hk1 hS1 => ?_)
  obtain ⟨hP1, -⟩ := hB
  rw [ht] at hP1
  obtain ⟨hP', hD'⟩ := uJoin hP hD hC hf hk1 hP1
  have hw : r' = r := hw
  subst hw
  exact kk H1 locs1 hP' hD' hS1
theorem uk_v {a : Array Value} (hr : va_Run p l e R s m args below meth c H locs cells slots 0 0 (F0 m pc ls st0) rest (va_Qv (fun (_ : Unit) => True) (fun _ t => va_P D vwCl w1 t.heap ∧ va_K D vwCl tys t) (va_A wc H.size) a) (va_A wc H.size))
    (hP : va_P D vwCl w H) (hD : va_D A w) (hS : va_S A s.heap H locs) (hA : ∀ q, s.heap.size ≤ q → A q) (isC : List Nat) (hC : isC.map (fun i => w[i]?) = wc.map some) (hf : w1.map Prod.fst = wc.map Prod.fst)
    (kk : ∀ (H1 : Heap) (locs1 : List Loc), va_P D vwCl (putAt w isC w1) H1 → va_D A (putAt w isC w1) → va_S A s.heap H1 locs1 → W p l e R s m args below meth c H1 locs1 cells slots Q (F0 m (pc + 3) ls rest)) : W p l e R s m args below meth c H locs cells slots Q (F0 m pc ls st0) := by
  have hFc := va_free (wc := wc) hD hS hA isC hC
  refine va_callv hr hS (fun q _ h => hFc q h) hFc (fun u t H1 locs1 ht hvm hw hB hz1 hk1 hS1 => ?_)
  obtain ⟨hP1, -⟩ := hB
  rw [ht] at hP1
  obtain ⟨hP', hD'⟩ := uJoin hP hD hC hf hk1 hP1
  exact kk H1 locs1 hP' hD' hS1
theorem uV_i {r : Int32} (S : CallFix p m c cc nL s args Ts own) (hM : uMi l y ws rm D tys (.ref b :: As) wc w1 r) (cw : CallW R s args own C index y bytes maxL ret ws rm 0 0 n)
    (hK : va_K D vwCl tys s) (hE : EV A s) (hA : ∀ q, s.heap.size ≤ q → A q) (hP : va_P D vwCl w H) (hD : va_D A w) (hS : va_S A s.heap H locs) (isC : List Nat) (hnd : va_nd isC = true) (hC : isC.map (fun i => w[i]?) = wc.map some) (hf : w1.map Prod.fst = wc.map Prod.fst)
    (ci q0 : Nat) {T : u_T} {N : Nat} {fs : List Value} (hc : vwCl[ci]? = some (C, T, N)) (he : wc[q0]? = some (b, .inr (ci, fs))) (hn : As.length = n) (hsz : ls.size = nL) (hstk : st0 = As.reverse ++ .ref b :: rest) (hst : (rest.map fun v => v.category).sum ≤ 8) (hrm : cells ≤ R.cells ∧ slots ≤ R.slots)
    (hdg : decode cc pc = .ok (.invokevirtual index, 3))
    (kk : ∀ (H1 : Heap) (locs1 : List Loc), va_P D vwCl (putAt w isC w1) H1 → va_D A (putAt w isC w1) → va_S A s.heap H1 locs1 → W p l e R s m args below meth c H1 locs1 cells slots Q (F0 m (pc + 3) ls (.int r :: rest))) : W p l e R s m args below meth c H locs cells slots Q (F0 m pc ls st0) :=
  uk_i (va_runV S (hM H.size) cw ⟨uP.blind, va_recv hK (hP.sub isC (uSub hC)) hc he, uP.here hK hP hD hS hA hE isC hnd hC⟩ rfl hn hsz hstk (lv_room hst) hdg hrm) hP hD hS hA isC hC hf kk
theorem uV_l {r : Int64} (S : CallFix p m c cc nL s args Ts own) (hM : uMl l y ws rm D tys (.ref b :: As) wc w1 r) (cw : CallW R s args own C index y bytes maxL ret ws rm 0 0 n)
    (hK : va_K D vwCl tys s) (hE : EV A s) (hA : ∀ q, s.heap.size ≤ q → A q) (hP : va_P D vwCl w H) (hD : va_D A w) (hS : va_S A s.heap H locs) (isC : List Nat) (hnd : va_nd isC = true) (hC : isC.map (fun i => w[i]?) = wc.map some) (hf : w1.map Prod.fst = wc.map Prod.fst)
    (ci q0 : Nat) {T : u_T} {N : Nat} {fs : List Value} (hc : vwCl[ci]? = some (C, T, N)) (he : wc[q0]? = some (b, .inr (ci, fs))) (hn : As.length = n) (hsz : ls.size = nL) (hstk : st0 = As.reverse ++ .ref b :: rest) (hst : (rest.map fun v => v.category).sum ≤ 8) (hrm : cells ≤ R.cells ∧ slots ≤ R.slots)
    (hdg : decode cc pc = .ok (.invokevirtual index, 3))
    (kk : ∀ (H1 : Heap) (locs1 : List Loc), va_P D vwCl (putAt w isC w1) H1 → va_D A (putAt w isC w1) → va_S A s.heap H1 locs1 → W p l e R s m args below meth c H1 locs1 cells slots Q (F0 m (pc + 3) ls (.long r :: rest))) : W p l e R s m args below meth c H locs cells slots Q (F0 m pc ls st0) :=
  uk_l (va_runV S (hM H.size) cw ⟨uP.blind, va_recv hK (hP.sub isC (uSub hC)) hc he, uP.here hK hP hD hS hA hE isC hnd hC⟩ rfl hn hsz hstk (lv_room hst) hdg hrm) hP hD hS hA isC hC hf kk
theorem uV_v (S : CallFix p m c cc nL s args Ts own) (hM : uMv l y ws rm D tys (.ref b :: As) wc w1) (cw : CallW R s args own C index y bytes maxL ret ws rm 0 0 n)
    (hK : va_K D vwCl tys s) (hE : EV A s) (hA : ∀ q, s.heap.size ≤ q → A q) (hP : va_P D vwCl w H) (hD : va_D A w) (hS : va_S A s.heap H locs) (isC : List Nat) (hnd : va_nd isC = true) (hC : isC.map (fun i => w[i]?) = wc.map some) (hf : w1.map Prod.fst = wc.map Prod.fst)
    (ci q0 : Nat) {T : u_T} {N : Nat} {fs : List Value} (hc : vwCl[ci]? = some (C, T, N)) (he : wc[q0]? = some (b, .inr (ci, fs))) (hn : As.length = n) (hsz : ls.size = nL) (hstk : st0 = As.reverse ++ .ref b :: rest) (hst : (rest.map fun v => v.category).sum ≤ 8) (hrm : cells ≤ R.cells ∧ slots ≤ R.slots)
    (hdg : decode cc pc = .ok (.invokevirtual index, 3))
    (kk : ∀ (H1 : Heap) (locs1 : List Loc), va_P D vwCl (putAt w isC w1) H1 → va_D A (putAt w isC w1) → va_S A s.heap H1 locs1 → W p l e R s m args below meth c H1 locs1 cells slots Q (F0 m (pc + 3) ls rest)) : W p l e R s m args below meth c H locs cells slots Q (F0 m pc ls st0) :=
  uk_v (va_runV S (hM H.size) cw ⟨uP.blind, va_recv hK (hP.sub isC (uSub hC)) hc he, uP.here hK hP hD hS hA hE isC hnd hC⟩ rfl hn hsz hstk (lv_room hst) hdg hrm) hP hD hS hA isC hC hf kk
theorem uS_i {r : Int32} (S : CallFix p m c cc nL s args Ts own) (hM : uMi l y ws rm D tys As wc w1 r) (cw : CallB R s args own index y bytes maxL ret ws rm 0 0 n ∧ (Cond.static y).before args s = true)
    (hK : va_K D vwCl tys s) (hE : EV A s) (hA : ∀ q, s.heap.size ≤ q → A q) (hP : va_P D vwCl w H) (hD : va_D A w) (hS : va_S A s.heap H locs) (isC : List Nat) (hnd : va_nd isC = true) (hC : isC.map (fun i => w[i]?) = wc.map some) (hf : w1.map Prod.fst = wc.map Prod.fst)
    (hn : As.length = n) (hsz : ls.size = nL) (hstk : st0 = As.reverse ++ rest) (hst : (rest.map fun v => v.category).sum ≤ 8) (hrm : cells ≤ R.cells ∧ slots ≤ R.slots)
    (hdg : decode cc pc = .ok (.invokestatic index, 3))
    (kk : ∀ (H1 : Heap) (locs1 : List Loc), va_P D vwCl (putAt w isC w1) H1 → va_D A (putAt w isC w1) → va_S A s.heap H1 locs1 → W p l e R s m args below meth c H1 locs1 cells slots Q (F0 m (pc + 3) ls (.int r :: rest))) : W p l e R s m args below meth c H locs cells slots Q (F0 m pc ls st0) :=
  uk_i (va_runS S (hM H.size) cw ⟨uP.blind, uP.here hK hP hD hS hA hE isC hnd hC⟩ rfl hn hsz hstk (lv_room hst) hdg hrm) hP hD hS hA isC hC hf kk
theorem uS_l {r : Int64} (S : CallFix p m c cc nL s args Ts own) (hM : uMl l y ws rm D tys As wc w1 r) (cw : CallB R s args own index y bytes maxL ret ws rm 0 0 n ∧ (Cond.static y).before args s = true)
    (hK : va_K D vwCl tys s) (hE : EV A s) (hA : ∀ q, s.heap.size ≤ q → A q) (hP : va_P D vwCl w H) (hD : va_D A w) (hS : va_S A s.heap H locs) (isC : List Nat) (hnd : va_nd isC = true) (hC : isC.map (fun i => w[i]?) = wc.map some) (hf : w1.map Prod.fst = wc.map Prod.fst)
    (hn : As.length = n) (hsz : ls.size = nL) (hstk : st0 = As.reverse ++ rest) (hst : (rest.map fun v => v.category).sum ≤ 8) (hrm : cells ≤ R.cells ∧ slots ≤ R.slots)
    (hdg : decode cc pc = .ok (.invokestatic index, 3))
    (kk : ∀ (H1 : Heap) (locs1 : List Loc), va_P D vwCl (putAt w isC w1) H1 → va_D A (putAt w isC w1) → va_S A s.heap H1 locs1 → W p l e R s m args below meth c H1 locs1 cells slots Q (F0 m (pc + 3) ls (.long r :: rest))) : W p l e R s m args below meth c H locs cells slots Q (F0 m pc ls st0) :=
  uk_l (va_runS S (hM H.size) cw ⟨uP.blind, uP.here hK hP hD hS hA hE isC hnd hC⟩ rfl hn hsz hstk (lv_room hst) hdg hrm) hP hD hS hA isC hC hf kk
theorem uN_i {r : Int32} {host : String} (S : CallFix p m c cc nL s args Ts own) (hM : uMi l y ws rm D tys As wc w1 r) (cw : va_CN R s args own index y host bytes maxL ret ws rm 0 0 n ∧ (Cond.static y).before args s = true ∧ True)
    (hK : va_K D vwCl tys s) (hE : EV A s) (hA : ∀ q, s.heap.size ≤ q → A q) (hP : va_P D vwCl w H) (hD : va_D A w) (hS : va_S A s.heap H locs) (isC : List Nat) (hnd : va_nd isC = true) (hC : isC.map (fun i => w[i]?) = wc.map some) (hf : w1.map Prod.fst = wc.map Prod.fst)
    (hn : As.length = n) (hsz : ls.size = nL) (hstk : st0 = As.reverse ++ rest) (hst : (rest.map fun v => v.category).sum ≤ 8) (hrm : cells ≤ R.cells ∧ slots ≤ R.slots)
    (hdg : decode cc pc = .ok (.invokestatic index, 3))
    (kk : ∀ (H1 : Heap) (locs1 : List Loc), va_P D vwCl (putAt w isC w1) H1 → va_D A (putAt w isC w1) → va_S A s.heap H1 locs1 → W p l e R s m args below meth c H1 locs1 cells slots Q (F0 m (pc + 3) ls (.int r :: rest))) : W p l e R s m args below meth c H locs cells slots Q (F0 m pc ls st0) :=
  uk_i (va_runSN S (hM H.size) cw ⟨uP.blind, uP.here hK hP hD hS hA hE isC hnd hC⟩ rfl hn hsz hstk (lv_room hst) hdg hrm) hP hD hS hA isC hC hf kk
end UC
/-! the words of the models -/
def gd {α : Type} (b : Bool) (x : Option α) : Option α := if b = true then x else none
theorem gd_some {α : Type} {b : Bool} {x : Option α} {r : α} (h : gd b x = some r) : b = true ∧ x = some r := by
  cases b with
  | false => exact absurd h (by simp [gd])
  | true => exact ⟨rfl, h⟩
theorem gd_t {α : Type} {b : Bool} {x : Option α} (h : b = true) : gd b x = x := by rw [h]; rfl
def inb (i : Int32) (n : Nat) : Bool := decide (¬ (i < 0 ∨ n ≤ i.toNatClampNeg))
theorem inb_in {i : Int32} {n : Nat} (h : inb i n = true) : vp_in i n := of_decide_eq_true (p := ¬ (i < 0 ∨ n ≤ i.toNatClampNeg)) h
theorem inb_of {i : Int32} {n : Nat} (h : vp_in i n) : inb i n = true := decide_eq_true (p := ¬ (i < 0 ∨ n ≤ i.toNatClampNeg)) h
theorem inb_nI {k n : Nat} (h : k < n) (hn : n < 2 ^ 31) : inb (nI k) n = true := inb_of (vp_in_nI h hn)
def nz (y : Int32) : Bool := decide (¬ y = 0)
theorem nz_of {y : Int32} (h : nz y = true) : ¬ y = 0 := of_decide_eq_true h
def isb (v : Int32) : Bool := decide (v = 0 ∨ v = 1)
theorem isb_of {v : Int32} (h : isb v = true) : narrow .boolean (.int v) = .int v := by
  rcases of_decide_eq_true h with h | h <;> subst h <;> rfl
def lt' {α β : Type} (e : α) (f : α → β) : β := f e
theorem lt_use {α β : Type} {e v : α} {f : α → β} {r : β} (ev : v = e) (h : lt' e f = r) : f v = r := by subst ev; exact h
def irem (x y : Int32) : Int32 := x - x / y * y
def iushr (x y : Int32) : Int32 := (x.toUInt32 >>> (y.toUInt32 &&& Int32.toUInt32 31)).toInt32
def lushr (x : Int64) (y : Int32) : Int64 := (x.toUInt64 >>> (y.toInt64.toUInt64 &&& Int64.toUInt64 63)).toInt64
def i2c (x : Int32) : Int32 := (x.toUInt32 % 65536).toInt32
def bd1 {A0 B : Type} (x : Option (A0)) (f : A0 → Option B) : Option B := match x with
  | none => none
  | some a0 => f a0
theorem bd1_some {A0 B : Type} {x : Option (A0)} {f : A0 → Option B} {r : B} (h : bd1 x f = some r) : ∃ a0, x = some a0 ∧ f a0 = some r := by
  cases x with
  | none => cases h
  | some q => exact ⟨q, rfl, h⟩
def bd2 {A0 A1 B : Type} (x : Option (A0 × A1)) (f : A0 → A1 → Option B) : Option B := match x with
  | none => none
  | some (a0, a1) => f a0 a1
theorem bd2_some {A0 A1 B : Type} {x : Option (A0 × A1)} {f : A0 → A1 → Option B} {r : B} (h : bd2 x f = some r) : ∃ a0 a1, x = some (a0, a1) ∧ f a0 a1 = some r := by
  cases x with
  | none => cases h
  | some q => exact ⟨q.1, q.2, rfl, h⟩
def bd3 {A0 A1 A2 B : Type} (x : Option (A0 × A1 × A2)) (f : A0 → A1 → A2 → Option B) : Option B := match x with
  | none => none
  | some (a0, a1, a2) => f a0 a1 a2
theorem bd3_some {A0 A1 A2 B : Type} {x : Option (A0 × A1 × A2)} {f : A0 → A1 → A2 → Option B} {r : B} (h : bd3 x f = some r) : ∃ a0 a1 a2, x = some (a0, a1, a2) ∧ f a0 a1 a2 = some r := by
  cases x with
  | none => cases h
  | some q => exact ⟨q.1, q.2.1, q.2.2, rfl, h⟩
def bd4 {A0 A1 A2 A3 B : Type} (x : Option (A0 × A1 × A2 × A3)) (f : A0 → A1 → A2 → A3 → Option B) : Option B := match x with
  | none => none
  | some (a0, a1, a2, a3) => f a0 a1 a2 a3
theorem bd4_some {A0 A1 A2 A3 B : Type} {x : Option (A0 × A1 × A2 × A3)} {f : A0 → A1 → A2 → A3 → Option B} {r : B} (h : bd4 x f = some r) : ∃ a0 a1 a2 a3, x = some (a0, a1, a2, a3) ∧ f a0 a1 a2 a3 = some r := by
  cases x with
  | none => cases h
  | some q => exact ⟨q.1, q.2.1, q.2.2.1, q.2.2.2, rfl, h⟩
def bd5 {A0 A1 A2 A3 A4 B : Type} (x : Option (A0 × A1 × A2 × A3 × A4)) (f : A0 → A1 → A2 → A3 → A4 → Option B) : Option B := match x with
  | none => none
  | some (a0, a1, a2, a3, a4) => f a0 a1 a2 a3 a4
theorem bd5_some {A0 A1 A2 A3 A4 B : Type} {x : Option (A0 × A1 × A2 × A3 × A4)} {f : A0 → A1 → A2 → A3 → A4 → Option B} {r : B} (h : bd5 x f = some r) : ∃ a0 a1 a2 a3 a4, x = some (a0, a1, a2, a3, a4) ∧ f a0 a1 a2 a3 a4 = some r := by
  cases x with
  | none => cases h
  | some q => exact ⟨q.1, q.2.1, q.2.2.1, q.2.2.2.1, q.2.2.2.2, rfl, h⟩
def bd6 {A0 A1 A2 A3 A4 A5 B : Type} (x : Option (A0 × A1 × A2 × A3 × A4 × A5)) (f : A0 → A1 → A2 → A3 → A4 → A5 → Option B) : Option B := match x with
  | none => none
  | some (a0, a1, a2, a3, a4, a5) => f a0 a1 a2 a3 a4 a5
theorem bd6_some {A0 A1 A2 A3 A4 A5 B : Type} {x : Option (A0 × A1 × A2 × A3 × A4 × A5)} {f : A0 → A1 → A2 → A3 → A4 → A5 → Option B} {r : B} (h : bd6 x f = some r) : ∃ a0 a1 a2 a3 a4 a5, x = some (a0, a1, a2, a3, a4, a5) ∧ f a0 a1 a2 a3 a4 a5 = some r := by
  cases x with
  | none => cases h
  | some q => exact ⟨q.1, q.2.1, q.2.2.1, q.2.2.2.1, q.2.2.2.2.1, q.2.2.2.2.2, rfl, h⟩
def bd7 {A0 A1 A2 A3 A4 A5 A6 B : Type} (x : Option (A0 × A1 × A2 × A3 × A4 × A5 × A6)) (f : A0 → A1 → A2 → A3 → A4 → A5 → A6 → Option B) : Option B := match x with
  | none => none
  | some (a0, a1, a2, a3, a4, a5, a6) => f a0 a1 a2 a3 a4 a5 a6
theorem bd7_some {A0 A1 A2 A3 A4 A5 A6 B : Type} {x : Option (A0 × A1 × A2 × A3 × A4 × A5 × A6)} {f : A0 → A1 → A2 → A3 → A4 → A5 → A6 → Option B} {r : B} (h : bd7 x f = some r) : ∃ a0 a1 a2 a3 a4 a5 a6, x = some (a0, a1, a2, a3, a4, a5, a6) ∧ f a0 a1 a2 a3 a4 a5 a6 = some r := by
  cases x with
  | none => cases h
  | some q => exact ⟨q.1, q.2.1, q.2.2.1, q.2.2.2.1, q.2.2.2.2.1, q.2.2.2.2.2.1, q.2.2.2.2.2.2, rfl, h⟩
def bd8 {A0 A1 A2 A3 A4 A5 A6 A7 B : Type} (x : Option (A0 × A1 × A2 × A3 × A4 × A5 × A6 × A7)) (f : A0 → A1 → A2 → A3 → A4 → A5 → A6 → A7 → Option B) : Option B := match x with
  | none => none
  | some (a0, a1, a2, a3, a4, a5, a6, a7) => f a0 a1 a2 a3 a4 a5 a6 a7
theorem bd8_some {A0 A1 A2 A3 A4 A5 A6 A7 B : Type} {x : Option (A0 × A1 × A2 × A3 × A4 × A5 × A6 × A7)} {f : A0 → A1 → A2 → A3 → A4 → A5 → A6 → A7 → Option B} {r : B} (h : bd8 x f = some r) : ∃ a0 a1 a2 a3 a4 a5 a6 a7, x = some (a0, a1, a2, a3, a4, a5, a6, a7) ∧ f a0 a1 a2 a3 a4 a5 a6 a7 = some r := by
  cases x with
  | none => cases h
  | some q => exact ⟨q.1, q.2.1, q.2.2.1, q.2.2.2.1, q.2.2.2.2.1, q.2.2.2.2.2.1, q.2.2.2.2.2.2.1, q.2.2.2.2.2.2.2, rfl, h⟩
def bd9 {A0 A1 A2 A3 A4 A5 A6 A7 A8 B : Type} (x : Option (A0 × A1 × A2 × A3 × A4 × A5 × A6 × A7 × A8)) (f : A0 → A1 → A2 → A3 → A4 → A5 → A6 → A7 → A8 → Option B) : Option B := match x with
  | none => none
  | some (a0, a1, a2, a3, a4, a5, a6, a7, a8) => f a0 a1 a2 a3 a4 a5 a6 a7 a8
theorem bd9_some {A0 A1 A2 A3 A4 A5 A6 A7 A8 B : Type} {x : Option (A0 × A1 × A2 × A3 × A4 × A5 × A6 × A7 × A8)} {f : A0 → A1 → A2 → A3 → A4 → A5 → A6 → A7 → A8 → Option B} {r : B} (h : bd9 x f = some r) : ∃ a0 a1 a2 a3 a4 a5 a6 a7 a8, x = some (a0, a1, a2, a3, a4, a5, a6, a7, a8) ∧ f a0 a1 a2 a3 a4 a5 a6 a7 a8 = some r := by
  cases x with
  | none => cases h
  | some q => exact ⟨q.1, q.2.1, q.2.2.1, q.2.2.2.1, q.2.2.2.2.1, q.2.2.2.2.2.1, q.2.2.2.2.2.2.1, q.2.2.2.2.2.2.2.1, q.2.2.2.2.2.2.2.2, rfl, h⟩
def bd10 {A0 A1 A2 A3 A4 A5 A6 A7 A8 A9 B : Type} (x : Option (A0 × A1 × A2 × A3 × A4 × A5 × A6 × A7 × A8 × A9)) (f : A0 → A1 → A2 → A3 → A4 → A5 → A6 → A7 → A8 → A9 → Option B) : Option B := match x with
  | none => none
  | some (a0, a1, a2, a3, a4, a5, a6, a7, a8, a9) => f a0 a1 a2 a3 a4 a5 a6 a7 a8 a9
theorem bd10_some {A0 A1 A2 A3 A4 A5 A6 A7 A8 A9 B : Type} {x : Option (A0 × A1 × A2 × A3 × A4 × A5 × A6 × A7 × A8 × A9)} {f : A0 → A1 → A2 → A3 → A4 → A5 → A6 → A7 → A8 → A9 → Option B} {r : B} (h : bd10 x f = some r) : ∃ a0 a1 a2 a3 a4 a5 a6 a7 a8 a9, x = some (a0, a1, a2, a3, a4, a5, a6, a7, a8, a9) ∧ f a0 a1 a2 a3 a4 a5 a6 a7 a8 a9 = some r := by
  cases x with
  | none => cases h
  | some q => exact ⟨q.1, q.2.1, q.2.2.1, q.2.2.2.1, q.2.2.2.2.1, q.2.2.2.2.2.1, q.2.2.2.2.2.2.1, q.2.2.2.2.2.2.2.1, q.2.2.2.2.2.2.2.2.1, q.2.2.2.2.2.2.2.2.2, rfl, h⟩
def bd11 {A0 A1 A2 A3 A4 A5 A6 A7 A8 A9 A10 B : Type} (x : Option (A0 × A1 × A2 × A3 × A4 × A5 × A6 × A7 × A8 × A9 × A10)) (f : A0 → A1 → A2 → A3 → A4 → A5 → A6 → A7 → A8 → A9 → A10 → Option B) : Option B := match x with
  | none => none
  | some (a0, a1, a2, a3, a4, a5, a6, a7, a8, a9, a10) => f a0 a1 a2 a3 a4 a5 a6 a7 a8 a9 a10
theorem bd11_some {A0 A1 A2 A3 A4 A5 A6 A7 A8 A9 A10 B : Type} {x : Option (A0 × A1 × A2 × A3 × A4 × A5 × A6 × A7 × A8 × A9 × A10)} {f : A0 → A1 → A2 → A3 → A4 → A5 → A6 → A7 → A8 → A9 → A10 → Option B} {r : B} (h : bd11 x f = some r) : ∃ a0 a1 a2 a3 a4 a5 a6 a7 a8 a9 a10, x = some (a0, a1, a2, a3, a4, a5, a6, a7, a8, a9, a10) ∧ f a0 a1 a2 a3 a4 a5 a6 a7 a8 a9 a10 = some r := by
  cases x with
  | none => cases h
  | some q => exact ⟨q.1, q.2.1, q.2.2.1, q.2.2.2.1, q.2.2.2.2.1, q.2.2.2.2.2.1, q.2.2.2.2.2.2.1, q.2.2.2.2.2.2.2.1, q.2.2.2.2.2.2.2.2.1, q.2.2.2.2.2.2.2.2.2.1, q.2.2.2.2.2.2.2.2.2.2, rfl, h⟩
def bd12 {A0 A1 A2 A3 A4 A5 A6 A7 A8 A9 A10 A11 B : Type} (x : Option (A0 × A1 × A2 × A3 × A4 × A5 × A6 × A7 × A8 × A9 × A10 × A11)) (f : A0 → A1 → A2 → A3 → A4 → A5 → A6 → A7 → A8 → A9 → A10 → A11 → Option B) : Option B := match x with
  | none => none
  | some (a0, a1, a2, a3, a4, a5, a6, a7, a8, a9, a10, a11) => f a0 a1 a2 a3 a4 a5 a6 a7 a8 a9 a10 a11
theorem bd12_some {A0 A1 A2 A3 A4 A5 A6 A7 A8 A9 A10 A11 B : Type} {x : Option (A0 × A1 × A2 × A3 × A4 × A5 × A6 × A7 × A8 × A9 × A10 × A11)} {f : A0 → A1 → A2 → A3 → A4 → A5 → A6 → A7 → A8 → A9 → A10 → A11 → Option B} {r : B} (h : bd12 x f = some r) : ∃ a0 a1 a2 a3 a4 a5 a6 a7 a8 a9 a10 a11, x = some (a0, a1, a2, a3, a4, a5, a6, a7, a8, a9, a10, a11) ∧ f a0 a1 a2 a3 a4 a5 a6 a7 a8 a9 a10 a11 = some r := by
  cases x with
  | none => cases h
  | some q => exact ⟨q.1, q.2.1, q.2.2.1, q.2.2.2.1, q.2.2.2.2.1, q.2.2.2.2.2.1, q.2.2.2.2.2.2.1, q.2.2.2.2.2.2.2.1, q.2.2.2.2.2.2.2.2.1, q.2.2.2.2.2.2.2.2.2.1, q.2.2.2.2.2.2.2.2.2.2.1, q.2.2.2.2.2.2.2.2.2.2.2, rfl, h⟩
def bd13 {A0 A1 A2 A3 A4 A5 A6 A7 A8 A9 A10 A11 A12 B : Type} (x : Option (A0 × A1 × A2 × A3 × A4 × A5 × A6 × A7 × A8 × A9 × A10 × A11 × A12)) (f : A0 → A1 → A2 → A3 → A4 → A5 → A6 → A7 → A8 → A9 → A10 → A11 → A12 → Option B) : Option B := match x with
  | none => none
  | some (a0, a1, a2, a3, a4, a5, a6, a7, a8, a9, a10, a11, a12) => f a0 a1 a2 a3 a4 a5 a6 a7 a8 a9 a10 a11 a12
theorem bd13_some {A0 A1 A2 A3 A4 A5 A6 A7 A8 A9 A10 A11 A12 B : Type} {x : Option (A0 × A1 × A2 × A3 × A4 × A5 × A6 × A7 × A8 × A9 × A10 × A11 × A12)} {f : A0 → A1 → A2 → A3 → A4 → A5 → A6 → A7 → A8 → A9 → A10 → A11 → A12 → Option B} {r : B} (h : bd13 x f = some r) : ∃ a0 a1 a2 a3 a4 a5 a6 a7 a8 a9 a10 a11 a12, x = some (a0, a1, a2, a3, a4, a5, a6, a7, a8, a9, a10, a11, a12) ∧ f a0 a1 a2 a3 a4 a5 a6 a7 a8 a9 a10 a11 a12 = some r := by
  cases x with
  | none => cases h
  | some q => exact ⟨q.1, q.2.1, q.2.2.1, q.2.2.2.1, q.2.2.2.2.1, q.2.2.2.2.2.1, q.2.2.2.2.2.2.1, q.2.2.2.2.2.2.2.1, q.2.2.2.2.2.2.2.2.1, q.2.2.2.2.2.2.2.2.2.1, q.2.2.2.2.2.2.2.2.2.2.1, q.2.2.2.2.2.2.2.2.2.2.2.1, q.2.2.2.2.2.2.2.2.2.2.2.2, rfl, h⟩
def bd14 {A0 A1 A2 A3 A4 A5 A6 A7 A8 A9 A10 A11 A12 A13 B : Type} (x : Option (A0 × A1 × A2 × A3 × A4 × A5 × A6 × A7 × A8 × A9 × A10 × A11 × A12 × A13)) (f : A0 → A1 → A2 → A3 → A4 → A5 → A6 → A7 → A8 → A9 → A10 → A11 → A12 → A13 → Option B) : Option B := match x with
  | none => none
  | some (a0, a1, a2, a3, a4, a5, a6, a7, a8, a9, a10, a11, a12, a13) => f a0 a1 a2 a3 a4 a5 a6 a7 a8 a9 a10 a11 a12 a13
theorem bd14_some {A0 A1 A2 A3 A4 A5 A6 A7 A8 A9 A10 A11 A12 A13 B : Type} {x : Option (A0 × A1 × A2 × A3 × A4 × A5 × A6 × A7 × A8 × A9 × A10 × A11 × A12 × A13)} {f : A0 → A1 → A2 → A3 → A4 → A5 → A6 → A7 → A8 → A9 → A10 → A11 → A12 → A13 → Option B} {r : B} (h : bd14 x f = some r) : ∃ a0 a1 a2 a3 a4 a5 a6 a7 a8 a9 a10 a11 a12 a13, x = some (a0, a1, a2, a3, a4, a5, a6, a7, a8, a9, a10, a11, a12, a13) ∧ f a0 a1 a2 a3 a4 a5 a6 a7 a8 a9 a10 a11 a12 a13 = some r := by
  cases x with
  | none => cases h
  | some q => exact ⟨q.1, q.2.1, q.2.2.1, q.2.2.2.1, q.2.2.2.2.1, q.2.2.2.2.2.1, q.2.2.2.2.2.2.1, q.2.2.2.2.2.2.2.1, q.2.2.2.2.2.2.2.2.1, q.2.2.2.2.2.2.2.2.2.1, q.2.2.2.2.2.2.2.2.2.2.1, q.2.2.2.2.2.2.2.2.2.2.2.1, q.2.2.2.2.2.2.2.2.2.2.2.2.1, q.2.2.2.2.2.2.2.2.2.2.2.2.2, rfl, h⟩
def bd15 {A0 A1 A2 A3 A4 A5 A6 A7 A8 A9 A10 A11 A12 A13 A14 B : Type} (x : Option (A0 × A1 × A2 × A3 × A4 × A5 × A6 × A7 × A8 × A9 × A10 × A11 × A12 × A13 × A14)) (f : A0 → A1 → A2 → A3 → A4 → A5 → A6 → A7 → A8 → A9 → A10 → A11 → A12 → A13 → A14 → Option B) : Option B := match x with
  | none => none
  | some (a0, a1, a2, a3, a4, a5, a6, a7, a8, a9, a10, a11, a12, a13, a14) => f a0 a1 a2 a3 a4 a5 a6 a7 a8 a9 a10 a11 a12 a13 a14
theorem bd15_some {A0 A1 A2 A3 A4 A5 A6 A7 A8 A9 A10 A11 A12 A13 A14 B : Type} {x : Option (A0 × A1 × A2 × A3 × A4 × A5 × A6 × A7 × A8 × A9 × A10 × A11 × A12 × A13 × A14)} {f : A0 → A1 → A2 → A3 → A4 → A5 → A6 → A7 → A8 → A9 → A10 → A11 → A12 → A13 → A14 → Option B} {r : B} (h : bd15 x f = some r) : ∃ a0 a1 a2 a3 a4 a5 a6 a7 a8 a9 a10 a11 a12 a13 a14, x = some (a0, a1, a2, a3, a4, a5, a6, a7, a8, a9, a10, a11, a12, a13, a14) ∧ f a0 a1 a2 a3 a4 a5 a6 a7 a8 a9 a10 a11 a12 a13 a14 = some r := by
  cases x with
  | none => cases h
  | some q => exact ⟨q.1, q.2.1, q.2.2.1, q.2.2.2.1, q.2.2.2.2.1, q.2.2.2.2.2.1, q.2.2.2.2.2.2.1, q.2.2.2.2.2.2.2.1, q.2.2.2.2.2.2.2.2.1, q.2.2.2.2.2.2.2.2.2.1, q.2.2.2.2.2.2.2.2.2.2.1, q.2.2.2.2.2.2.2.2.2.2.2.1, q.2.2.2.2.2.2.2.2.2.2.2.2.1, q.2.2.2.2.2.2.2.2.2.2.2.2.2.1, q.2.2.2.2.2.2.2.2.2.2.2.2.2.2, rfl, h⟩
def bd16 {A0 A1 A2 A3 A4 A5 A6 A7 A8 A9 A10 A11 A12 A13 A14 A15 B : Type} (x : Option (A0 × A1 × A2 × A3 × A4 × A5 × A6 × A7 × A8 × A9 × A10 × A11 × A12 × A13 × A14 × A15)) (f : A0 → A1 → A2 → A3 → A4 → A5 → A6 → A7 → A8 → A9 → A10 → A11 → A12 → A13 → A14 → A15 → Option B) : Option B := match x with
  | none => none
  | some (a0, a1, a2, a3, a4, a5, a6, a7, a8, a9, a10, a11, a12, a13, a14, a15) => f a0 a1 a2 a3 a4 a5 a6 a7 a8 a9 a10 a11 a12 a13 a14 a15
theorem bd16_some {A0 A1 A2 A3 A4 A5 A6 A7 A8 A9 A10 A11 A12 A13 A14 A15 B : Type} {x : Option (A0 × A1 × A2 × A3 × A4 × A5 × A6 × A7 × A8 × A9 × A10 × A11 × A12 × A13 × A14 × A15)} {f : A0 → A1 → A2 → A3 → A4 → A5 → A6 → A7 → A8 → A9 → A10 → A11 → A12 → A13 → A14 → A15 → Option B} {r : B} (h : bd16 x f = some r) : ∃ a0 a1 a2 a3 a4 a5 a6 a7 a8 a9 a10 a11 a12 a13 a14 a15, x = some (a0, a1, a2, a3, a4, a5, a6, a7, a8, a9, a10, a11, a12, a13, a14, a15) ∧ f a0 a1 a2 a3 a4 a5 a6 a7 a8 a9 a10 a11 a12 a13 a14 a15 = some r := by
  cases x with
  | none => cases h
  | some q => exact ⟨q.1, q.2.1, q.2.2.1, q.2.2.2.1, q.2.2.2.2.1, q.2.2.2.2.2.1, q.2.2.2.2.2.2.1, q.2.2.2.2.2.2.2.1, q.2.2.2.2.2.2.2.2.1, q.2.2.2.2.2.2.2.2.2.1, q.2.2.2.2.2.2.2.2.2.2.1, q.2.2.2.2.2.2.2.2.2.2.2.1, q.2.2.2.2.2.2.2.2.2.2.2.2.1, q.2.2.2.2.2.2.2.2.2.2.2.2.2.1, q.2.2.2.2.2.2.2.2.2.2.2.2.2.2.1, q.2.2.2.2.2.2.2.2.2.2.2.2.2.2.2, rfl, h⟩
def bd17 {A0 A1 A2 A3 A4 A5 A6 A7 A8 A9 A10 A11 A12 A13 A14 A15 A16 B : Type} (x : Option (A0 × A1 × A2 × A3 × A4 × A5 × A6 × A7 × A8 × A9 × A10 × A11 × A12 × A13 × A14 × A15 × A16)) (f : A0 → A1 → A2 → A3 → A4 → A5 → A6 → A7 → A8 → A9 → A10 → A11 → A12 → A13 → A14 → A15 → A16 → Option B) : Option B := match x with
  | none => none
  | some (a0, a1, a2, a3, a4, a5, a6, a7, a8, a9, a10, a11, a12, a13, a14, a15, a16) => f a0 a1 a2 a3 a4 a5 a6 a7 a8 a9 a10 a11 a12 a13 a14 a15 a16
theorem bd17_some {A0 A1 A2 A3 A4 A5 A6 A7 A8 A9 A10 A11 A12 A13 A14 A15 A16 B : Type} {x : Option (A0 × A1 × A2 × A3 × A4 × A5 × A6 × A7 × A8 × A9 × A10 × A11 × A12 × A13 × A14 × A15 × A16)} {f : A0 → A1 → A2 → A3 → A4 → A5 → A6 → A7 → A8 → A9 → A10 → A11 → A12 → A13 → A14 → A15 → A16 → Option B} {r : B} (h : bd17 x f = some r) : ∃ a0 a1 a2 a3 a4 a5 a6 a7 a8 a9 a10 a11 a12 a13 a14 a15 a16, x = some (a0, a1, a2, a3, a4, a5, a6, a7, a8, a9, a10, a11, a12, a13, a14, a15, a16) ∧ f a0 a1 a2 a3 a4 a5 a6 a7 a8 a9 a10 a11 a12 a13 a14 a15 a16 = some r := by
  cases x with
  | none => cases h
  | some q => exact ⟨q.1, q.2.1, q.2.2.1, q.2.2.2.1, q.2.2.2.2.1, q.2.2.2.2.2.1, q.2.2.2.2.2.2.1, q.2.2.2.2.2.2.2.1, q.2.2.2.2.2.2.2.2.1, q.2.2.2.2.2.2.2.2.2.1, q.2.2.2.2.2.2.2.2.2.2.1, q.2.2.2.2.2.2.2.2.2.2.2.1, q.2.2.2.2.2.2.2.2.2.2.2.2.1, q.2.2.2.2.2.2.2.2.2.2.2.2.2.1, q.2.2.2.2.2.2.2.2.2.2.2.2.2.2.1, q.2.2.2.2.2.2.2.2.2.2.2.2.2.2.2.1, q.2.2.2.2.2.2.2.2.2.2.2.2.2.2.2.2, rfl, h⟩
def bd18 {A0 A1 A2 A3 A4 A5 A6 A7 A8 A9 A10 A11 A12 A13 A14 A15 A16 A17 B : Type} (x : Option (A0 × A1 × A2 × A3 × A4 × A5 × A6 × A7 × A8 × A9 × A10 × A11 × A12 × A13 × A14 × A15 × A16 × A17)) (f : A0 → A1 → A2 → A3 → A4 → A5 → A6 → A7 → A8 → A9 → A10 → A11 → A12 → A13 → A14 → A15 → A16 → A17 → Option B) : Option B := match x with
  | none => none
  | some (a0, a1, a2, a3, a4, a5, a6, a7, a8, a9, a10, a11, a12, a13, a14, a15, a16, a17) => f a0 a1 a2 a3 a4 a5 a6 a7 a8 a9 a10 a11 a12 a13 a14 a15 a16 a17
theorem bd18_some {A0 A1 A2 A3 A4 A5 A6 A7 A8 A9 A10 A11 A12 A13 A14 A15 A16 A17 B : Type} {x : Option (A0 × A1 × A2 × A3 × A4 × A5 × A6 × A7 × A8 × A9 × A10 × A11 × A12 × A13 × A14 × A15 × A16 × A17)} {f : A0 → A1 → A2 → A3 → A4 → A5 → A6 → A7 → A8 → A9 → A10 → A11 → A12 → A13 → A14 → A15 → A16 → A17 → Option B} {r : B} (h : bd18 x f = some r) : ∃ a0 a1 a2 a3 a4 a5 a6 a7 a8 a9 a10 a11 a12 a13 a14 a15 a16 a17, x = some (a0, a1, a2, a3, a4, a5, a6, a7, a8, a9, a10, a11, a12, a13, a14, a15, a16, a17) ∧ f a0 a1 a2 a3 a4 a5 a6 a7 a8 a9 a10 a11 a12 a13 a14 a15 a16 a17 = some r := by
  cases x with
  | none => cases h
  | some q => exact ⟨q.1, q.2.1, q.2.2.1, q.2.2.2.1, q.2.2.2.2.1, q.2.2.2.2.2.1, q.2.2.2.2.2.2.1, q.2.2.2.2.2.2.2.1, q.2.2.2.2.2.2.2.2.1, q.2.2.2.2.2.2.2.2.2.1, q.2.2.2.2.2.2.2.2.2.2.1, q.2.2.2.2.2.2.2.2.2.2.2.1, q.2.2.2.2.2.2.2.2.2.2.2.2.1, q.2.2.2.2.2.2.2.2.2.2.2.2.2.1, q.2.2.2.2.2.2.2.2.2.2.2.2.2.2.1, q.2.2.2.2.2.2.2.2.2.2.2.2.2.2.2.1, q.2.2.2.2.2.2.2.2.2.2.2.2.2.2.2.2.1, q.2.2.2.2.2.2.2.2.2.2.2.2.2.2.2.2.2, rfl, h⟩
def bd19 {A0 A1 A2 A3 A4 A5 A6 A7 A8 A9 A10 A11 A12 A13 A14 A15 A16 A17 A18 B : Type} (x : Option (A0 × A1 × A2 × A3 × A4 × A5 × A6 × A7 × A8 × A9 × A10 × A11 × A12 × A13 × A14 × A15 × A16 × A17 × A18)) (f : A0 → A1 → A2 → A3 → A4 → A5 → A6 → A7 → A8 → A9 → A10 → A11 → A12 → A13 → A14 → A15 → A16 → A17 → A18 → Option B) : Option B := match x with
  | none => none
  | some (a0, a1, a2, a3, a4, a5, a6, a7, a8, a9, a10, a11, a12, a13, a14, a15, a16, a17, a18) => f a0 a1 a2 a3 a4 a5 a6 a7 a8 a9 a10 a11 a12 a13 a14 a15 a16 a17 a18
theorem bd19_some {A0 A1 A2 A3 A4 A5 A6 A7 A8 A9 A10 A11 A12 A13 A14 A15 A16 A17 A18 B : Type} {x : Option (A0 × A1 × A2 × A3 × A4 × A5 × A6 × A7 × A8 × A9 × A10 × A11 × A12 × A13 × A14 × A15 × A16 × A17 × A18)} {f : A0 → A1 → A2 → A3 → A4 → A5 → A6 → A7 → A8 → A9 → A10 → A11 → A12 → A13 → A14 → A15 → A16 → A17 → A18 → Option B} {r : B} (h : bd19 x f = some r) : ∃ a0 a1 a2 a3 a4 a5 a6 a7 a8 a9 a10 a11 a12 a13 a14 a15 a16 a17 a18, x = some (a0, a1, a2, a3, a4, a5, a6, a7, a8, a9, a10, a11, a12, a13, a14, a15, a16, a17, a18) ∧ f a0 a1 a2 a3 a4 a5 a6 a7 a8 a9 a10 a11 a12 a13 a14 a15 a16 a17 a18 = some r := by
  cases x with
  | none => cases h
  | some q => exact ⟨q.1, q.2.1, q.2.2.1, q.2.2.2.1, q.2.2.2.2.1, q.2.2.2.2.2.1, q.2.2.2.2.2.2.1, q.2.2.2.2.2.2.2.1, q.2.2.2.2.2.2.2.2.1, q.2.2.2.2.2.2.2.2.2.1, q.2.2.2.2.2.2.2.2.2.2.1, q.2.2.2.2.2.2.2.2.2.2.2.1, q.2.2.2.2.2.2.2.2.2.2.2.2.1, q.2.2.2.2.2.2.2.2.2.2.2.2.2.1, q.2.2.2.2.2.2.2.2.2.2.2.2.2.2.1, q.2.2.2.2.2.2.2.2.2.2.2.2.2.2.2.1, q.2.2.2.2.2.2.2.2.2.2.2.2.2.2.2.2.1, q.2.2.2.2.2.2.2.2.2.2.2.2.2.2.2.2.2.1, q.2.2.2.2.2.2.2.2.2.2.2.2.2.2.2.2.2.2, rfl, h⟩
def bd20 {A0 A1 A2 A3 A4 A5 A6 A7 A8 A9 A10 A11 A12 A13 A14 A15 A16 A17 A18 A19 B : Type} (x : Option (A0 × A1 × A2 × A3 × A4 × A5 × A6 × A7 × A8 × A9 × A10 × A11 × A12 × A13 × A14 × A15 × A16 × A17 × A18 × A19)) (f : A0 → A1 → A2 → A3 → A4 → A5 → A6 → A7 → A8 → A9 → A10 → A11 → A12 → A13 → A14 → A15 → A16 → A17 → A18 → A19 → Option B) : Option B := match x with
  | none => none
  | some (a0, a1, a2, a3, a4, a5, a6, a7, a8, a9, a10, a11, a12, a13, a14, a15, a16, a17, a18, a19) => f a0 a1 a2 a3 a4 a5 a6 a7 a8 a9 a10 a11 a12 a13 a14 a15 a16 a17 a18 a19
theorem bd20_some {A0 A1 A2 A3 A4 A5 A6 A7 A8 A9 A10 A11 A12 A13 A14 A15 A16 A17 A18 A19 B : Type} {x : Option (A0 × A1 × A2 × A3 × A4 × A5 × A6 × A7 × A8 × A9 × A10 × A11 × A12 × A13 × A14 × A15 × A16 × A17 × A18 × A19)} {f : A0 → A1 → A2 → A3 → A4 → A5 → A6 → A7 → A8 → A9 → A10 → A11 → A12 → A13 → A14 → A15 → A16 → A17 → A18 → A19 → Option B} {r : B} (h : bd20 x f = some r) : ∃ a0 a1 a2 a3 a4 a5 a6 a7 a8 a9 a10 a11 a12 a13 a14 a15 a16 a17 a18 a19, x = some (a0, a1, a2, a3, a4, a5, a6, a7, a8, a9, a10, a11, a12, a13, a14, a15, a16, a17, a18, a19) ∧ f a0 a1 a2 a3 a4 a5 a6 a7 a8 a9 a10 a11 a12 a13 a14 a15 a16 a17 a18 a19 = some r := by
  cases x with
  | none => cases h
  | some q => exact ⟨q.1, q.2.1, q.2.2.1, q.2.2.2.1, q.2.2.2.2.1, q.2.2.2.2.2.1, q.2.2.2.2.2.2.1, q.2.2.2.2.2.2.2.1, q.2.2.2.2.2.2.2.2.1, q.2.2.2.2.2.2.2.2.2.1, q.2.2.2.2.2.2.2.2.2.2.1, q.2.2.2.2.2.2.2.2.2.2.2.1, q.2.2.2.2.2.2.2.2.2.2.2.2.1, q.2.2.2.2.2.2.2.2.2.2.2.2.2.1, q.2.2.2.2.2.2.2.2.2.2.2.2.2.2.1, q.2.2.2.2.2.2.2.2.2.2.2.2.2.2.2.1, q.2.2.2.2.2.2.2.2.2.2.2.2.2.2.2.2.1, q.2.2.2.2.2.2.2.2.2.2.2.2.2.2.2.2.2.1, q.2.2.2.2.2.2.2.2.2.2.2.2.2.2.2.2.2.2.1, q.2.2.2.2.2.2.2.2.2.2.2.2.2.2.2.2.2.2.2, rfl, h⟩
def bd21 {A0 A1 A2 A3 A4 A5 A6 A7 A8 A9 A10 A11 A12 A13 A14 A15 A16 A17 A18 A19 A20 B : Type} (x : Option (A0 × A1 × A2 × A3 × A4 × A5 × A6 × A7 × A8 × A9 × A10 × A11 × A12 × A13 × A14 × A15 × A16 × A17 × A18 × A19 × A20)) (f : A0 → A1 → A2 → A3 → A4 → A5 → A6 → A7 → A8 → A9 → A10 → A11 → A12 → A13 → A14 → A15 → A16 → A17 → A18 → A19 → A20 → Option B) : Option B := match x with
  | none => none
  | some (a0, a1, a2, a3, a4, a5, a6, a7, a8, a9, a10, a11, a12, a13, a14, a15, a16, a17, a18, a19, a20) => f a0 a1 a2 a3 a4 a5 a6 a7 a8 a9 a10 a11 a12 a13 a14 a15 a16 a17 a18 a19 a20
theorem bd21_some {A0 A1 A2 A3 A4 A5 A6 A7 A8 A9 A10 A11 A12 A13 A14 A15 A16 A17 A18 A19 A20 B : Type} {x : Option (A0 × A1 × A2 × A3 × A4 × A5 × A6 × A7 × A8 × A9 × A10 × A11 × A12 × A13 × A14 × A15 × A16 × A17 × A18 × A19 × A20)} {f : A0 → A1 → A2 → A3 → A4 → A5 → A6 → A7 → A8 → A9 → A10 → A11 → A12 → A13 → A14 → A15 → A16 → A17 → A18 → A19 → A20 → Option B} {r : B} (h : bd21 x f = some r) : ∃ a0 a1 a2 a3 a4 a5 a6 a7 a8 a9 a10 a11 a12 a13 a14 a15 a16 a17 a18 a19 a20, x = some (a0, a1, a2, a3, a4, a5, a6, a7, a8, a9, a10, a11, a12, a13, a14, a15, a16, a17, a18, a19, a20) ∧ f a0 a1 a2 a3 a4 a5 a6 a7 a8 a9 a10 a11 a12 a13 a14 a15 a16 a17 a18 a19 a20 = some r := by
  cases x with
  | none => cases h
  | some q => exact ⟨q.1, q.2.1, q.2.2.1, q.2.2.2.1, q.2.2.2.2.1, q.2.2.2.2.2.1, q.2.2.2.2.2.2.1, q.2.2.2.2.2.2.2.1, q.2.2.2.2.2.2.2.2.1, q.2.2.2.2.2.2.2.2.2.1, q.2.2.2.2.2.2.2.2.2.2.1, q.2.2.2.2.2.2.2.2.2.2.2.1, q.2.2.2.2.2.2.2.2.2.2.2.2.1, q.2.2.2.2.2.2.2.2.2.2.2.2.2.1, q.2.2.2.2.2.2.2.2.2.2.2.2.2.2.1, q.2.2.2.2.2.2.2.2.2.2.2.2.2.2.2.1, q.2.2.2.2.2.2.2.2.2.2.2.2.2.2.2.2.1, q.2.2.2.2.2.2.2.2.2.2.2.2.2.2.2.2.2.1, q.2.2.2.2.2.2.2.2.2.2.2.2.2.2.2.2.2.2.1, q.2.2.2.2.2.2.2.2.2.2.2.2.2.2.2.2.2.2.2.1, q.2.2.2.2.2.2.2.2.2.2.2.2.2.2.2.2.2.2.2.2, rfl, h⟩
def bd22 {A0 A1 A2 A3 A4 A5 A6 A7 A8 A9 A10 A11 A12 A13 A14 A15 A16 A17 A18 A19 A20 A21 B : Type} (x : Option (A0 × A1 × A2 × A3 × A4 × A5 × A6 × A7 × A8 × A9 × A10 × A11 × A12 × A13 × A14 × A15 × A16 × A17 × A18 × A19 × A20 × A21)) (f : A0 → A1 → A2 → A3 → A4 → A5 → A6 → A7 → A8 → A9 → A10 → A11 → A12 → A13 → A14 → A15 → A16 → A17 → A18 → A19 → A20 → A21 → Option B) : Option B := match x with
  | none => none
  | some (a0, a1, a2, a3, a4, a5, a6, a7, a8, a9, a10, a11, a12, a13, a14, a15, a16, a17, a18, a19, a20, a21) => f a0 a1 a2 a3 a4 a5 a6 a7 a8 a9 a10 a11 a12 a13 a14 a15 a16 a17 a18 a19 a20 a21
theorem bd22_some {A0 A1 A2 A3 A4 A5 A6 A7 A8 A9 A10 A11 A12 A13 A14 A15 A16 A17 A18 A19 A20 A21 B : Type} {x : Option (A0 × A1 × A2 × A3 × A4 × A5 × A6 × A7 × A8 × A9 × A10 × A11 × A12 × A13 × A14 × A15 × A16 × A17 × A18 × A19 × A20 × A21)} {f : A0 → A1 → A2 → A3 → A4 → A5 → A6 → A7 → A8 → A9 → A10 → A11 → A12 → A13 → A14 → A15 → A16 → A17 → A18 → A19 → A20 → A21 → Option B} {r : B} (h : bd22 x f = some r) : ∃ a0 a1 a2 a3 a4 a5 a6 a7 a8 a9 a10 a11 a12 a13 a14 a15 a16 a17 a18 a19 a20 a21, x = some (a0, a1, a2, a3, a4, a5, a6, a7, a8, a9, a10, a11, a12, a13, a14, a15, a16, a17, a18, a19, a20, a21) ∧ f a0 a1 a2 a3 a4 a5 a6 a7 a8 a9 a10 a11 a12 a13 a14 a15 a16 a17 a18 a19 a20 a21 = some r := by
  cases x with
  | none => cases h
  | some q => exact ⟨q.1, q.2.1, q.2.2.1, q.2.2.2.1, q.2.2.2.2.1, q.2.2.2.2.2.1, q.2.2.2.2.2.2.1, q.2.2.2.2.2.2.2.1, q.2.2.2.2.2.2.2.2.1, q.2.2.2.2.2.2.2.2.2.1, q.2.2.2.2.2.2.2.2.2.2.1, q.2.2.2.2.2.2.2.2.2.2.2.1, q.2.2.2.2.2.2.2.2.2.2.2.2.1, q.2.2.2.2.2.2.2.2.2.2.2.2.2.1, q.2.2.2.2.2.2.2.2.2.2.2.2.2.2.1, q.2.2.2.2.2.2.2.2.2.2.2.2.2.2.2.1, q.2.2.2.2.2.2.2.2.2.2.2.2.2.2.2.2.1, q.2.2.2.2.2.2.2.2.2.2.2.2.2.2.2.2.2.1, q.2.2.2.2.2.2.2.2.2.2.2.2.2.2.2.2.2.2.1, q.2.2.2.2.2.2.2.2.2.2.2.2.2.2.2.2.2.2.2.1, q.2.2.2.2.2.2.2.2.2.2.2.2.2.2.2.2.2.2.2.2.1, q.2.2.2.2.2.2.2.2.2.2.2.2.2.2.2.2.2.2.2.2.2, rfl, h⟩
def bd23 {A0 A1 A2 A3 A4 A5 A6 A7 A8 A9 A10 A11 A12 A13 A14 A15 A16 A17 A18 A19 A20 A21 A22 B : Type} (x : Option (A0 × A1 × A2 × A3 × A4 × A5 × A6 × A7 × A8 × A9 × A10 × A11 × A12 × A13 × A14 × A15 × A16 × A17 × A18 × A19 × A20 × A21 × A22)) (f : A0 → A1 → A2 → A3 → A4 → A5 → A6 → A7 → A8 → A9 → A10 → A11 → A12 → A13 → A14 → A15 → A16 → A17 → A18 → A19 → A20 → A21 → A22 → Option B) : Option B := match x with
  | none => none
  | some (a0, a1, a2, a3, a4, a5, a6, a7, a8, a9, a10, a11, a12, a13, a14, a15, a16, a17, a18, a19, a20, a21, a22) => f a0 a1 a2 a3 a4 a5 a6 a7 a8 a9 a10 a11 a12 a13 a14 a15 a16 a17 a18 a19 a20 a21 a22
theorem bd23_some {A0 A1 A2 A3 A4 A5 A6 A7 A8 A9 A10 A11 A12 A13 A14 A15 A16 A17 A18 A19 A20 A21 A22 B : Type} {x : Option (A0 × A1 × A2 × A3 × A4 × A5 × A6 × A7 × A8 × A9 × A10 × A11 × A12 × A13 × A14 × A15 × A16 × A17 × A18 × A19 × A20 × A21 × A22)} {f : A0 → A1 → A2 → A3 → A4 → A5 → A6 → A7 → A8 → A9 → A10 → A11 → A12 → A13 → A14 → A15 → A16 → A17 → A18 → A19 → A20 → A21 → A22 → Option B} {r : B} (h : bd23 x f = some r) : ∃ a0 a1 a2 a3 a4 a5 a6 a7 a8 a9 a10 a11 a12 a13 a14 a15 a16 a17 a18 a19 a20 a21 a22, x = some (a0, a1, a2, a3, a4, a5, a6, a7, a8, a9, a10, a11, a12, a13, a14, a15, a16, a17, a18, a19, a20, a21, a22) ∧ f a0 a1 a2 a3 a4 a5 a6 a7 a8 a9 a10 a11 a12 a13 a14 a15 a16 a17 a18 a19 a20 a21 a22 = some r := by
  cases x with
  | none => cases h
  | some q => exact ⟨q.1, q.2.1, q.2.2.1, q.2.2.2.1, q.2.2.2.2.1, q.2.2.2.2.2.1, q.2.2.2.2.2.2.1, q.2.2.2.2.2.2.2.1, q.2.2.2.2.2.2.2.2.1, q.2.2.2.2.2.2.2.2.2.1, q.2.2.2.2.2.2.2.2.2.2.1, q.2.2.2.2.2.2.2.2.2.2.2.1, q.2.2.2.2.2.2.2.2.2.2.2.2.1, q.2.2.2.2.2.2.2.2.2.2.2.2.2.1, q.2.2.2.2.2.2.2.2.2.2.2.2.2.2.1, q.2.2.2.2.2.2.2.2.2.2.2.2.2.2.2.1, q.2.2.2.2.2.2.2.2.2.2.2.2.2.2.2.2.1, q.2.2.2.2.2.2.2.2.2.2.2.2.2.2.2.2.2.1, q.2.2.2.2.2.2.2.2.2.2.2.2.2.2.2.2.2.2.1, q.2.2.2.2.2.2.2.2.2.2.2.2.2.2.2.2.2.2.2.1, q.2.2.2.2.2.2.2.2.2.2.2.2.2.2.2.2.2.2.2.2.1, q.2.2.2.2.2.2.2.2.2.2.2.2.2.2.2.2.2.2.2.2.2.1, q.2.2.2.2.2.2.2.2.2.2.2.2.2.2.2.2.2.2.2.2.2.2, rfl, h⟩
def bd24 {A0 A1 A2 A3 A4 A5 A6 A7 A8 A9 A10 A11 A12 A13 A14 A15 A16 A17 A18 A19 A20 A21 A22 A23 B : Type} (x : Option (A0 × A1 × A2 × A3 × A4 × A5 × A6 × A7 × A8 × A9 × A10 × A11 × A12 × A13 × A14 × A15 × A16 × A17 × A18 × A19 × A20 × A21 × A22 × A23)) (f : A0 → A1 → A2 → A3 → A4 → A5 → A6 → A7 → A8 → A9 → A10 → A11 → A12 → A13 → A14 → A15 → A16 → A17 → A18 → A19 → A20 → A21 → A22 → A23 → Option B) : Option B := match x with
  | none => none
  | some (a0, a1, a2, a3, a4, a5, a6, a7, a8, a9, a10, a11, a12, a13, a14, a15, a16, a17, a18, a19, a20, a21, a22, a23) => f a0 a1 a2 a3 a4 a5 a6 a7 a8 a9 a10 a11 a12 a13 a14 a15 a16 a17 a18 a19 a20 a21 a22 a23
theorem bd24_some {A0 A1 A2 A3 A4 A5 A6 A7 A8 A9 A10 A11 A12 A13 A14 A15 A16 A17 A18 A19 A20 A21 A22 A23 B : Type} {x : Option (A0 × A1 × A2 × A3 × A4 × A5 × A6 × A7 × A8 × A9 × A10 × A11 × A12 × A13 × A14 × A15 × A16 × A17 × A18 × A19 × A20 × A21 × A22 × A23)} {f : A0 → A1 → A2 → A3 → A4 → A5 → A6 → A7 → A8 → A9 → A10 → A11 → A12 → A13 → A14 → A15 → A16 → A17 → A18 → A19 → A20 → A21 → A22 → A23 → Option B} {r : B} (h : bd24 x f = some r) : ∃ a0 a1 a2 a3 a4 a5 a6 a7 a8 a9 a10 a11 a12 a13 a14 a15 a16 a17 a18 a19 a20 a21 a22 a23, x = some (a0, a1, a2, a3, a4, a5, a6, a7, a8, a9, a10, a11, a12, a13, a14, a15, a16, a17, a18, a19, a20, a21, a22, a23) ∧ f a0 a1 a2 a3 a4 a5 a6 a7 a8 a9 a10 a11 a12 a13 a14 a15 a16 a17 a18 a19 a20 a21 a22 a23 = some r := by
  cases x with
  | none => cases h
  | some q => exact ⟨q.1, q.2.1, q.2.2.1, q.2.2.2.1, q.2.2.2.2.1, q.2.2.2.2.2.1, q.2.2.2.2.2.2.1, q.2.2.2.2.2.2.2.1, q.2.2.2.2.2.2.2.2.1, q.2.2.2.2.2.2.2.2.2.1, q.2.2.2.2.2.2.2.2.2.2.1, q.2.2.2.2.2.2.2.2.2.2.2.1, q.2.2.2.2.2.2.2.2.2.2.2.2.1, q.2.2.2.2.2.2.2.2.2.2.2.2.2.1, q.2.2.2.2.2.2.2.2.2.2.2.2.2.2.1, q.2.2.2.2.2.2.2.2.2.2.2.2.2.2.2.1, q.2.2.2.2.2.2.2.2.2.2.2.2.2.2.2.2.1, q.2.2.2.2.2.2.2.2.2.2.2.2.2.2.2.2.2.1, q.2.2.2.2.2.2.2.2.2.2.2.2.2.2.2.2.2.2.1, q.2.2.2.2.2.2.2.2.2.2.2.2.2.2.2.2.2.2.2.1, q.2.2.2.2.2.2.2.2.2.2.2.2.2.2.2.2.2.2.2.2.1, q.2.2.2.2.2.2.2.2.2.2.2.2.2.2.2.2.2.2.2.2.2.1, q.2.2.2.2.2.2.2.2.2.2.2.2.2.2.2.2.2.2.2.2.2.2.1, q.2.2.2.2.2.2.2.2.2.2.2.2.2.2.2.2.2.2.2.2.2.2.2, rfl, h⟩
def bd25 {A0 A1 A2 A3 A4 A5 A6 A7 A8 A9 A10 A11 A12 A13 A14 A15 A16 A17 A18 A19 A20 A21 A22 A23 A24 B : Type} (x : Option (A0 × A1 × A2 × A3 × A4 × A5 × A6 × A7 × A8 × A9 × A10 × A11 × A12 × A13 × A14 × A15 × A16 × A17 × A18 × A19 × A20 × A21 × A22 × A23 × A24)) (f : A0 → A1 → A2 → A3 → A4 → A5 → A6 → A7 → A8 → A9 → A10 → A11 → A12 → A13 → A14 → A15 → A16 → A17 → A18 → A19 → A20 → A21 → A22 → A23 → A24 → Option B) : Option B := match x with
  | none => none
  | some (a0, a1, a2, a3, a4, a5, a6, a7, a8, a9, a10, a11, a12, a13, a14, a15, a16, a17, a18, a19, a20, a21, a22, a23, a24) => f a0 a1 a2 a3 a4 a5 a6 a7 a8 a9 a10 a11 a12 a13 a14 a15 a16 a17 a18 a19 a20 a21 a22 a23 a24
theorem bd25_some {A0 A1 A2 A3 A4 A5 A6 A7 A8 A9 A10 A11 A12 A13 A14 A15 A16 A17 A18 A19 A20 A21 A22 A23 A24 B : Type} {x : Option (A0 × A1 × A2 × A3 × A4 × A5 × A6 × A7 × A8 × A9 × A10 × A11 × A12 × A13 × A14 × A15 × A16 × A17 × A18 × A19 × A20 × A21 × A22 × A23 × A24)} {f : A0 → A1 → A2 → A3 → A4 → A5 → A6 → A7 → A8 → A9 → A10 → A11 → A12 → A13 → A14 → A15 → A16 → A17 → A18 → A19 → A20 → A21 → A22 → A23 → A24 → Option B} {r : B} (h : bd25 x f = some r) : ∃ a0 a1 a2 a3 a4 a5 a6 a7 a8 a9 a10 a11 a12 a13 a14 a15 a16 a17 a18 a19 a20 a21 a22 a23 a24, x = some (a0, a1, a2, a3, a4, a5, a6, a7, a8, a9, a10, a11, a12, a13, a14, a15, a16, a17, a18, a19, a20, a21, a22, a23, a24) ∧ f a0 a1 a2 a3 a4 a5 a6 a7 a8 a9 a10 a11 a12 a13 a14 a15 a16 a17 a18 a19 a20 a21 a22 a23 a24 = some r := by
  cases x with
  | none => cases h
  | some q => exact ⟨q.1, q.2.1, q.2.2.1, q.2.2.2.1, q.2.2.2.2.1, q.2.2.2.2.2.1, q.2.2.2.2.2.2.1, q.2.2.2.2.2.2.2.1, q.2.2.2.2.2.2.2.2.1, q.2.2.2.2.2.2.2.2.2.1, q.2.2.2.2.2.2.2.2.2.2.1, q.2.2.2.2.2.2.2.2.2.2.2.1, q.2.2.2.2.2.2.2.2.2.2.2.2.1, q.2.2.2.2.2.2.2.2.2.2.2.2.2.1, q.2.2.2.2.2.2.2.2.2.2.2.2.2.2.1, q.2.2.2.2.2.2.2.2.2.2.2.2.2.2.2.1, q.2.2.2.2.2.2.2.2.2.2.2.2.2.2.2.2.1, q.2.2.2.2.2.2.2.2.2.2.2.2.2.2.2.2.2.1, q.2.2.2.2.2.2.2.2.2.2.2.2.2.2.2.2.2.2.1, q.2.2.2.2.2.2.2.2.2.2.2.2.2.2.2.2.2.2.2.1, q.2.2.2.2.2.2.2.2.2.2.2.2.2.2.2.2.2.2.2.2.1, q.2.2.2.2.2.2.2.2.2.2.2.2.2.2.2.2.2.2.2.2.2.1, q.2.2.2.2.2.2.2.2.2.2.2.2.2.2.2.2.2.2.2.2.2.2.1, q.2.2.2.2.2.2.2.2.2.2.2.2.2.2.2.2.2.2.2.2.2.2.2.1, q.2.2.2.2.2.2.2.2.2.2.2.2.2.2.2.2.2.2.2.2.2.2.2.2, rfl, h⟩
def bd26 {A0 A1 A2 A3 A4 A5 A6 A7 A8 A9 A10 A11 A12 A13 A14 A15 A16 A17 A18 A19 A20 A21 A22 A23 A24 A25 B : Type} (x : Option (A0 × A1 × A2 × A3 × A4 × A5 × A6 × A7 × A8 × A9 × A10 × A11 × A12 × A13 × A14 × A15 × A16 × A17 × A18 × A19 × A20 × A21 × A22 × A23 × A24 × A25)) (f : A0 → A1 → A2 → A3 → A4 → A5 → A6 → A7 → A8 → A9 → A10 → A11 → A12 → A13 → A14 → A15 → A16 → A17 → A18 → A19 → A20 → A21 → A22 → A23 → A24 → A25 → Option B) : Option B := match x with
  | none => none
  | some (a0, a1, a2, a3, a4, a5, a6, a7, a8, a9, a10, a11, a12, a13, a14, a15, a16, a17, a18, a19, a20, a21, a22, a23, a24, a25) => f a0 a1 a2 a3 a4 a5 a6 a7 a8 a9 a10 a11 a12 a13 a14 a15 a16 a17 a18 a19 a20 a21 a22 a23 a24 a25
theorem bd26_some {A0 A1 A2 A3 A4 A5 A6 A7 A8 A9 A10 A11 A12 A13 A14 A15 A16 A17 A18 A19 A20 A21 A22 A23 A24 A25 B : Type} {x : Option (A0 × A1 × A2 × A3 × A4 × A5 × A6 × A7 × A8 × A9 × A10 × A11 × A12 × A13 × A14 × A15 × A16 × A17 × A18 × A19 × A20 × A21 × A22 × A23 × A24 × A25)} {f : A0 → A1 → A2 → A3 → A4 → A5 → A6 → A7 → A8 → A9 → A10 → A11 → A12 → A13 → A14 → A15 → A16 → A17 → A18 → A19 → A20 → A21 → A22 → A23 → A24 → A25 → Option B} {r : B} (h : bd26 x f = some r) : ∃ a0 a1 a2 a3 a4 a5 a6 a7 a8 a9 a10 a11 a12 a13 a14 a15 a16 a17 a18 a19 a20 a21 a22 a23 a24 a25, x = some (a0, a1, a2, a3, a4, a5, a6, a7, a8, a9, a10, a11, a12, a13, a14, a15, a16, a17, a18, a19, a20, a21, a22, a23, a24, a25) ∧ f a0 a1 a2 a3 a4 a5 a6 a7 a8 a9 a10 a11 a12 a13 a14 a15 a16 a17 a18 a19 a20 a21 a22 a23 a24 a25 = some r := by
  cases x with
  | none => cases h
  | some q => exact ⟨q.1, q.2.1, q.2.2.1, q.2.2.2.1, q.2.2.2.2.1, q.2.2.2.2.2.1, q.2.2.2.2.2.2.1, q.2.2.2.2.2.2.2.1, q.2.2.2.2.2.2.2.2.1, q.2.2.2.2.2.2.2.2.2.1, q.2.2.2.2.2.2.2.2.2.2.1, q.2.2.2.2.2.2.2.2.2.2.2.1, q.2.2.2.2.2.2.2.2.2.2.2.2.1, q.2.2.2.2.2.2.2.2.2.2.2.2.2.1, q.2.2.2.2.2.2.2.2.2.2.2.2.2.2.1, q.2.2.2.2.2.2.2.2.2.2.2.2.2.2.2.1, q.2.2.2.2.2.2.2.2.2.2.2.2.2.2.2.2.1, q.2.2.2.2.2.2.2.2.2.2.2.2.2.2.2.2.2.1, q.2.2.2.2.2.2.2.2.2.2.2.2.2.2.2.2.2.2.1, q.2.2.2.2.2.2.2.2.2.2.2.2.2.2.2.2.2.2.2.1, q.2.2.2.2.2.2.2.2.2.2.2.2.2.2.2.2.2.2.2.2.1, q.2.2.2.2.2.2.2.2.2.2.2.2.2.2.2.2.2.2.2.2.2.1, q.2.2.2.2.2.2.2.2.2.2.2.2.2.2.2.2.2.2.2.2.2.2.1, q.2.2.2.2.2.2.2.2.2.2.2.2.2.2.2.2.2.2.2.2.2.2.2.1, q.2.2.2.2.2.2.2.2.2.2.2.2.2.2.2.2.2.2.2.2.2.2.2.2.1, q.2.2.2.2.2.2.2.2.2.2.2.2.2.2.2.2.2.2.2.2.2.2.2.2.2, rfl, h⟩
def bd27 {A0 A1 A2 A3 A4 A5 A6 A7 A8 A9 A10 A11 A12 A13 A14 A15 A16 A17 A18 A19 A20 A21 A22 A23 A24 A25 A26 B : Type} (x : Option (A0 × A1 × A2 × A3 × A4 × A5 × A6 × A7 × A8 × A9 × A10 × A11 × A12 × A13 × A14 × A15 × A16 × A17 × A18 × A19 × A20 × A21 × A22 × A23 × A24 × A25 × A26)) (f : A0 → A1 → A2 → A3 → A4 → A5 → A6 → A7 → A8 → A9 → A10 → A11 → A12 → A13 → A14 → A15 → A16 → A17 → A18 → A19 → A20 → A21 → A22 → A23 → A24 → A25 → A26 → Option B) : Option B := match x with
  | none => none
  | some (a0, a1, a2, a3, a4, a5, a6, a7, a8, a9, a10, a11, a12, a13, a14, a15, a16, a17, a18, a19, a20, a21, a22, a23, a24, a25, a26) => f a0 a1 a2 a3 a4 a5 a6 a7 a8 a9 a10 a11 a12 a13 a14 a15 a16 a17 a18 a19 a20 a21 a22 a23 a24 a25 a26
theorem bd27_some {A0 A1 A2 A3 A4 A5 A6 A7 A8 A9 A10 A11 A12 A13 A14 A15 A16 A17 A18 A19 A20 A21 A22 A23 A24 A25 A26 B : Type} {x : Option (A0 × A1 × A2 × A3 × A4 × A5 × A6 × A7 × A8 × A9 × A10 × A11 × A12 × A13 × A14 × A15 × A16 × A17 × A18 × A19 × A20 × A21 × A22 × A23 × A24 × A25 × A26)} {f : A0 → A1 → A2 → A3 → A4 → A5 → A6 → A7 → A8 → A9 → A10 → A11 → A12 → A13 → A14 → A15 → A16 → A17 → A18 → A19 → A20 → A21 → A22 → A23 → A24 → A25 → A26 → Option B} {r : B} (h : bd27 x f = some r) : ∃ a0 a1 a2 a3 a4 a5 a6 a7 a8 a9 a10 a11 a12 a13 a14 a15 a16 a17 a18 a19 a20 a21 a22 a23 a24 a25 a26, x = some (a0, a1, a2, a3, a4, a5, a6, a7, a8, a9, a10, a11, a12, a13, a14, a15, a16, a17, a18, a19, a20, a21, a22, a23, a24, a25, a26) ∧ f a0 a1 a2 a3 a4 a5 a6 a7 a8 a9 a10 a11 a12 a13 a14 a15 a16 a17 a18 a19 a20 a21 a22 a23 a24 a25 a26 = some r := by
  cases x with
  | none => cases h
  | some q => exact ⟨q.1, q.2.1, q.2.2.1, q.2.2.2.1, q.2.2.2.2.1, q.2.2.2.2.2.1, q.2.2.2.2.2.2.1, q.2.2.2.2.2.2.2.1, q.2.2.2.2.2.2.2.2.1, q.2.2.2.2.2.2.2.2.2.1, q.2.2.2.2.2.2.2.2.2.2.1, q.2.2.2.2.2.2.2.2.2.2.2.1, q.2.2.2.2.2.2.2.2.2.2.2.2.1, q.2.2.2.2.2.2.2.2.2.2.2.2.2.1, q.2.2.2.2.2.2.2.2.2.2.2.2.2.2.1, q.2.2.2.2.2.2.2.2.2.2.2.2.2.2.2.1, q.2.2.2.2.2.2.2.2.2.2.2.2.2.2.2.2.1, q.2.2.2.2.2.2.2.2.2.2.2.2.2.2.2.2.2.1, q.2.2.2.2.2.2.2.2.2.2.2.2.2.2.2.2.2.2.1, q.2.2.2.2.2.2.2.2.2.2.2.2.2.2.2.2.2.2.2.1, q.2.2.2.2.2.2.2.2.2.2.2.2.2.2.2.2.2.2.2.2.1, q.2.2.2.2.2.2.2.2.2.2.2.2.2.2.2.2.2.2.2.2.2.1, q.2.2.2.2.2.2.2.2.2.2.2.2.2.2.2.2.2.2.2.2.2.2.1, q.2.2.2.2.2.2.2.2.2.2.2.2.2.2.2.2.2.2.2.2.2.2.2.1, q.2.2.2.2.2.2.2.2.2.2.2.2.2.2.2.2.2.2.2.2.2.2.2.2.1, q.2.2.2.2.2.2.2.2.2.2.2.2.2.2.2.2.2.2.2.2.2.2.2.2.2.1, q.2.2.2.2.2.2.2.2.2.2.2.2.2.2.2.2.2.2.2.2.2.2.2.2.2.2, rfl, h⟩
def bd28 {A0 A1 A2 A3 A4 A5 A6 A7 A8 A9 A10 A11 A12 A13 A14 A15 A16 A17 A18 A19 A20 A21 A22 A23 A24 A25 A26 A27 B : Type} (x : Option (A0 × A1 × A2 × A3 × A4 × A5 × A6 × A7 × A8 × A9 × A10 × A11 × A12 × A13 × A14 × A15 × A16 × A17 × A18 × A19 × A20 × A21 × A22 × A23 × A24 × A25 × A26 × A27)) (f : A0 → A1 → A2 → A3 → A4 → A5 → A6 → A7 → A8 → A9 → A10 → A11 → A12 → A13 → A14 → A15 → A16 → A17 → A18 → A19 → A20 → A21 → A22 → A23 → A24 → A25 → A26 → A27 → Option B) : Option B := match x with
  | none => none
  | some (a0, a1, a2, a3, a4, a5, a6, a7, a8, a9, a10, a11, a12, a13, a14, a15, a16, a17, a18, a19, a20, a21, a22, a23, a24, a25, a26, a27) => f a0 a1 a2 a3 a4 a5 a6 a7 a8 a9 a10 a11 a12 a13 a14 a15 a16 a17 a18 a19 a20 a21 a22 a23 a24 a25 a26 a27
theorem bd28_some {A0 A1 A2 A3 A4 A5 A6 A7 A8 A9 A10 A11 A12 A13 A14 A15 A16 A17 A18 A19 A20 A21 A22 A23 A24 A25 A26 A27 B : Type} {x : Option (A0 × A1 × A2 × A3 × A4 × A5 × A6 × A7 × A8 × A9 × A10 × A11 × A12 × A13 × A14 × A15 × A16 × A17 × A18 × A19 × A20 × A21 × A22 × A23 × A24 × A25 × A26 × A27)} {f : A0 → A1 → A2 → A3 → A4 → A5 → A6 → A7 → A8 → A9 → A10 → A11 → A12 → A13 → A14 → A15 → A16 → A17 → A18 → A19 → A20 → A21 → A22 → A23 → A24 → A25 → A26 → A27 → Option B} {r : B} (h : bd28 x f = some r) : ∃ a0 a1 a2 a3 a4 a5 a6 a7 a8 a9 a10 a11 a12 a13 a14 a15 a16 a17 a18 a19 a20 a21 a22 a23 a24 a25 a26 a27, x = some (a0, a1, a2, a3, a4, a5, a6, a7, a8, a9, a10, a11, a12, a13, a14, a15, a16, a17, a18, a19, a20, a21, a22, a23, a24, a25, a26, a27) ∧ f a0 a1 a2 a3 a4 a5 a6 a7 a8 a9 a10 a11 a12 a13 a14 a15 a16 a17 a18 a19 a20 a21 a22 a23 a24 a25 a26 a27 = some r := by
  cases x with
  | none => cases h
  | some q => exact ⟨q.1, q.2.1, q.2.2.1, q.2.2.2.1, q.2.2.2.2.1, q.2.2.2.2.2.1, q.2.2.2.2.2.2.1, q.2.2.2.2.2.2.2.1, q.2.2.2.2.2.2.2.2.1, q.2.2.2.2.2.2.2.2.2.1, q.2.2.2.2.2.2.2.2.2.2.1, q.2.2.2.2.2.2.2.2.2.2.2.1, q.2.2.2.2.2.2.2.2.2.2.2.2.1, q.2.2.2.2.2.2.2.2.2.2.2.2.2.1, q.2.2.2.2.2.2.2.2.2.2.2.2.2.2.1, q.2.2.2.2.2.2.2.2.2.2.2.2.2.2.2.1, q.2.2.2.2.2.2.2.2.2.2.2.2.2.2.2.2.1, q.2.2.2.2.2.2.2.2.2.2.2.2.2.2.2.2.2.1, q.2.2.2.2.2.2.2.2.2.2.2.2.2.2.2.2.2.2.1, q.2.2.2.2.2.2.2.2.2.2.2.2.2.2.2.2.2.2.2.1, q.2.2.2.2.2.2.2.2.2.2.2.2.2.2.2.2.2.2.2.2.1, q.2.2.2.2.2.2.2.2.2.2.2.2.2.2.2.2.2.2.2.2.2.1, q.2.2.2.2.2.2.2.2.2.2.2.2.2.2.2.2.2.2.2.2.2.2.1, q.2.2.2.2.2.2.2.2.2.2.2.2.2.2.2.2.2.2.2.2.2.2.2.1, q.2.2.2.2.2.2.2.2.2.2.2.2.2.2.2.2.2.2.2.2.2.2.2.2.1, q.2.2.2.2.2.2.2.2.2.2.2.2.2.2.2.2.2.2.2.2.2.2.2.2.2.1, q.2.2.2.2.2.2.2.2.2.2.2.2.2.2.2.2.2.2.2.2.2.2.2.2.2.2.1, q.2.2.2.2.2.2.2.2.2.2.2.2.2.2.2.2.2.2.2.2.2.2.2.2.2.2.2, rfl, h⟩
def bd29 {A0 A1 A2 A3 A4 A5 A6 A7 A8 A9 A10 A11 A12 A13 A14 A15 A16 A17 A18 A19 A20 A21 A22 A23 A24 A25 A26 A27 A28 B : Type} (x : Option (A0 × A1 × A2 × A3 × A4 × A5 × A6 × A7 × A8 × A9 × A10 × A11 × A12 × A13 × A14 × A15 × A16 × A17 × A18 × A19 × A20 × A21 × A22 × A23 × A24 × A25 × A26 × A27 × A28)) (f : A0 → A1 → A2 → A3 → A4 → A5 → A6 → A7 → A8 → A9 → A10 → A11 → A12 → A13 → A14 → A15 → A16 → A17 → A18 → A19 → A20 → A21 → A22 → A23 → A24 → A25 → A26 → A27 → A28 → Option B) : Option B := match x with
  | none => none
  | some (a0, a1, a2, a3, a4, a5, a6, a7, a8, a9, a10, a11, a12, a13, a14, a15, a16, a17, a18, a19, a20, a21, a22, a23, a24, a25, a26, a27, a28) => f a0 a1 a2 a3 a4 a5 a6 a7 a8 a9 a10 a11 a12 a13 a14 a15 a16 a17 a18 a19 a20 a21 a22 a23 a24 a25 a26 a27 a28
theorem bd29_some {A0 A1 A2 A3 A4 A5 A6 A7 A8 A9 A10 A11 A12 A13 A14 A15 A16 A17 A18 A19 A20 A21 A22 A23 A24 A25 A26 A27 A28 B : Type} {x : Option (A0 × A1 × A2 × A3 × A4 × A5 × A6 × A7 × A8 × A9 × A10 × A11 × A12 × A13 × A14 × A15 × A16 × A17 × A18 × A19 × A20 × A21 × A22 × A23 × A24 × A25 × A26 × A27 × A28)} {f : A0 → A1 → A2 → A3 → A4 → A5 → A6 → A7 → A8 → A9 → A10 → A11 → A12 → A13 → A14 → A15 → A16 → A17 → A18 → A19 → A20 → A21 → A22 → A23 → A24 → A25 → A26 → A27 → A28 → Option B} {r : B} (h : bd29 x f = some r) : ∃ a0 a1 a2 a3 a4 a5 a6 a7 a8 a9 a10 a11 a12 a13 a14 a15 a16 a17 a18 a19 a20 a21 a22 a23 a24 a25 a26 a27 a28, x = some (a0, a1, a2, a3, a4, a5, a6, a7, a8, a9, a10, a11, a12, a13, a14, a15, a16, a17, a18, a19, a20, a21, a22, a23, a24, a25, a26, a27, a28) ∧ f a0 a1 a2 a3 a4 a5 a6 a7 a8 a9 a10 a11 a12 a13 a14 a15 a16 a17 a18 a19 a20 a21 a22 a23 a24 a25 a26 a27 a28 = some r := by
  cases x with
  | none => cases h
  | some q => exact ⟨q.1, q.2.1, q.2.2.1, q.2.2.2.1, q.2.2.2.2.1, q.2.2.2.2.2.1, q.2.2.2.2.2.2.1, q.2.2.2.2.2.2.2.1, q.2.2.2.2.2.2.2.2.1, q.2.2.2.2.2.2.2.2.2.1, q.2.2.2.2.2.2.2.2.2.2.1, q.2.2.2.2.2.2.2.2.2.2.2.1, q.2.2.2.2.2.2.2.2.2.2.2.2.1, q.2.2.2.2.2.2.2.2.2.2.2.2.2.1, q.2.2.2.2.2.2.2.2.2.2.2.2.2.2.1, q.2.2.2.2.2.2.2.2.2.2.2.2.2.2.2.1, q.2.2.2.2.2.2.2.2.2.2.2.2.2.2.2.2.1, q.2.2.2.2.2.2.2.2.2.2.2.2.2.2.2.2.2.1, q.2.2.2.2.2.2.2.2.2.2.2.2.2.2.2.2.2.2.1, q.2.2.2.2.2.2.2.2.2.2.2.2.2.2.2.2.2.2.2.1, q.2.2.2.2.2.2.2.2.2.2.2.2.2.2.2.2.2.2.2.2.1, q.2.2.2.2.2.2.2.2.2.2.2.2.2.2.2.2.2.2.2.2.2.1, q.2.2.2.2.2.2.2.2.2.2.2.2.2.2.2.2.2.2.2.2.2.2.1, q.2.2.2.2.2.2.2.2.2.2.2.2.2.2.2.2.2.2.2.2.2.2.2.1, q.2.2.2.2.2.2.2.2.2.2.2.2.2.2.2.2.2.2.2.2.2.2.2.2.1, q.2.2.2.2.2.2.2.2.2.2.2.2.2.2.2.2.2.2.2.2.2.2.2.2.2.1, q.2.2.2.2.2.2.2.2.2.2.2.2.2.2.2.2.2.2.2.2.2.2.2.2.2.2.1, q.2.2.2.2.2.2.2.2.2.2.2.2.2.2.2.2.2.2.2.2.2.2.2.2.2.2.2.1, q.2.2.2.2.2.2.2.2.2.2.2.2.2.2.2.2.2.2.2.2.2.2.2.2.2.2.2.2, rfl, h⟩
def bd30 {A0 A1 A2 A3 A4 A5 A6 A7 A8 A9 A10 A11 A12 A13 A14 A15 A16 A17 A18 A19 A20 A21 A22 A23 A24 A25 A26 A27 A28 A29 B : Type} (x : Option (A0 × A1 × A2 × A3 × A4 × A5 × A6 × A7 × A8 × A9 × A10 × A11 × A12 × A13 × A14 × A15 × A16 × A17 × A18 × A19 × A20 × A21 × A22 × A23 × A24 × A25 × A26 × A27 × A28 × A29)) (f : A0 → A1 → A2 → A3 → A4 → A5 → A6 → A7 → A8 → A9 → A10 → A11 → A12 → A13 → A14 → A15 → A16 → A17 → A18 → A19 → A20 → A21 → A22 → A23 → A24 → A25 → A26 → A27 → A28 → A29 → Option B) : Option B := match x with
  | none => none
  | some (a0, a1, a2, a3, a4, a5, a6, a7, a8, a9, a10, a11, a12, a13, a14, a15, a16, a17, a18, a19, a20, a21, a22, a23, a24, a25, a26, a27, a28, a29) => f a0 a1 a2 a3 a4 a5 a6 a7 a8 a9 a10 a11 a12 a13 a14 a15 a16 a17 a18 a19 a20 a21 a22 a23 a24 a25 a26 a27 a28 a29
theorem bd30_some {A0 A1 A2 A3 A4 A5 A6 A7 A8 A9 A10 A11 A12 A13 A14 A15 A16 A17 A18 A19 A20 A21 A22 A23 A24 A25 A26 A27 A28 A29 B : Type} {x : Option (A0 × A1 × A2 × A3 × A4 × A5 × A6 × A7 × A8 × A9 × A10 × A11 × A12 × A13 × A14 × A15 × A16 × A17 × A18 × A19 × A20 × A21 × A22 × A23 × A24 × A25 × A26 × A27 × A28 × A29)} {f : A0 → A1 → A2 → A3 → A4 → A5 → A6 → A7 → A8 → A9 → A10 → A11 → A12 → A13 → A14 → A15 → A16 → A17 → A18 → A19 → A20 → A21 → A22 → A23 → A24 → A25 → A26 → A27 → A28 → A29 → Option B} {r : B} (h : bd30 x f = some r) : ∃ a0 a1 a2 a3 a4 a5 a6 a7 a8 a9 a10 a11 a12 a13 a14 a15 a16 a17 a18 a19 a20 a21 a22 a23 a24 a25 a26 a27 a28 a29, x = some (a0, a1, a2, a3, a4, a5, a6, a7, a8, a9, a10, a11, a12, a13, a14, a15, a16, a17, a18, a19, a20, a21, a22, a23, a24, a25, a26, a27, a28, a29) ∧ f a0 a1 a2 a3 a4 a5 a6 a7 a8 a9 a10 a11 a12 a13 a14 a15 a16 a17 a18 a19 a20 a21 a22 a23 a24 a25 a26 a27 a28 a29 = some r := by
  cases x with
  | none => cases h
  | some q => exact ⟨q.1, q.2.1, q.2.2.1, q.2.2.2.1, q.2.2.2.2.1, q.2.2.2.2.2.1, q.2.2.2.2.2.2.1, q.2.2.2.2.2.2.2.1, q.2.2.2.2.2.2.2.2.1, q.2.2.2.2.2.2.2.2.2.1, q.2.2.2.2.2.2.2.2.2.2.1, q.2.2.2.2.2.2.2.2.2.2.2.1, q.2.2.2.2.2.2.2.2.2.2.2.2.1, q.2.2.2.2.2.2.2.2.2.2.2.2.2.1, q.2.2.2.2.2.2.2.2.2.2.2.2.2.2.1, q.2.2.2.2.2.2.2.2.2.2.2.2.2.2.2.1, q.2.2.2.2.2.2.2.2.2.2.2.2.2.2.2.2.1, q.2.2.2.2.2.2.2.2.2.2.2.2.2.2.2.2.2.1, q.2.2.2.2.2.2.2.2.2.2.2.2.2.2.2.2.2.2.1, q.2.2.2.2.2.2.2.2.2.2.2.2.2.2.2.2.2.2.2.1, q.2.2.2.2.2.2.2.2.2.2.2.2.2.2.2.2.2.2.2.2.1, q.2.2.2.2.2.2.2.2.2.2.2.2.2.2.2.2.2.2.2.2.2.1, q.2.2.2.2.2.2.2.2.2.2.2.2.2.2.2.2.2.2.2.2.2.2.1, q.2.2.2.2.2.2.2.2.2.2.2.2.2.2.2.2.2.2.2.2.2.2.2.1, q.2.2.2.2.2.2.2.2.2.2.2.2.2.2.2.2.2.2.2.2.2.2.2.2.1, q.2.2.2.2.2.2.2.2.2.2.2.2.2.2.2.2.2.2.2.2.2.2.2.2.2.1, q.2.2.2.2.2.2.2.2.2.2.2.2.2.2.2.2.2.2.2.2.2.2.2.2.2.2.1, q.2.2.2.2.2.2.2.2.2.2.2.2.2.2.2.2.2.2.2.2.2.2.2.2.2.2.2.1, q.2.2.2.2.2.2.2.2.2.2.2.2.2.2.2.2.2.2.2.2.2.2.2.2.2.2.2.2.1, q.2.2.2.2.2.2.2.2.2.2.2.2.2.2.2.2.2.2.2.2.2.2.2.2.2.2.2.2.2, rfl, h⟩
def it1 {A0 B : Type} (b : (A0 → Option B) → A0 → Option B) : Nat → A0 → Option B
  | 0, _ => none
  | n + 1, a0 => b (it1 b n) a0
theorem it1_z {A0 B : Type} {b : (A0 → Option B) → A0 → Option B} {a0} {r : B} (h : it1 b 0 a0 = some r) : False := by cases h
def it2 {A0 A1 B : Type} (b : (A0 → A1 → Option B) → A0 → A1 → Option B) : Nat → A0 → A1 → Option B
  | 0, _, _ => none
  | n + 1, a0, a1 => b (it2 b n) a0 a1
theorem it2_z {A0 A1 B : Type} {b : (A0 → A1 → Option B) → A0 → A1 → Option B} {a0 a1} {r : B} (h : it2 b 0 a0 a1 = some r) : False := by cases h
def it3 {A0 A1 A2 B : Type} (b : (A0 → A1 → A2 → Option B) → A0 → A1 → A2 → Option B) : Nat → A0 → A1 → A2 → Option B
  | 0, _, _, _ => none
  | n + 1, a0, a1, a2 => b (it3 b n) a0 a1 a2
theorem it3_z {A0 A1 A2 B : Type} {b : (A0 → A1 → A2 → Option B) → A0 → A1 → A2 → Option B} {a0 a1 a2} {r : B} (h : it3 b 0 a0 a1 a2 = some r) : False := by cases h
def it4 {A0 A1 A2 A3 B : Type} (b : (A0 → A1 → A2 → A3 → Option B) → A0 → A1 → A2 → A3 → Option B) : Nat → A0 → A1 → A2 → A3 → Option B
  | 0, _, _, _, _ => none
  | n + 1, a0, a1, a2, a3 => b (it4 b n) a0 a1 a2 a3
theorem it4_z {A0 A1 A2 A3 B : Type} {b : (A0 → A1 → A2 → A3 → Option B) → A0 → A1 → A2 → A3 → Option B} {a0 a1 a2 a3} {r : B} (h : it4 b 0 a0 a1 a2 a3 = some r) : False := by cases h
def it5 {A0 A1 A2 A3 A4 B : Type} (b : (A0 → A1 → A2 → A3 → A4 → Option B) → A0 → A1 → A2 → A3 → A4 → Option B) : Nat → A0 → A1 → A2 → A3 → A4 → Option B
  | 0, _, _, _, _, _ => none
  | n + 1, a0, a1, a2, a3, a4 => b (it5 b n) a0 a1 a2 a3 a4
theorem it5_z {A0 A1 A2 A3 A4 B : Type} {b : (A0 → A1 → A2 → A3 → A4 → Option B) → A0 → A1 → A2 → A3 → A4 → Option B} {a0 a1 a2 a3 a4} {r : B} (h : it5 b 0 a0 a1 a2 a3 a4 = some r) : False := by cases h
def it6 {A0 A1 A2 A3 A4 A5 B : Type} (b : (A0 → A1 → A2 → A3 → A4 → A5 → Option B) → A0 → A1 → A2 → A3 → A4 → A5 → Option B) : Nat → A0 → A1 → A2 → A3 → A4 → A5 → Option B
  | 0, _, _, _, _, _, _ => none
  | n + 1, a0, a1, a2, a3, a4, a5 => b (it6 b n) a0 a1 a2 a3 a4 a5
theorem it6_z {A0 A1 A2 A3 A4 A5 B : Type} {b : (A0 → A1 → A2 → A3 → A4 → A5 → Option B) → A0 → A1 → A2 → A3 → A4 → A5 → Option B} {a0 a1 a2 a3 a4 a5} {r : B} (h : it6 b 0 a0 a1 a2 a3 a4 a5 = some r) : False := by cases h
def it7 {A0 A1 A2 A3 A4 A5 A6 B : Type} (b : (A0 → A1 → A2 → A3 → A4 → A5 → A6 → Option B) → A0 → A1 → A2 → A3 → A4 → A5 → A6 → Option B) : Nat → A0 → A1 → A2 → A3 → A4 → A5 → A6 → Option B
  | 0, _, _, _, _, _, _, _ => none
  | n + 1, a0, a1, a2, a3, a4, a5, a6 => b (it7 b n) a0 a1 a2 a3 a4 a5 a6
theorem it7_z {A0 A1 A2 A3 A4 A5 A6 B : Type} {b : (A0 → A1 → A2 → A3 → A4 → A5 → A6 → Option B) → A0 → A1 → A2 → A3 → A4 → A5 → A6 → Option B} {a0 a1 a2 a3 a4 a5 a6} {r : B} (h : it7 b 0 a0 a1 a2 a3 a4 a5 a6 = some r) : False := by cases h
def it8 {A0 A1 A2 A3 A4 A5 A6 A7 B : Type} (b : (A0 → A1 → A2 → A3 → A4 → A5 → A6 → A7 → Option B) → A0 → A1 → A2 → A3 → A4 → A5 → A6 → A7 → Option B) : Nat → A0 → A1 → A2 → A3 → A4 → A5 → A6 → A7 → Option B
  | 0, _, _, _, _, _, _, _, _ => none
  | n + 1, a0, a1, a2, a3, a4, a5, a6, a7 => b (it8 b n) a0 a1 a2 a3 a4 a5 a6 a7
theorem it8_z {A0 A1 A2 A3 A4 A5 A6 A7 B : Type} {b : (A0 → A1 → A2 → A3 → A4 → A5 → A6 → A7 → Option B) → A0 → A1 → A2 → A3 → A4 → A5 → A6 → A7 → Option B} {a0 a1 a2 a3 a4 a5 a6 a7} {r : B} (h : it8 b 0 a0 a1 a2 a3 a4 a5 a6 a7 = some r) : False := by cases h
def it9 {A0 A1 A2 A3 A4 A5 A6 A7 A8 B : Type} (b : (A0 → A1 → A2 → A3 → A4 → A5 → A6 → A7 → A8 → Option B) → A0 → A1 → A2 → A3 → A4 → A5 → A6 → A7 → A8 → Option B) : Nat → A0 → A1 → A2 → A3 → A4 → A5 → A6 → A7 → A8 → Option B
  | 0, _, _, _, _, _, _, _, _, _ => none
  | n + 1, a0, a1, a2, a3, a4, a5, a6, a7, a8 => b (it9 b n) a0 a1 a2 a3 a4 a5 a6 a7 a8
theorem it9_z {A0 A1 A2 A3 A4 A5 A6 A7 A8 B : Type} {b : (A0 → A1 → A2 → A3 → A4 → A5 → A6 → A7 → A8 → Option B) → A0 → A1 → A2 → A3 → A4 → A5 → A6 → A7 → A8 → Option B} {a0 a1 a2 a3 a4 a5 a6 a7 a8} {r : B} (h : it9 b 0 a0 a1 a2 a3 a4 a5 a6 a7 a8 = some r) : False := by cases h
def it10 {A0 A1 A2 A3 A4 A5 A6 A7 A8 A9 B : Type} (b : (A0 → A1 → A2 → A3 → A4 → A5 → A6 → A7 → A8 → A9 → Option B) → A0 → A1 → A2 → A3 → A4 → A5 → A6 → A7 → A8 → A9 → Option B) : Nat → A0 → A1 → A2 → A3 → A4 → A5 → A6 → A7 → A8 → A9 → Option B
  | 0, _, _, _, _, _, _, _, _, _, _ => none
  | n + 1, a0, a1, a2, a3, a4, a5, a6, a7, a8, a9 => b (it10 b n) a0 a1 a2 a3 a4 a5 a6 a7 a8 a9
theorem it10_z {A0 A1 A2 A3 A4 A5 A6 A7 A8 A9 B : Type} {b : (A0 → A1 → A2 → A3 → A4 → A5 → A6 → A7 → A8 → A9 → Option B) → A0 → A1 → A2 → A3 → A4 → A5 → A6 → A7 → A8 → A9 → Option B} {a0 a1 a2 a3 a4 a5 a6 a7 a8 a9} {r : B} (h : it10 b 0 a0 a1 a2 a3 a4 a5 a6 a7 a8 a9 = some r) : False := by cases h
def it11 {A0 A1 A2 A3 A4 A5 A6 A7 A8 A9 A10 B : Type} (b : (A0 → A1 → A2 → A3 → A4 → A5 → A6 → A7 → A8 → A9 → A10 → Option B) → A0 → A1 → A2 → A3 → A4 → A5 → A6 → A7 → A8 → A9 → A10 → Option B) : Nat → A0 → A1 → A2 → A3 → A4 → A5 → A6 → A7 → A8 → A9 → A10 → Option B
  | 0, _, _, _, _, _, _, _, _, _, _, _ => none
  | n + 1, a0, a1, a2, a3, a4, a5, a6, a7, a8, a9, a10 => b (it11 b n) a0 a1 a2 a3 a4 a5 a6 a7 a8 a9 a10
theorem it11_z {A0 A1 A2 A3 A4 A5 A6 A7 A8 A9 A10 B : Type} {b : (A0 → A1 → A2 → A3 → A4 → A5 → A6 → A7 → A8 → A9 → A10 → Option B) → A0 → A1 → A2 → A3 → A4 → A5 → A6 → A7 → A8 → A9 → A10 → Option B} {a0 a1 a2 a3 a4 a5 a6 a7 a8 a9 a10} {r : B} (h : it11 b 0 a0 a1 a2 a3 a4 a5 a6 a7 a8 a9 a10 = some r) : False := by cases h
def it12 {A0 A1 A2 A3 A4 A5 A6 A7 A8 A9 A10 A11 B : Type} (b : (A0 → A1 → A2 → A3 → A4 → A5 → A6 → A7 → A8 → A9 → A10 → A11 → Option B) → A0 → A1 → A2 → A3 → A4 → A5 → A6 → A7 → A8 → A9 → A10 → A11 → Option B) : Nat → A0 → A1 → A2 → A3 → A4 → A5 → A6 → A7 → A8 → A9 → A10 → A11 → Option B
  | 0, _, _, _, _, _, _, _, _, _, _, _, _ => none
  | n + 1, a0, a1, a2, a3, a4, a5, a6, a7, a8, a9, a10, a11 => b (it12 b n) a0 a1 a2 a3 a4 a5 a6 a7 a8 a9 a10 a11
theorem it12_z {A0 A1 A2 A3 A4 A5 A6 A7 A8 A9 A10 A11 B : Type} {b : (A0 → A1 → A2 → A3 → A4 → A5 → A6 → A7 → A8 → A9 → A10 → A11 → Option B) → A0 → A1 → A2 → A3 → A4 → A5 → A6 → A7 → A8 → A9 → A10 → A11 → Option B} {a0 a1 a2 a3 a4 a5 a6 a7 a8 a9 a10 a11} {r : B} (h : it12 b 0 a0 a1 a2 a3 a4 a5 a6 a7 a8 a9 a10 a11 = some r) : False := by cases h
theorem tsw_out {x : Int32} {hi : Nat} (hx : ∀ k : Nat, k ≤ hi → ¬ x = nI k) (hh : hi < 2 ^ 31 := by decide) : x.toInt < 0 ∨ (hi : Int) < x.toInt := by
  rcases Classical.em (x.toInt < 0) with h | h
  · exact Or.inl h
  · right
    apply Classical.byContradiction
    intro z
    have h1 : x.toInt.toNat ≤ hi := by omega
    apply hx x.toInt.toNat h1
    apply Int32.toInt_inj.mp
    rw [nI_toInt (by omega)]
    omega
def it13 {A0 A1 A2 A3 A4 A5 A6 A7 A8 A9 A10 A11 A12 B : Type} (b : (A0 → A1 → A2 → A3 → A4 → A5 → A6 → A7 → A8 → A9 → A10 → A11 → A12 → Option B) → A0 → A1 → A2 → A3 → A4 → A5 → A6 → A7 → A8 → A9 → A10 → A11 → A12 → Option B) : Nat → A0 → A1 → A2 → A3 → A4 → A5 → A6 → A7 → A8 → A9 → A10 → A11 → A12 → Option B
  | 0, _, _, _, _, _, _, _, _, _, _, _, _, _ => none
  | n + 1, a0, a1, a2, a3, a4, a5, a6, a7, a8, a9, a10, a11, a12 => b (it13 b n) a0 a1 a2 a3 a4 a5 a6 a7 a8 a9 a10 a11 a12
theorem it13_z {A0 A1 A2 A3 A4 A5 A6 A7 A8 A9 A10 A11 A12 B : Type} {b : (A0 → A1 → A2 → A3 → A4 → A5 → A6 → A7 → A8 → A9 → A10 → A11 → A12 → Option B) → A0 → A1 → A2 → A3 → A4 → A5 → A6 → A7 → A8 → A9 → A10 → A11 → A12 → Option B} {a0 a1 a2 a3 a4 a5 a6 a7 a8 a9 a10 a11 a12} {r : B} (h : it13 b 0 a0 a1 a2 a3 a4 a5 a6 a7 a8 a9 a10 a11 a12 = some r) : False := by cases h
def it14 {A0 A1 A2 A3 A4 A5 A6 A7 A8 A9 A10 A11 A12 A13 B : Type} (b : (A0 → A1 → A2 → A3 → A4 → A5 → A6 → A7 → A8 → A9 → A10 → A11 → A12 → A13 → Option B) → A0 → A1 → A2 → A3 → A4 → A5 → A6 → A7 → A8 → A9 → A10 → A11 → A12 → A13 → Option B) : Nat → A0 → A1 → A2 → A3 → A4 → A5 → A6 → A7 → A8 → A9 → A10 → A11 → A12 → A13 → Option B
  | 0, _, _, _, _, _, _, _, _, _, _, _, _, _, _ => none
  | n + 1, a0, a1, a2, a3, a4, a5, a6, a7, a8, a9, a10, a11, a12, a13 => b (it14 b n) a0 a1 a2 a3 a4 a5 a6 a7 a8 a9 a10 a11 a12 a13
theorem it14_z {A0 A1 A2 A3 A4 A5 A6 A7 A8 A9 A10 A11 A12 A13 B : Type} {b : (A0 → A1 → A2 → A3 → A4 → A5 → A6 → A7 → A8 → A9 → A10 → A11 → A12 → A13 → Option B) → A0 → A1 → A2 → A3 → A4 → A5 → A6 → A7 → A8 → A9 → A10 → A11 → A12 → A13 → Option B} {a0 a1 a2 a3 a4 a5 a6 a7 a8 a9 a10 a11 a12 a13} {r : B} (h : it14 b 0 a0 a1 a2 a3 a4 a5 a6 a7 a8 a9 a10 a11 a12 a13 = some r) : False := by cases h
def it15 {A0 A1 A2 A3 A4 A5 A6 A7 A8 A9 A10 A11 A12 A13 A14 B : Type} (b : (A0 → A1 → A2 → A3 → A4 → A5 → A6 → A7 → A8 → A9 → A10 → A11 → A12 → A13 → A14 → Option B) → A0 → A1 → A2 → A3 → A4 → A5 → A6 → A7 → A8 → A9 → A10 → A11 → A12 → A13 → A14 → Option B) : Nat → A0 → A1 → A2 → A3 → A4 → A5 → A6 → A7 → A8 → A9 → A10 → A11 → A12 → A13 → A14 → Option B
  | 0, _, _, _, _, _, _, _, _, _, _, _, _, _, _, _ => none
  | n + 1, a0, a1, a2, a3, a4, a5, a6, a7, a8, a9, a10, a11, a12, a13, a14 => b (it15 b n) a0 a1 a2 a3 a4 a5 a6 a7 a8 a9 a10 a11 a12 a13 a14
theorem it15_z {A0 A1 A2 A3 A4 A5 A6 A7 A8 A9 A10 A11 A12 A13 A14 B : Type} {b : (A0 → A1 → A2 → A3 → A4 → A5 → A6 → A7 → A8 → A9 → A10 → A11 → A12 → A13 → A14 → Option B) → A0 → A1 → A2 → A3 → A4 → A5 → A6 → A7 → A8 → A9 → A10 → A11 → A12 → A13 → A14 → Option B} {a0 a1 a2 a3 a4 a5 a6 a7 a8 a9 a10 a11 a12 a13 a14} {r : B} (h : it15 b 0 a0 a1 a2 a3 a4 a5 a6 a7 a8 a9 a10 a11 a12 a13 a14 = some r) : False := by cases h
def it16 {A0 A1 A2 A3 A4 A5 A6 A7 A8 A9 A10 A11 A12 A13 A14 A15 B : Type} (b : (A0 → A1 → A2 → A3 → A4 → A5 → A6 → A7 → A8 → A9 → A10 → A11 → A12 → A13 → A14 → A15 → Option B) → A0 → A1 → A2 → A3 → A4 → A5 → A6 → A7 → A8 → A9 → A10 → A11 → A12 → A13 → A14 → A15 → Option B) : Nat → A0 → A1 → A2 → A3 → A4 → A5 → A6 → A7 → A8 → A9 → A10 → A11 → A12 → A13 → A14 → A15 → Option B
  | 0, _, _, _, _, _, _, _, _, _, _, _, _, _, _, _, _ => none
  | n + 1, a0, a1, a2, a3, a4, a5, a6, a7, a8, a9, a10, a11, a12, a13, a14, a15 => b (it16 b n) a0 a1 a2 a3 a4 a5 a6 a7 a8 a9 a10 a11 a12 a13 a14 a15
theorem it16_z {A0 A1 A2 A3 A4 A5 A6 A7 A8 A9 A10 A11 A12 A13 A14 A15 B : Type} {b : (A0 → A1 → A2 → A3 → A4 → A5 → A6 → A7 → A8 → A9 → A10 → A11 → A12 → A13 → A14 → A15 → Option B) → A0 → A1 → A2 → A3 → A4 → A5 → A6 → A7 → A8 → A9 → A10 → A11 → A12 → A13 → A14 → A15 → Option B} {a0 a1 a2 a3 a4 a5 a6 a7 a8 a9 a10 a11 a12 a13 a14 a15} {r : B} (h : it16 b 0 a0 a1 a2 a3 a4 a5 a6 a7 a8 a9 a10 a11 a12 a13 a14 a15 = some r) : False := by cases h
def it17 {A0 A1 A2 A3 A4 A5 A6 A7 A8 A9 A10 A11 A12 A13 A14 A15 A16 B : Type} (b : (A0 → A1 → A2 → A3 → A4 → A5 → A6 → A7 → A8 → A9 → A10 → A11 → A12 → A13 → A14 → A15 → A16 → Option B) → A0 → A1 → A2 → A3 → A4 → A5 → A6 → A7 → A8 → A9 → A10 → A11 → A12 → A13 → A14 → A15 → A16 → Option B) : Nat → A0 → A1 → A2 → A3 → A4 → A5 → A6 → A7 → A8 → A9 → A10 → A11 → A12 → A13 → A14 → A15 → A16 → Option B
  | 0, _, _, _, _, _, _, _, _, _, _, _, _, _, _, _, _, _ => none
  | n + 1, a0, a1, a2, a3, a4, a5, a6, a7, a8, a9, a10, a11, a12, a13, a14, a15, a16 => b (it17 b n) a0 a1 a2 a3 a4 a5 a6 a7 a8 a9 a10 a11 a12 a13 a14 a15 a16
theorem it17_z {A0 A1 A2 A3 A4 A5 A6 A7 A8 A9 A10 A11 A12 A13 A14 A15 A16 B : Type} {b : (A0 → A1 → A2 → A3 → A4 → A5 → A6 → A7 → A8 → A9 → A10 → A11 → A12 → A13 → A14 → A15 → A16 → Option B) → A0 → A1 → A2 → A3 → A4 → A5 → A6 → A7 → A8 → A9 → A10 → A11 → A12 → A13 → A14 → A15 → A16 → Option B} {a0 a1 a2 a3 a4 a5 a6 a7 a8 a9 a10 a11 a12 a13 a14 a15 a16} {r : B} (h : it17 b 0 a0 a1 a2 a3 a4 a5 a6 a7 a8 a9 a10 a11 a12 a13 a14 a15 a16 = some r) : False := by cases h
def it18 {A0 A1 A2 A3 A4 A5 A6 A7 A8 A9 A10 A11 A12 A13 A14 A15 A16 A17 B : Type} (b : (A0 → A1 → A2 → A3 → A4 → A5 → A6 → A7 → A8 → A9 → A10 → A11 → A12 → A13 → A14 → A15 → A16 → A17 → Option B) → A0 → A1 → A2 → A3 → A4 → A5 → A6 → A7 → A8 → A9 → A10 → A11 → A12 → A13 → A14 → A15 → A16 → A17 → Option B) : Nat → A0 → A1 → A2 → A3 → A4 → A5 → A6 → A7 → A8 → A9 → A10 → A11 → A12 → A13 → A14 → A15 → A16 → A17 → Option B
  | 0, _, _, _, _, _, _, _, _, _, _, _, _, _, _, _, _, _, _ => none
  | n + 1, a0, a1, a2, a3, a4, a5, a6, a7, a8, a9, a10, a11, a12, a13, a14, a15, a16, a17 => b (it18 b n) a0 a1 a2 a3 a4 a5 a6 a7 a8 a9 a10 a11 a12 a13 a14 a15 a16 a17
theorem it18_z {A0 A1 A2 A3 A4 A5 A6 A7 A8 A9 A10 A11 A12 A13 A14 A15 A16 A17 B : Type} {b : (A0 → A1 → A2 → A3 → A4 → A5 → A6 → A7 → A8 → A9 → A10 → A11 → A12 → A13 → A14 → A15 → A16 → A17 → Option B) → A0 → A1 → A2 → A3 → A4 → A5 → A6 → A7 → A8 → A9 → A10 → A11 → A12 → A13 → A14 → A15 → A16 → A17 → Option B} {a0 a1 a2 a3 a4 a5 a6 a7 a8 a9 a10 a11 a12 a13 a14 a15 a16 a17} {r : B} (h : it18 b 0 a0 a1 a2 a3 a4 a5 a6 a7 a8 a9 a10 a11 a12 a13 a14 a15 a16 a17 = some r) : False := by cases h
def it19 {A0 A1 A2 A3 A4 A5 A6 A7 A8 A9 A10 A11 A12 A13 A14 A15 A16 A17 A18 B : Type} (b : (A0 → A1 → A2 → A3 → A4 → A5 → A6 → A7 → A8 → A9 → A10 → A11 → A12 → A13 → A14 → A15 → A16 → A17 → A18 → Option B) → A0 → A1 → A2 → A3 → A4 → A5 → A6 → A7 → A8 → A9 → A10 → A11 → A12 → A13 → A14 → A15 → A16 → A17 → A18 → Option B) : Nat → A0 → A1 → A2 → A3 → A4 → A5 → A6 → A7 → A8 → A9 → A10 → A11 → A12 → A13 → A14 → A15 → A16 → A17 → A18 → Option B
  | 0, _, _, _, _, _, _, _, _, _, _, _, _, _, _, _, _, _, _, _ => none
  | n + 1, a0, a1, a2, a3, a4, a5, a6, a7, a8, a9, a10, a11, a12, a13, a14, a15, a16, a17, a18 => b (it19 b n) a0 a1 a2 a3 a4 a5 a6 a7 a8 a9 a10 a11 a12 a13 a14 a15 a16 a17 a18
theorem it19_z {A0 A1 A2 A3 A4 A5 A6 A7 A8 A9 A10 A11 A12 A13 A14 A15 A16 A17 A18 B : Type} {b : (A0 → A1 → A2 → A3 → A4 → A5 → A6 → A7 → A8 → A9 → A10 → A11 → A12 → A13 → A14 → A15 → A16 → A17 → A18 → Option B) → A0 → A1 → A2 → A3 → A4 → A5 → A6 → A7 → A8 → A9 → A10 → A11 → A12 → A13 → A14 → A15 → A16 → A17 → A18 → Option B} {a0 a1 a2 a3 a4 a5 a6 a7 a8 a9 a10 a11 a12 a13 a14 a15 a16 a17 a18} {r : B} (h : it19 b 0 a0 a1 a2 a3 a4 a5 a6 a7 a8 a9 a10 a11 a12 a13 a14 a15 a16 a17 a18 = some r) : False := by cases h
def it20 {A0 A1 A2 A3 A4 A5 A6 A7 A8 A9 A10 A11 A12 A13 A14 A15 A16 A17 A18 A19 B : Type} (b : (A0 → A1 → A2 → A3 → A4 → A5 → A6 → A7 → A8 → A9 → A10 → A11 → A12 → A13 → A14 → A15 → A16 → A17 → A18 → A19 → Option B) → A0 → A1 → A2 → A3 → A4 → A5 → A6 → A7 → A8 → A9 → A10 → A11 → A12 → A13 → A14 → A15 → A16 → A17 → A18 → A19 → Option B) : Nat → A0 → A1 → A2 → A3 → A4 → A5 → A6 → A7 → A8 → A9 → A10 → A11 → A12 → A13 → A14 → A15 → A16 → A17 → A18 → A19 → Option B
  | 0, _, _, _, _, _, _, _, _, _, _, _, _, _, _, _, _, _, _, _, _ => none
  | n + 1, a0, a1, a2, a3, a4, a5, a6, a7, a8, a9, a10, a11, a12, a13, a14, a15, a16, a17, a18, a19 => b (it20 b n) a0 a1 a2 a3 a4 a5 a6 a7 a8 a9 a10 a11 a12 a13 a14 a15 a16 a17 a18 a19
theorem it20_z {A0 A1 A2 A3 A4 A5 A6 A7 A8 A9 A10 A11 A12 A13 A14 A15 A16 A17 A18 A19 B : Type} {b : (A0 → A1 → A2 → A3 → A4 → A5 → A6 → A7 → A8 → A9 → A10 → A11 → A12 → A13 → A14 → A15 → A16 → A17 → A18 → A19 → Option B) → A0 → A1 → A2 → A3 → A4 → A5 → A6 → A7 → A8 → A9 → A10 → A11 → A12 → A13 → A14 → A15 → A16 → A17 → A18 → A19 → Option B} {a0 a1 a2 a3 a4 a5 a6 a7 a8 a9 a10 a11 a12 a13 a14 a15 a16 a17 a18 a19} {r : B} (h : it20 b 0 a0 a1 a2 a3 a4 a5 a6 a7 a8 a9 a10 a11 a12 a13 a14 a15 a16 a17 a18 a19 = some r) : False := by cases h
def it21 {A0 A1 A2 A3 A4 A5 A6 A7 A8 A9 A10 A11 A12 A13 A14 A15 A16 A17 A18 A19 A20 B : Type} (b : (A0 → A1 → A2 → A3 → A4 → A5 → A6 → A7 → A8 → A9 → A10 → A11 → A12 → A13 → A14 → A15 → A16 → A17 → A18 → A19 → A20 → Option B) → A0 → A1 → A2 → A3 → A4 → A5 → A6 → A7 → A8 → A9 → A10 → A11 → A12 → A13 → A14 → A15 → A16 → A17 → A18 → A19 → A20 → Option B) : Nat → A0 → A1 → A2 → A3 → A4 → A5 → A6 → A7 → A8 → A9 → A10 → A11 → A12 → A13 → A14 → A15 → A16 → A17 → A18 → A19 → A20 → Option B
  | 0, _, _, _, _, _, _, _, _, _, _, _, _, _, _, _, _, _, _, _, _, _ => none
  | n + 1, a0, a1, a2, a3, a4, a5, a6, a7, a8, a9, a10, a11, a12, a13, a14, a15, a16, a17, a18, a19, a20 => b (it21 b n) a0 a1 a2 a3 a4 a5 a6 a7 a8 a9 a10 a11 a12 a13 a14 a15 a16 a17 a18 a19 a20
theorem it21_z {A0 A1 A2 A3 A4 A5 A6 A7 A8 A9 A10 A11 A12 A13 A14 A15 A16 A17 A18 A19 A20 B : Type} {b : (A0 → A1 → A2 → A3 → A4 → A5 → A6 → A7 → A8 → A9 → A10 → A11 → A12 → A13 → A14 → A15 → A16 → A17 → A18 → A19 → A20 → Option B) → A0 → A1 → A2 → A3 → A4 → A5 → A6 → A7 → A8 → A9 → A10 → A11 → A12 → A13 → A14 → A15 → A16 → A17 → A18 → A19 → A20 → Option B} {a0 a1 a2 a3 a4 a5 a6 a7 a8 a9 a10 a11 a12 a13 a14 a15 a16 a17 a18 a19 a20} {r : B} (h : it21 b 0 a0 a1 a2 a3 a4 a5 a6 a7 a8 a9 a10 a11 a12 a13 a14 a15 a16 a17 a18 a19 a20 = some r) : False := by cases h
def it22 {A0 A1 A2 A3 A4 A5 A6 A7 A8 A9 A10 A11 A12 A13 A14 A15 A16 A17 A18 A19 A20 A21 B : Type} (b : (A0 → A1 → A2 → A3 → A4 → A5 → A6 → A7 → A8 → A9 → A10 → A11 → A12 → A13 → A14 → A15 → A16 → A17 → A18 → A19 → A20 → A21 → Option B) → A0 → A1 → A2 → A3 → A4 → A5 → A6 → A7 → A8 → A9 → A10 → A11 → A12 → A13 → A14 → A15 → A16 → A17 → A18 → A19 → A20 → A21 → Option B) : Nat → A0 → A1 → A2 → A3 → A4 → A5 → A6 → A7 → A8 → A9 → A10 → A11 → A12 → A13 → A14 → A15 → A16 → A17 → A18 → A19 → A20 → A21 → Option B
  | 0, _, _, _, _, _, _, _, _, _, _, _, _, _, _, _, _, _, _, _, _, _, _ => none
  | n + 1, a0, a1, a2, a3, a4, a5, a6, a7, a8, a9, a10, a11, a12, a13, a14, a15, a16, a17, a18, a19, a20, a21 => b (it22 b n) a0 a1 a2 a3 a4 a5 a6 a7 a8 a9 a10 a11 a12 a13 a14 a15 a16 a17 a18 a19 a20 a21
theorem it22_z {A0 A1 A2 A3 A4 A5 A6 A7 A8 A9 A10 A11 A12 A13 A14 A15 A16 A17 A18 A19 A20 A21 B : Type} {b : (A0 → A1 → A2 → A3 → A4 → A5 → A6 → A7 → A8 → A9 → A10 → A11 → A12 → A13 → A14 → A15 → A16 → A17 → A18 → A19 → A20 → A21 → Option B) → A0 → A1 → A2 → A3 → A4 → A5 → A6 → A7 → A8 → A9 → A10 → A11 → A12 → A13 → A14 → A15 → A16 → A17 → A18 → A19 → A20 → A21 → Option B} {a0 a1 a2 a3 a4 a5 a6 a7 a8 a9 a10 a11 a12 a13 a14 a15 a16 a17 a18 a19 a20 a21} {r : B} (h : it22 b 0 a0 a1 a2 a3 a4 a5 a6 a7 a8 a9 a10 a11 a12 a13 a14 a15 a16 a17 a18 a19 a20 a21 = some r) : False := by cases h
def it23 {A0 A1 A2 A3 A4 A5 A6 A7 A8 A9 A10 A11 A12 A13 A14 A15 A16 A17 A18 A19 A20 A21 A22 B : Type} (b : (A0 → A1 → A2 → A3 → A4 → A5 → A6 → A7 → A8 → A9 → A10 → A11 → A12 → A13 → A14 → A15 → A16 → A17 → A18 → A19 → A20 → A21 → A22 → Option B) → A0 → A1 → A2 → A3 → A4 → A5 → A6 → A7 → A8 → A9 → A10 → A11 → A12 → A13 → A14 → A15 → A16 → A17 → A18 → A19 → A20 → A21 → A22 → Option B) : Nat → A0 → A1 → A2 → A3 → A4 → A5 → A6 → A7 → A8 → A9 → A10 → A11 → A12 → A13 → A14 → A15 → A16 → A17 → A18 → A19 → A20 → A21 → A22 → Option B
  | 0, _, _, _, _, _, _, _, _, _, _, _, _, _, _, _, _, _, _, _, _, _, _, _ => none
  | n + 1, a0, a1, a2, a3, a4, a5, a6, a7, a8, a9, a10, a11, a12, a13, a14, a15, a16, a17, a18, a19, a20, a21, a22 => b (it23 b n) a0 a1 a2 a3 a4 a5 a6 a7 a8 a9 a10 a11 a12 a13 a14 a15 a16 a17 a18 a19 a20 a21 a22
theorem it23_z {A0 A1 A2 A3 A4 A5 A6 A7 A8 A9 A10 A11 A12 A13 A14 A15 A16 A17 A18 A19 A20 A21 A22 B : Type} {b : (A0 → A1 → A2 → A3 → A4 → A5 → A6 → A7 → A8 → A9 → A10 → A11 → A12 → A13 → A14 → A15 → A16 → A17 → A18 → A19 → A20 → A21 → A22 → Option B) → A0 → A1 → A2 → A3 → A4 → A5 → A6 → A7 → A8 → A9 → A10 → A11 → A12 → A13 → A14 → A15 → A16 → A17 → A18 → A19 → A20 → A21 → A22 → Option B} {a0 a1 a2 a3 a4 a5 a6 a7 a8 a9 a10 a11 a12 a13 a14 a15 a16 a17 a18 a19 a20 a21 a22} {r : B} (h : it23 b 0 a0 a1 a2 a3 a4 a5 a6 a7 a8 a9 a10 a11 a12 a13 a14 a15 a16 a17 a18 a19 a20 a21 a22 = some r) : False := by cases h
def it24 {A0 A1 A2 A3 A4 A5 A6 A7 A8 A9 A10 A11 A12 A13 A14 A15 A16 A17 A18 A19 A20 A21 A22 A23 B : Type} (b : (A0 → A1 → A2 → A3 → A4 → A5 → A6 → A7 → A8 → A9 → A10 → A11 → A12 → A13 → A14 → A15 → A16 → A17 → A18 → A19 → A20 → A21 → A22 → A23 → Option B) → A0 → A1 → A2 → A3 → A4 → A5 → A6 → A7 → A8 → A9 → A10 → A11 → A12 → A13 → A14 → A15 → A16 → A17 → A18 → A19 → A20 → A21 → A22 → A23 → Option B) : Nat → A0 → A1 → A2 → A3 → A4 → A5 → A6 → A7 → A8 → A9 → A10 → A11 → A12 → A13 → A14 → A15 → A16 → A17 → A18 → A19 → A20 → A21 → A22 → A23 → Option B
  | 0, _, _, _, _, _, _, _, _, _, _, _, _, _, _, _, _, _, _, _, _, _, _, _, _ => none
  | n + 1, a0, a1, a2, a3, a4, a5, a6, a7, a8, a9, a10, a11, a12, a13, a14, a15, a16, a17, a18, a19, a20, a21, a22, a23 => b (it24 b n) a0 a1 a2 a3 a4 a5 a6 a7 a8 a9 a10 a11 a12 a13 a14 a15 a16 a17 a18 a19 a20 a21 a22 a23
theorem it24_z {A0 A1 A2 A3 A4 A5 A6 A7 A8 A9 A10 A11 A12 A13 A14 A15 A16 A17 A18 A19 A20 A21 A22 A23 B : Type} {b : (A0 → A1 → A2 → A3 → A4 → A5 → A6 → A7 → A8 → A9 → A10 → A11 → A12 → A13 → A14 → A15 → A16 → A17 → A18 → A19 → A20 → A21 → A22 → A23 → Option B) → A0 → A1 → A2 → A3 → A4 → A5 → A6 → A7 → A8 → A9 → A10 → A11 → A12 → A13 → A14 → A15 → A16 → A17 → A18 → A19 → A20 → A21 → A22 → A23 → Option B} {a0 a1 a2 a3 a4 a5 a6 a7 a8 a9 a10 a11 a12 a13 a14 a15 a16 a17 a18 a19 a20 a21 a22 a23} {r : B} (h : it24 b 0 a0 a1 a2 a3 a4 a5 a6 a7 a8 a9 a10 a11 a12 a13 a14 a15 a16 a17 a18 a19 a20 a21 a22 a23 = some r) : False := by cases h
def it25 {A0 A1 A2 A3 A4 A5 A6 A7 A8 A9 A10 A11 A12 A13 A14 A15 A16 A17 A18 A19 A20 A21 A22 A23 A24 B : Type} (b : (A0 → A1 → A2 → A3 → A4 → A5 → A6 → A7 → A8 → A9 → A10 → A11 → A12 → A13 → A14 → A15 → A16 → A17 → A18 → A19 → A20 → A21 → A22 → A23 → A24 → Option B) → A0 → A1 → A2 → A3 → A4 → A5 → A6 → A7 → A8 → A9 → A10 → A11 → A12 → A13 → A14 → A15 → A16 → A17 → A18 → A19 → A20 → A21 → A22 → A23 → A24 → Option B) : Nat → A0 → A1 → A2 → A3 → A4 → A5 → A6 → A7 → A8 → A9 → A10 → A11 → A12 → A13 → A14 → A15 → A16 → A17 → A18 → A19 → A20 → A21 → A22 → A23 → A24 → Option B
  | 0, _, _, _, _, _, _, _, _, _, _, _, _, _, _, _, _, _, _, _, _, _, _, _, _, _ => none
  | n + 1, a0, a1, a2, a3, a4, a5, a6, a7, a8, a9, a10, a11, a12, a13, a14, a15, a16, a17, a18, a19, a20, a21, a22, a23, a24 => b (it25 b n) a0 a1 a2 a3 a4 a5 a6 a7 a8 a9 a10 a11 a12 a13 a14 a15 a16 a17 a18 a19 a20 a21 a22 a23 a24
theorem it25_z {A0 A1 A2 A3 A4 A5 A6 A7 A8 A9 A10 A11 A12 A13 A14 A15 A16 A17 A18 A19 A20 A21 A22 A23 A24 B : Type} {b : (A0 → A1 → A2 → A3 → A4 → A5 → A6 → A7 → A8 → A9 → A10 → A11 → A12 → A13 → A14 → A15 → A16 → A17 → A18 → A19 → A20 → A21 → A22 → A23 → A24 → Option B) → A0 → A1 → A2 → A3 → A4 → A5 → A6 → A7 → A8 → A9 → A10 → A11 → A12 → A13 → A14 → A15 → A16 → A17 → A18 → A19 → A20 → A21 → A22 → A23 → A24 → Option B} {a0 a1 a2 a3 a4 a5 a6 a7 a8 a9 a10 a11 a12 a13 a14 a15 a16 a17 a18 a19 a20 a21 a22 a23 a24} {r : B} (h : it25 b 0 a0 a1 a2 a3 a4 a5 a6 a7 a8 a9 a10 a11 a12 a13 a14 a15 a16 a17 a18 a19 a20 a21 a22 a23 a24 = some r) : False := by cases h
def it26 {A0 A1 A2 A3 A4 A5 A6 A7 A8 A9 A10 A11 A12 A13 A14 A15 A16 A17 A18 A19 A20 A21 A22 A23 A24 A25 B : Type} (b : (A0 → A1 → A2 → A3 → A4 → A5 → A6 → A7 → A8 → A9 → A10 → A11 → A12 → A13 → A14 → A15 → A16 → A17 → A18 → A19 → A20 → A21 → A22 → A23 → A24 → A25 → Option B) → A0 → A1 → A2 → A3 → A4 → A5 → A6 → A7 → A8 → A9 → A10 → A11 → A12 → A13 → A14 → A15 → A16 → A17 → A18 → A19 → A20 → A21 → A22 → A23 → A24 → A25 → Option B) : Nat → A0 → A1 → A2 → A3 → A4 → A5 → A6 → A7 → A8 → A9 → A10 → A11 → A12 → A13 → A14 → A15 → A16 → A17 → A18 → A19 → A20 → A21 → A22 → A23 → A24 → A25 → Option B
  | 0, _, _, _, _, _, _, _, _, _, _, _, _, _, _, _, _, _, _, _, _, _, _, _, _, _, _ => none
  | n + 1, a0, a1, a2, a3, a4, a5, a6, a7, a8, a9, a10, a11, a12, a13, a14, a15, a16, a17, a18, a19, a20, a21, a22, a23, a24, a25 => b (it26 b n) a0 a1 a2 a3 a4 a5 a6 a7 a8 a9 a10 a11 a12 a13 a14 a15 a16 a17 a18 a19 a20 a21 a22 a23 a24 a25
theorem it26_z {A0 A1 A2 A3 A4 A5 A6 A7 A8 A9 A10 A11 A12 A13 A14 A15 A16 A17 A18 A19 A20 A21 A22 A23 A24 A25 B : Type} {b : (A0 → A1 → A2 → A3 → A4 → A5 → A6 → A7 → A8 → A9 → A10 → A11 → A12 → A13 → A14 → A15 → A16 → A17 → A18 → A19 → A20 → A21 → A22 → A23 → A24 → A25 → Option B) → A0 → A1 → A2 → A3 → A4 → A5 → A6 → A7 → A8 → A9 → A10 → A11 → A12 → A13 → A14 → A15 → A16 → A17 → A18 → A19 → A20 → A21 → A22 → A23 → A24 → A25 → Option B} {a0 a1 a2 a3 a4 a5 a6 a7 a8 a9 a10 a11 a12 a13 a14 a15 a16 a17 a18 a19 a20 a21 a22 a23 a24 a25} {r : B} (h : it26 b 0 a0 a1 a2 a3 a4 a5 a6 a7 a8 a9 a10 a11 a12 a13 a14 a15 a16 a17 a18 a19 a20 a21 a22 a23 a24 a25 = some r) : False := by cases h
def it27 {A0 A1 A2 A3 A4 A5 A6 A7 A8 A9 A10 A11 A12 A13 A14 A15 A16 A17 A18 A19 A20 A21 A22 A23 A24 A25 A26 B : Type} (b : (A0 → A1 → A2 → A3 → A4 → A5 → A6 → A7 → A8 → A9 → A10 → A11 → A12 → A13 → A14 → A15 → A16 → A17 → A18 → A19 → A20 → A21 → A22 → A23 → A24 → A25 → A26 → Option B) → A0 → A1 → A2 → A3 → A4 → A5 → A6 → A7 → A8 → A9 → A10 → A11 → A12 → A13 → A14 → A15 → A16 → A17 → A18 → A19 → A20 → A21 → A22 → A23 → A24 → A25 → A26 → Option B) : Nat → A0 → A1 → A2 → A3 → A4 → A5 → A6 → A7 → A8 → A9 → A10 → A11 → A12 → A13 → A14 → A15 → A16 → A17 → A18 → A19 → A20 → A21 → A22 → A23 → A24 → A25 → A26 → Option B
  | 0, _, _, _, _, _, _, _, _, _, _, _, _, _, _, _, _, _, _, _, _, _, _, _, _, _, _, _ => none
  | n + 1, a0, a1, a2, a3, a4, a5, a6, a7, a8, a9, a10, a11, a12, a13, a14, a15, a16, a17, a18, a19, a20, a21, a22, a23, a24, a25, a26 => b (it27 b n) a0 a1 a2 a3 a4 a5 a6 a7 a8 a9 a10 a11 a12 a13 a14 a15 a16 a17 a18 a19 a20 a21 a22 a23 a24 a25 a26
theorem it27_z {A0 A1 A2 A3 A4 A5 A6 A7 A8 A9 A10 A11 A12 A13 A14 A15 A16 A17 A18 A19 A20 A21 A22 A23 A24 A25 A26 B : Type} {b : (A0 → A1 → A2 → A3 → A4 → A5 → A6 → A7 → A8 → A9 → A10 → A11 → A12 → A13 → A14 → A15 → A16 → A17 → A18 → A19 → A20 → A21 → A22 → A23 → A24 → A25 → A26 → Option B) → A0 → A1 → A2 → A3 → A4 → A5 → A6 → A7 → A8 → A9 → A10 → A11 → A12 → A13 → A14 → A15 → A16 → A17 → A18 → A19 → A20 → A21 → A22 → A23 → A24 → A25 → A26 → Option B} {a0 a1 a2 a3 a4 a5 a6 a7 a8 a9 a10 a11 a12 a13 a14 a15 a16 a17 a18 a19 a20 a21 a22 a23 a24 a25 a26} {r : B} (h : it27 b 0 a0 a1 a2 a3 a4 a5 a6 a7 a8 a9 a10 a11 a12 a13 a14 a15 a16 a17 a18 a19 a20 a21 a22 a23 a24 a25 a26 = some r) : False := by cases h
def it28 {A0 A1 A2 A3 A4 A5 A6 A7 A8 A9 A10 A11 A12 A13 A14 A15 A16 A17 A18 A19 A20 A21 A22 A23 A24 A25 A26 A27 B : Type} (b : (A0 → A1 → A2 → A3 → A4 → A5 → A6 → A7 → A8 → A9 → A10 → A11 → A12 → A13 → A14 → A15 → A16 → A17 → A18 → A19 → A20 → A21 → A22 → A23 → A24 → A25 → A26 → A27 → Option B) → A0 → A1 → A2 → A3 → A4 → A5 → A6 → A7 → A8 → A9 → A10 → A11 → A12 → A13 → A14 → A15 → A16 → A17 → A18 → A19 → A20 → A21 → A22 → A23 → A24 → A25 → A26 → A27 → Option B) : Nat → A0 → A1 → A2 → A3 → A4 → A5 → A6 → A7 → A8 → A9 → A10 → A11 → A12 → A13 → A14 → A15 → A16 → A17 → A18 → A19 → A20 → A21 → A22 → A23 → A24 → A25 → A26 → A27 → Option B
  | 0, _, _, _, _, _, _, _, _, _, _, _, _, _, _, _, _, _, _, _, _, _, _, _, _, _, _, _, _ => none
  | n + 1, a0, a1, a2, a3, a4, a5, a6, a7, a8, a9, a10, a11, a12, a13, a14, a15, a16, a17, a18, a19, a20, a21, a22, a23, a24, a25, a26, a27 => b (it28 b n) a0 a1 a2 a3 a4 a5 a6 a7 a8 a9 a10 a11 a12 a13 a14 a15 a16 a17 a18 a19 a20 a21 a22 a23 a24 a25 a26 a27
theorem it28_z {A0 A1 A2 A3 A4 A5 A6 A7 A8 A9 A10 A11 A12 A13 A14 A15 A16 A17 A18 A19 A20 A21 A22 A23 A24 A25 A26 A27 B : Type} {b : (A0 → A1 → A2 → A3 → A4 → A5 → A6 → A7 → A8 → A9 → A10 → A11 → A12 → A13 → A14 → A15 → A16 → A17 → A18 → A19 → A20 → A21 → A22 → A23 → A24 → A25 → A26 → A27 → Option B) → A0 → A1 → A2 → A3 → A4 → A5 → A6 → A7 → A8 → A9 → A10 → A11 → A12 → A13 → A14 → A15 → A16 → A17 → A18 → A19 → A20 → A21 → A22 → A23 → A24 → A25 → A26 → A27 → Option B} {a0 a1 a2 a3 a4 a5 a6 a7 a8 a9 a10 a11 a12 a13 a14 a15 a16 a17 a18 a19 a20 a21 a22 a23 a24 a25 a26 a27} {r : B} (h : it28 b 0 a0 a1 a2 a3 a4 a5 a6 a7 a8 a9 a10 a11 a12 a13 a14 a15 a16 a17 a18 a19 a20 a21 a22 a23 a24 a25 a26 a27 = some r) : False := by cases h
def it29 {A0 A1 A2 A3 A4 A5 A6 A7 A8 A9 A10 A11 A12 A13 A14 A15 A16 A17 A18 A19 A20 A21 A22 A23 A24 A25 A26 A27 A28 B : Type} (b : (A0 → A1 → A2 → A3 → A4 → A5 → A6 → A7 → A8 → A9 → A10 → A11 → A12 → A13 → A14 → A15 → A16 → A17 → A18 → A19 → A20 → A21 → A22 → A23 → A24 → A25 → A26 → A27 → A28 → Option B) → A0 → A1 → A2 → A3 → A4 → A5 → A6 → A7 → A8 → A9 → A10 → A11 → A12 → A13 → A14 → A15 → A16 → A17 → A18 → A19 → A20 → A21 → A22 → A23 → A24 → A25 → A26 → A27 → A28 → Option B) : Nat → A0 → A1 → A2 → A3 → A4 → A5 → A6 → A7 → A8 → A9 → A10 → A11 → A12 → A13 → A14 → A15 → A16 → A17 → A18 → A19 → A20 → A21 → A22 → A23 → A24 → A25 → A26 → A27 → A28 → Option B
  | 0, _, _, _, _, _, _, _, _, _, _, _, _, _, _, _, _, _, _, _, _, _, _, _, _, _, _, _, _, _ => none
  | n + 1, a0, a1, a2, a3, a4, a5, a6, a7, a8, a9, a10, a11, a12, a13, a14, a15, a16, a17, a18, a19, a20, a21, a22, a23, a24, a25, a26, a27, a28 => b (it29 b n) a0 a1 a2 a3 a4 a5 a6 a7 a8 a9 a10 a11 a12 a13 a14 a15 a16 a17 a18 a19 a20 a21 a22 a23 a24 a25 a26 a27 a28
theorem it29_z {A0 A1 A2 A3 A4 A5 A6 A7 A8 A9 A10 A11 A12 A13 A14 A15 A16 A17 A18 A19 A20 A21 A22 A23 A24 A25 A26 A27 A28 B : Type} {b : (A0 → A1 → A2 → A3 → A4 → A5 → A6 → A7 → A8 → A9 → A10 → A11 → A12 → A13 → A14 → A15 → A16 → A17 → A18 → A19 → A20 → A21 → A22 → A23 → A24 → A25 → A26 → A27 → A28 → Option B) → A0 → A1 → A2 → A3 → A4 → A5 → A6 → A7 → A8 → A9 → A10 → A11 → A12 → A13 → A14 → A15 → A16 → A17 → A18 → A19 → A20 → A21 → A22 → A23 → A24 → A25 → A26 → A27 → A28 → Option B} {a0 a1 a2 a3 a4 a5 a6 a7 a8 a9 a10 a11 a12 a13 a14 a15 a16 a17 a18 a19 a20 a21 a22 a23 a24 a25 a26 a27 a28} {r : B} (h : it29 b 0 a0 a1 a2 a3 a4 a5 a6 a7 a8 a9 a10 a11 a12 a13 a14 a15 a16 a17 a18 a19 a20 a21 a22 a23 a24 a25 a26 a27 a28 = some r) : False := by cases h
def it30 {A0 A1 A2 A3 A4 A5 A6 A7 A8 A9 A10 A11 A12 A13 A14 A15 A16 A17 A18 A19 A20 A21 A22 A23 A24 A25 A26 A27 A28 A29 B : Type} (b : (A0 → A1 → A2 → A3 → A4 → A5 → A6 → A7 → A8 → A9 → A10 → A11 → A12 → A13 → A14 → A15 → A16 → A17 → A18 → A19 → A20 → A21 → A22 → A23 → A24 → A25 → A26 → A27 → A28 → A29 → Option B) → A0 → A1 → A2 → A3 → A4 → A5 → A6 → A7 → A8 → A9 → A10 → A11 → A12 → A13 → A14 → A15 → A16 → A17 → A18 → A19 → A20 → A21 → A22 → A23 → A24 → A25 → A26 → A27 → A28 → A29 → Option B) : Nat → A0 → A1 → A2 → A3 → A4 → A5 → A6 → A7 → A8 → A9 → A10 → A11 → A12 → A13 → A14 → A15 → A16 → A17 → A18 → A19 → A20 → A21 → A22 → A23 → A24 → A25 → A26 → A27 → A28 → A29 → Option B
  | 0, _, _, _, _, _, _, _, _, _, _, _, _, _, _, _, _, _, _, _, _, _, _, _, _, _, _, _, _, _, _ => none
  | n + 1, a0, a1, a2, a3, a4, a5, a6, a7, a8, a9, a10, a11, a12, a13, a14, a15, a16, a17, a18, a19, a20, a21, a22, a23, a24, a25, a26, a27, a28, a29 => b (it30 b n) a0 a1 a2 a3 a4 a5 a6 a7 a8 a9 a10 a11 a12 a13 a14 a15 a16 a17 a18 a19 a20 a21 a22 a23 a24 a25 a26 a27 a28 a29
theorem it30_z {A0 A1 A2 A3 A4 A5 A6 A7 A8 A9 A10 A11 A12 A13 A14 A15 A16 A17 A18 A19 A20 A21 A22 A23 A24 A25 A26 A27 A28 A29 B : Type} {b : (A0 → A1 → A2 → A3 → A4 → A5 → A6 → A7 → A8 → A9 → A10 → A11 → A12 → A13 → A14 → A15 → A16 → A17 → A18 → A19 → A20 → A21 → A22 → A23 → A24 → A25 → A26 → A27 → A28 → A29 → Option B) → A0 → A1 → A2 → A3 → A4 → A5 → A6 → A7 → A8 → A9 → A10 → A11 → A12 → A13 → A14 → A15 → A16 → A17 → A18 → A19 → A20 → A21 → A22 → A23 → A24 → A25 → A26 → A27 → A28 → A29 → Option B} {a0 a1 a2 a3 a4 a5 a6 a7 a8 a9 a10 a11 a12 a13 a14 a15 a16 a17 a18 a19 a20 a21 a22 a23 a24 a25 a26 a27 a28 a29} {r : B} (h : it30 b 0 a0 a1 a2 a3 a4 a5 a6 a7 a8 a9 a10 a11 a12 a13 a14 a15 a16 a17 a18 a19 a20 a21 a22 a23 a24 a25 a26 a27 a28 a29 = some r) : False := by cases h
