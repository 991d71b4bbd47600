/-! constructors: from one cell of defaults to the cells of the object, at addresses u -/
def uMc (l : Launch) (y : MethodName) (ws : List Cond) (rm : Room) (D : va_G) (tys : List (ClassId × FieldType)) (h0 : Nat) (e0 : va_E) (wf : (Nat → Nat) → va_W) (mc ms : Nat) : Prop :=
  ∀ sz : Nat, Met l y ws rm (uP D tys [.ref h0] [(h0, e0)] sz) (va_Qv (fun (_ : Nat → Nat) => True) (fun u t => va_P D vwCl (wf u) t.heap ∧ va_K D vwCl tys t ∧ va_D (va_A [(h0, e0)] sz) (wf u)) (va_A [(h0, e0)] sz)) mc ms (va_A [(h0, e0)] sz)
section UMC
variable {l : Launch} {y : MethodName} {ws ws' : List Cond} {rm : Room} {D : va_G} {tys : List (ClassId × FieldType)} {h0 : Nat} {e0 : va_E} {wf : (Nat → Nat) → va_W} {mc ms : Nat} {cc : ByteArray} {maxL : Nat}
theorem uMc.of (hy : plainName y.cls = true) (hw : ws = Cond.code y cc maxL none :: ws') (hn : (lg_sl [.ref h0]).length ≤ maxL)
    (body : ∀ (p : Program) (e : Env) (s : State) (m : MethodId) (args : Array Value) (below : List Frame) (meth : Method) (c : Code) (A : Nat → Prop) (ls : Array Slot) (Q : State → Prop),
      p.tables.exec = Jvm.exec → c.code = cc → c.maxLocals = maxL → s.vm.findClass y.cls = some m.cls → (∀ w ∈ ws, w.before args s = true) → (∀ q : Nat, s.heap.size ≤ q → A q) → va_P D vwCl [(h0, e0)] s.heap → va_K D vwCl tys s → va_D A [(h0, e0)] → EV A s → va_S A s.heap s.heap [] → lv_has ls maxL (lv_args 0 [.ref h0]) → meth.name = y.name →
      (∀ (H : Heap) (locs : List Loc) (pc : Nat) (ls' : Array Slot) (u : Nat → Nat), va_P D vwCl (wf u) H → va_D A (wf u) → va_S A s.heap H locs → decode cc pc = .ok (.return_, 1) → W p l e rm s m args below meth c H locs mc ms Q (F0 m pc ls' [])) →
      W p l e rm s m args below meth c s.heap [] 0 0 Q (F0 m 0 ls [])) : uMc l y ws rm D tys h0 e0 wf mc ms := by
  intro sz
  refine Met.ofW (cc := cc) (maxL := maxL) (ret := none) hy hw ?_
  intro p e s m args below meth c s₁ B hml hv
  obtain ⟨rfl, hsz, hP, hK, hD0, hE⟩ := hv
  subst hsz
  have hD := hD0.self (sz := s.heap.size)
  have hx := B.exec
  have hb := B.bytes
  have hr := B.returns
  have hts := atoms_spec (ws := ws) B.pre
  have hown : s.vm.findClass y.cls = some m.cls := findClass_of_methodNamed B.named
  have hlocks := B.notSynchronized
  have hl := lv_entry [.ref h0] (n := maxL) hn
  rw [lg_entry_eq]
  refine body p e s m _ below meth c (va_A [(h0, e0)] s.heap.size) _ _ hx hb hml hown hts (fun q h => Or.inr h) hP hK hD hE va_S.rf hl (name_of_methodNamed B.named B.method).1 ?_
  intro H locs pc ls' u hP1 hD1 hS hdg
  exact W.vret hx hb hr (fun t ht hW => ⟨⟨u, rfl, trivial, by rw [ht]; exact hP1, va_K.moved hW.alike hK, hD1⟩, hS.F ht⟩) hS.2.2 hdg
end UMC
theorem cy_i {D : va_G} {cl : List vw_C} {cyC cyI cyJ cA : ClassId} {s : State} (hK : va_K D cl [(cyC, .char), (cyI, .int), (cyJ, .long)] s) (hK' : va_K D cl ([(cyC, .char), (cyI, .int), (cyJ, .long)] ++ [(cA, .int)]) s) : cA = cyI := by
  have a := (hK'.2 3 (cA, .int) rfl).2
  have b := (hK.2 1 (cyI, .int) rfl).2
  exact Option.some.inj ((show _ = some cA from a).symm.trans b)
theorem cy_c {D : va_G} {cl : List vw_C} {cyC cyI cyJ cA : ClassId} {s : State} (hK : va_K D cl [(cyC, .char), (cyI, .int), (cyJ, .long)] s) (hK' : va_K D cl ([(cyC, .char), (cyI, .int), (cyJ, .long)] ++ [(cA, .char)]) s) : cA = cyC := by
  have a := (hK'.2 3 (cA, .char) rfl).2
  have b := (hK.2 0 (cyC, .char) rfl).2
  exact Option.some.inj ((show _ = some cA from a).symm.trans b)
theorem cy_l {D : va_G} {cl : List vw_C} {cyC cyI cyJ cA : ClassId} {s : State} (hK : va_K D cl [(cyC, .char), (cyI, .int), (cyJ, .long)] s) (hK' : va_K D cl ([(cyC, .char), (cyI, .int), (cyJ, .long)] ++ [(cA, .long)]) s) : cA = cyJ := by
  have a := (hK'.2 3 (cA, .long) rfl).2
  have b := (hK.2 2 (cyJ, .long) rfl).2
  exact Option.some.inj ((show _ = some cA from a).symm.trans b)
section UIC
variable {p : Program} {l : Launch} {e : Env} {R : Room} {s : State} {m : MethodId} {args : Array Value} {below : List Frame} {meth : Method} {c : Code} {H : Heap} {locs : List Loc} {cells slots : Nat} {Q : State → Prop}
variable {y : MethodName} {bytes cc : ByteArray} {maxL nL index pc mc ms : Nat} {ws Ts : List Cond} {rm : Room} {own : String} {b : Addr} {rest : List Value} {ls : Array Slot} {D : va_G} {tys : List (ClassId × FieldType)} {w wr : va_W} {A : Nat → Prop} {e0 : va_E} {wf : (Nat → Nat) → va_W}
theorem uk_c {a : Array Value} (hr : va_Run p l e R s m args below meth c H locs cells slots mc ms (F0 m pc ls (.ref b :: rest)) rest (va_Qv (fun (_ : Nat → Nat) => True) (fun u t => va_P D vwCl (wf u) t.heap ∧ va_K D vwCl tys t ∧ va_D (va_A [(b, e0)] H.size) (wf u)) (va_A [(b, e0)] H.size) a) (va_A [(b, e0)] H.size))
    (hP : va_P D vwCl w H) (hD : va_D A w) (hS : va_S A s.heap H locs) (hA : ∀ q, s.heap.size ≤ q → A q) (isC isR : List Nat) (hC : isC.map (fun i => w[i]?) = [some (b, e0)]) (hR : isR.map (fun i => w[i]?) = wr.map some) (hnr : va_nd isR = true) (hdis : ∀ i ∈ isR, i ∉ isC)
    (kk : ∀ (H1 : Heap) (locs1 : List Loc) (u : Nat → Nat), va_P D vwCl (wr ++ wf u) H1 → va_D A (wr ++ wf u) → va_S A s.heap H1 locs1 → W p l e R s m args below meth c H1 locs1 (cells + mc) (slots + ms) Q (F0 m (pc + 3) ls rest)) : W p l e R s m args below meth c H locs cells slots Q (F0 m pc ls (.ref b :: rest)) := by
  have hFc := va_free (wc := [(b, e0)]) hD hS hA isC hC
  refine va_callv hr hS (fun q _ h => hFc q h) hFc (fun u t H1 locs1 ht hvm hw hB hz1 hk1 hS1 => ?_)
  obtain ⟨hP1, -, hD1⟩ := hB
  rw [ht] at hP1
  obtain ⟨hP', hD'⟩ := va_join (wc := [(b, e0)]) hP hD isC isR hC hR hnr hdis hk1 hFc hP1 hD1
  exact kk H1 locs1 u hP' hD' hS1
theorem uIN_c {host : String} (S : CallFix p m c cc nL s args Ts own) (hM : uMc l y ws rm D tys b e0 wf mc ms) (cw : va_CN R s args own index y host bytes maxL none ws rm mc ms 0 ∧ y.name = "<init>" ∧ (Cond.instanceMethod y).before args s = true)
    (hK : va_K D vwCl tys s) (hE : EV A s) (hA : ∀ q, s.heap.size ≤ q → A q) (hP : va_P D vwCl w H) (hD : va_D A w) (hS : va_S A s.heap H locs) (isC isR : List Nat) (hnd : va_nd isC = true) (hC : isC.map (fun i => w[i]?) = [some (b, e0)]) (hR : isR.map (fun i => w[i]?) = wr.map some) (hnr : va_nd isR = true) (hdis : ∀ i ∈ isR, i ∉ isC)
    (hsz : ls.size = nL) (hst : (rest.map fun v => v.category).sum ≤ 8) (hrm : cells + mc ≤ R.cells ∧ slots + ms ≤ R.slots)
    (hdg : decode cc pc = .ok (.invokespecial index, 3))
    (kk : ∀ (H1 : Heap) (locs1 : List Loc) (u : Nat → Nat), va_P D vwCl (wr ++ wf u) H1 → va_D A (wr ++ wf u) → va_S A s.heap H1 locs1 → W p l e R s m args below meth c H1 locs1 (cells + mc) (slots + ms) Q (F0 m (pc + 3) ls rest)) : W p l e R s m args below meth c H locs cells slots Q (F0 m pc ls (.ref b :: rest)) :=
  uk_c (va_runIN (As := []) S (hM H.size) cw ⟨uP.blind, uP.here hK hP hD hS hA hE isC hnd hC⟩ rfl rfl hsz rfl (lv_room hst) hdg hrm) hP hD hS hA isC isR hC hR hnr hdis kk
theorem uI_c (S : CallFix p m c cc nL s args Ts own) (hM : uMc l y ws rm D tys b e0 wf mc ms) (cw : CallB R s args own index y bytes maxL none ws rm mc ms 0 ∧ y.name = "<init>" ∧ (Cond.instanceMethod y).before args s = true)
    (hK : va_K D vwCl tys s) (hE : EV A s) (hA : ∀ q, s.heap.size ≤ q → A q) (hP : va_P D vwCl w H) (hD : va_D A w) (hS : va_S A s.heap H locs) (isC isR : List Nat) (hnd : va_nd isC = true) (hC : isC.map (fun i => w[i]?) = [some (b, e0)]) (hR : isR.map (fun i => w[i]?) = wr.map some) (hnr : va_nd isR = true) (hdis : ∀ i ∈ isR, i ∉ isC)
    (hsz : ls.size = nL) (hst : (rest.map fun v => v.category).sum ≤ 8) (hrm : cells + mc ≤ R.cells ∧ slots + ms ≤ R.slots)
    (hdg : decode cc pc = .ok (.invokespecial index, 3))
    (kk : ∀ (H1 : Heap) (locs1 : List Loc) (u : Nat → Nat), va_P D vwCl (wr ++ wf u) H1 → va_D A (wr ++ wf u) → va_S A s.heap H1 locs1 → W p l e R s m args below meth c H1 locs1 (cells + mc) (slots + ms) Q (F0 m (pc + 3) ls rest)) : W p l e R s m args below meth c H locs cells slots Q (F0 m pc ls (.ref b :: rest)) :=
  uk_c (va_runI (As := []) S (hM H.size) cw ⟨uP.blind, uP.here hK hP hD hS hA hE isC hnd hC⟩ rfl rfl hsz rfl (lv_room hst) hdg hrm) hP hD hS hA isC isR hC hR hnr hdis kk
end UIC
