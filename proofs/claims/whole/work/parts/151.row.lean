set_option maxRecDepth 20000 in
theorem ggL_row_X5_row : GoodIn wsL_row wsX5_row := goodIn_ca (goodIn_r _ [6, 7, 8, 9, 10, 11, 12, 13, 14, 15, 16, 17, 18, 19, 20] (by decide +kernel) (by decide +kernel)) (goodIn_sub (fun _ h => List.mem_cons_of_mem _ (List.mem_append_right _ h)) (by decide +kernel))
set_option maxRecDepth 20000 in
theorem gL_row_X5_row : GoodIn wsL_row (wsV RL 7 RX5 yX5_row wsX5_row) := goodIn_app (goodIn_of _ (by decide +kernel)) ggL_row_X5_row
theorem dL_row_0 : decode cL_row 0 = .ok (.aload_n 2, 1) := by decide +kernel
theorem dL_row_1 : decode cL_row 1 = .ok (.iconst 0, 1) := by decide +kernel
theorem dL_row_2 : decode cL_row 2 = .ok (.aload_n 0, 1) := by decide +kernel
theorem dL_row_3 : decode cL_row 3 = .ok (.iload_n 1, 1) := by decide +kernel
theorem dL_row_4 : decode cL_row 4 = .ok (.invokevirtual 7, 3) := by decide +kernel
theorem dL_row_7 : decode cL_row 7 = .ok (.lastore, 1) := by decide +kernel
theorem dL_row_8 : decode cL_row 8 = .ok (.goto 6, 3) := by decide +kernel
theorem dL_row_11 : decode cL_row 11 = .ok (.astore_n 3, 1) := by decide +kernel
theorem dL_row_12 : decode cL_row 12 = .ok (.iconst 1, 1) := by decide +kernel
theorem dL_row_13 : decode cL_row 13 = .ok (.ireturn, 1) := by decide +kernel
theorem dL_row_14 : decode cL_row 14 = .ok (.iconst 0, 1) := by decide +kernel
theorem dL_row_15 : decode cL_row 15 = .ok (.ireturn, 1) := by decide +kernel
/-! row: the one method that throws, and the law's own that catches -/
def NSE : String := "java/util/NoSuchElementException"
def EV2 (A : Nat → Prop) (U : State) : Prop :=
  va_Nw (.declares (Bundle.init0 "java/lang/RuntimeException")) U ∧ va_Nw (.declares (Bundle.init0 "java/lang/Exception")) U ∧ va_Nw (.declares (Bundle.init0 Bundle.tN)) U ∧ va_Nw (.castable NSE NSE) U ∧
  vx_Zq Bundle.tN "UNASSIGNED_STACK" Bundle.steD A U U.heap ∧ vx_Zq Bundle.tN "SUPPRESSED_SENTINEL" Bundle.listD A U U.heap
theorem EV2.call {A B : Nat → Prop} {s U : State} {H : Heap} {locs : List Loc} (h : EV2 A s) (hS : va_S A s.heap H locs) (hU : U.heap = H) (hW : s.WarmedH U.vm) (hAB : ∀ q, B q → A q) : EV2 B U := by
  obtain ⟨h1, h2, h3, h4, h5, h6⟩ := h
  refine ⟨va_Nw.warmD hW h1, va_Nw.warmD hW h2, va_Nw.warmD hW h3, va_Nw.warmC hW h4, ?_, ?_⟩
  · rw [hU]; exact (vx_Zq.moved hW.alike (h5.kept hS.2.1)).narrow hAB
  · rw [hU]; exact (vx_Zq.moved hW.alike (h6.kept hS.2.1)).narrow hAB
theorem EV2.calling {A : Nat → Prop} {U : State} {g : JFrame} {mk : MethodId} {a : Array Value} (h : EV2 A U) : EV2 A (U.calling g mk a) := by
  obtain ⟨h1, h2, h3, h4, h5, h6⟩ := h
  exact ⟨va_Nw.same rfl rfl h1, va_Nw.same rfl rfl h2, va_Nw.same rfl rfl h3, va_Nw.same rfl rfl h4, vx_Zq.moved (u := U) (U := U.calling g mk a) (Vm.Alike.refl U.vm) h5, vx_Zq.moved (u := U) (U := U.calling g mk a) (Vm.Alike.refl U.vm) h6⟩
def uP2 (D : va_G) (tys : List (ClassId × FieldType)) (as : List Value) (w : va_W) (sz : Nat) : Array Value → State → Prop :=
  va_Pc as (fun U => U.heap.size = sz ∧ va_P D vwCl w U.heap ∧ va_K D vwCl tys U ∧ va_D (fun _ => True) w ∧ EV (va_A w sz) U ∧ EV2 (va_A w sz) U)
theorem uP2.blind {D : va_G} {tys : List (ClassId × FieldType)} {as : List Value} {w : va_W} {sz : Nat} : FrameBlind (uP2 D tys as w sz) := fun a U g mk q => by
  obtain ⟨q0, q1, qP, qK, qD, qE, qE2⟩ := q
  exact ⟨q0, q1, qP, va_K.moved (u := U) (U := U.calling g mk a) (Vm.Alike.refl U.vm) qK, qD, qE.calling, qE2.calling⟩
theorem uP2.here {D : va_G} {tys : List (ClassId × FieldType)} {as : List Value} {w wc : va_W} {A : Nat → Prop} {s : State} {H : Heap} {locs : List Loc} (hK : va_K D vwCl tys s) (hP : va_P D vwCl w H) (hD : va_D A w) (hS : va_S A s.heap H locs) (hA : ∀ q, s.heap.size ≤ q → A q) (hE : EV A s) (hE2 : EV2 A s) (isC : List Nat) (hnd : va_nd isC = true) (hC : isC.map (fun i => w[i]?) = wc.map some) :
    ∀ U : State, U.heap = H → s.WarmedH U.vm → uP2 D tys as wc H.size as.toArray U := fun U hU hW =>
  ⟨rfl, by rw [hU], by rw [hU]; exact hP.sub isC (uSub hC), va_K.moved hW.alike hK, (hD.sub isC hnd hC).weaken (fun _ _ _ _ => trivial), hE.call hS hU hW (va_free hD hS hA isC hC), hE2.call hS hU hW (va_free hD hS hA isC hC)⟩
abbrev rmX5_row : Room := { frames := 6, cells := 1, slots := 6, locals := 81 }
abbrev rowW (cyC cyI cyJ : ClassId) (h0 h1 h2 h3 h4 h5 h6 h7 h8 h9 : Nat) (tc : Int32) (told : Nat → Int64) : va_W :=
  [(h0, .inr (5, [.ref h1, .ref h2, .ref h3, .ref h4, .ref h5, .ref h6, .ref h7, .ref h8, .ref h9, .int tc])), (h9, .inl (cyJ, 6, .inr (.inl told)))]
theorem rowBad : ∀ w ∈ (vx_at0 RX5 288 "java/util/NoSuchElementException" ["java/lang/RuntimeException", "java/lang/Exception"]).filter (fun w => !goodWord w), w ∈ [Cond.declares (Bundle.init0 "java/lang/RuntimeException"), .declares (Bundle.init0 "java/lang/Exception"), .declares (Bundle.init0 Bundle.tN), .castable NSE NSE] := by decide +kernel
theorem rowOt : ∀ w ∈ Cond.classLink RX5 286 "java/util/NoSuchElementException" :: Cond.initialized "java/util/NoSuchElementException" :: vx_at0 RX5 288 "java/util/NoSuchElementException" ["java/lang/RuntimeException", "java/lang/Exception"], vx_ot w = true := by decide +kernel
set_option maxHeartbeats 4000000 in
set_option maxRecDepth 100000 in
theorem c_X5_row (l : Launch) (hl0 : l.stackTraces = false) (dC : Nat → ClassId) (dI : Nat → Nat → Nat) (cyC cyI cyJ : ClassId) (h0 h1 h2 h3 h4 h5 h6 h7 h8 h9 : Nat) (tc : Int32) (told : Nat → Int64) (v1 : Int32) (htc : ∀ x : Int32, ¬ x < 0 → x < tc → vp_in x 6) (sz : Nat) :
    vx_Met l yX5_row wsX5_row rmX5_row (uP2 (dC, dI) [(cyC, .char), (cyI, .int), (cyJ, .long)] [.ref h0, .int v1] (rowW cyC cyI cyJ h0 h1 h2 h3 h4 h5 h6 h7 h8 h9 tc told) sz)
      (va_Ql (fun r (_ : Unit) => (¬ v1 < 0 ∧ v1 < tc) ∧ r = told v1.toNatClampNeg) (fun _ t => va_P (dC, dI) vwCl (rowW cyC cyI cyJ h0 h1 h2 h3 h4 h5 h6 h7 h8 h9 tc told) t.heap ∧ va_K (dC, dI) vwCl [(cyC, .char), (cyI, .int), (cyJ, .long)] t) (va_A (rowW cyC cyI cyJ h0 h1 h2 h3 h4 h5 h6 h7 h8 h9 tc told) sz))
      (vx_X (fun (_ : Unit) => ¬ (¬ v1 < 0 ∧ v1 < tc)) (fun E _ t => E = NSE ∧ va_P (dC, dI) vwCl (rowW cyC cyI cyJ h0 h1 h2 h3 h4 h5 h6 h7 h8 h9 tc told) t.heap ∧ va_K (dC, dI) vwCl [(cyC, .char), (cyI, .int), (cyJ, .long)] t) (va_A (rowW cyC cyI cyJ h0 h1 h2 h3 h4 h5 h6 h7 h8 h9 tc told) sz))
      1 6 (va_A (rowW cyC cyI cyJ h0 h1 h2 h3 h4 h5 h6 h7 h8 h9 tc told) sz) := by
  refine vx_ofW (cc := cX5_row) (maxL := 2) (ret := some .long) (by decide) rfl ?_
  intro p e s m args below meth c s₁ B hml htab hv
  obtain ⟨rfl, hsz, hP, hK, hD0, hE, hE2⟩ := hv
  subst hsz
  have hD := hD0.self (sz := s.heap.size)
  have hx := B.exec
  have hb := B.bytes
  have hr := B.returns
  have hts := atoms_spec (ws := wsX5_row) B.pre
  have hown : s.vm.findClass RX5 = some m.cls := findClass_of_methodNamed B.named
  have hlocks := B.notSynchronized
  have hl := lv_entry [.ref h0, .int v1] (n := 2) (Nat.le_of_ble_eq_true rfl)
  rw [lg_entry_eq]
  generalize (lg_sl ([.ref h0, .int v1]) ++ List.replicate (2 - (lg_sl ([.ref h0, .int v1])).length) Slot.unset).toArray = ls at hl ⊢
  have hl : lv_has ls 2 [(0, .ref h0), (1, .int v1)] := hl
  have hi5 : ∀ w ∈ u_ws RX5 TX5 10, w ∈ wsX5_row := fun _ h9 => List.mem_cons_of_mem _ (List.mem_append_left _ (List.mem_append_right _ h9))
  generalize hAe : va_A (rowW cyC cyI cyJ h0 h1 h2 h3 h4 h5 h6 h7 h8 h9 tc told) s.heap.size = A at hD hE hE2 ⊢
  have hS : va_S A s.heap s.heap [] := va_S.rf
  have throw : ¬ (¬ v1 < 0 ∧ v1 < tc) → W p l e rmX5_row s m ([.ref h0, .int v1] : List Value).toArray below meth c s.heap [] 0 0 (vx_MQ below (va_Ql (fun r (_ : Unit) => (¬ v1 < 0 ∧ v1 < tc) ∧ r = told v1.toNatClampNeg) (fun _ t => va_P (dC, dI) vwCl (rowW cyC cyI cyJ h0 h1 h2 h3 h4 h5 h6 h7 h8 h9 tc told) t.heap ∧ va_K (dC, dI) vwCl [(cyC, .char), (cyI, .int), (cyJ, .long)] t) A) (vx_X (fun (_ : Unit) => ¬ (¬ v1 < 0 ∧ v1 < tc)) (fun E _ t => E = NSE ∧ va_P (dC, dI) vwCl (rowW cyC cyI cyJ h0 h1 h2 h3 h4 h5 h6 h7 h8 h9 tc told) t.heap ∧ va_K (dC, dI) vwCl [(cyC, .char), (cyI, .int), (cyJ, .long)] t) A) ([.ref h0, .int v1] : List Value).toArray s 1 6 A) (F0 m 12 ls []) := by
    intro hn
    refine vx_throw0 (own := RX5) (cls := "java/util/NoSuchElementException") (names := ["java/lang/RuntimeException", "java/lang/Exception"]) (A := A) hx hb hl0 hown (by decide) (by decide) (hts (.classLink RX5 286 "java/util/NoSuchElementException") (by decide +kernel)) (hts (.initialized "java/util/NoSuchElementException") (by decide +kernel)) ?_ rowOt hE2.2.2.2.2.1 hE2.2.2.2.2.2 hS (hl.1.trans hml.symm) dX5_row_12 dX5_row_15 dX5_row_16 dX5_row_19 (fun x hx => (htab x hx).elim) (Nat.le_of_ble_eq_true rfl) (Nat.le_of_ble_eq_true rfl) (Nat.le_of_ble_eq_true rfl) (Nat.le_of_ble_eq_true rfl) hlocks ?_ (fun z hz => nomatch hz) (Nat.le_of_ble_eq_true rfl) (Nat.le_of_ble_eq_true rfl)
    · exact vx_hat (fun w h => hts w (List.mem_cons_of_mem _ (List.mem_append_right _ h))) rowBad (vx_c (va_Nw.use rfl hE2.1) (vx_c (va_Nw.use rfl hE2.2.1) (vx_c (va_Nw.use rfl hE2.2.2.1) (vx_c (va_Nw.use rfl hE2.2.2.2.1) vx_n))))
    · intro t ha hz hsame
      exact ⟨(), hn, ⟨rfl, hP.kept (fun k q hk => hsame q.1 (hP k q hk).lt), va_K.moved ha hK⟩, hz, fun q hq _ => hsame q hq⟩
  refine lv_iload_n hx hb dX5_row_0 rfl (lv_at hl 1 rfl) ?_
  refine lv_if_lt (tgt := 12) hx hb dX5_row_1 (by decide) (fun c_ => ?_) (fun c_ => ?_)
  · exact throw (fun z => z.1 c_)
  · refine lv_iload_n hx hb dX5_row_4 rfl (lv_at hl 1 rfl) ?_
    refine lv_aload_n hx hb dX5_row_5 rfl (lv_at hl 0 rfl) ?_
    refine va_get (D := (dC, dI)) (ci := 5) (v := .int tc) (C := RX5) (T := TX5) (N := 10) hx hb hts hi5 hown hK hP 0 rfl rfl 9 (by decide) (hts (.fieldLink RX5 58 "OptionLattice" "toldCount" "I") (by decide +kernel)) (fun _ h9 => h9) rfl dX5_row_6 ?_
    refine lv_icmp_lt (tgt := 20) hx hb dX5_row_9 (by decide) (fun c2 => ?_) (fun c2 => ?_)
    · refine lv_aload_n hx hb dX5_row_20 rfl (lv_at hl 0 rfl) ?_
      refine va_get (D := (dC, dI)) (ci := 5) (v := .ref h9) (C := RX5) (T := TX5) (N := 10) hx hb hts hi5 hown hK hP 0 rfl rfl 8 (by decide) (hts (.fieldLink RX5 54 "OptionLattice" "told" "[J") (by decide +kernel)) (fun _ h9 => h9) rfl dX5_row_21 ?_
      refine lv_iload_n hx hb dX5_row_24 rfl (lv_at hl 1 rfl) ?_
      refine va_lald hx hb hK hP 1 2 rfl rfl (htc v1 c_ c2) dX5_row_25 ?_
      refine W.widen (k := 1) (n := 6) (Nat.le_of_ble_eq_true rfl) (Nat.le_of_ble_eq_true rfl) ?_
      refine vx_ret ?_
      exact W.lret (v := told v1.toNatClampNeg) hx hb hr (fun t ht hW => ⟨⟨told v1.toNatClampNeg, (), rfl, ⟨⟨c_, c2⟩, rfl⟩, by rw [ht]; exact hP, va_K.moved hW.alike hK⟩, hS.F ht⟩) hS.2.2 dX5_row_26
    · exact throw (fun z => c2 z.2)
theorem Met_ofWH {l : Launch} {y : MethodName} {ws ws' : List Cond} {rm : Room} {Pc : Array Value → State → Prop} {Qc : Array Value → State → Outcome → State → Prop} {mc ms : Nat} {free : Addr → Prop} {cc : ByteArray} {maxL : Nat} {ret : Option FieldType} {hh : List (Nat × Nat × Nat × Nat)}
    (hy : plainName y.cls = true) (hw : ws = Cond.codeWith y cc maxL ret hh :: ws')
    (body : ∀ p e s m args below meth c s₁, BodyLoose p l y (headSpec ws rm) cc maxL ret e s m args below meth c s₁ → c.maxLocals = maxL → Pc args s →
      W p l e (headSpec ws rm).room s m args below meth c s.heap [] 0 0 (MQ below Qc args s mc ms free) (entryFrame m args maxL)) : Met l y ws rm Pc Qc mc ms free := by
  refine MetFree.of_bodyS (code := cc) (maxLocals := maxL) (ret := ret) hy ?_ ?_
  · intro args s m h hn
    obtain ⟨m9, meth, c, hn9, h1, h2, h3, h4, -, h5, h6, -⟩ := Cond.codeWith_spec (atoms_spec (ws := ws) h _ (by rw [hw]; exact List.mem_cons_self))
    cases hn.symm.trans hn9
    exact ⟨meth, c, h1, h2, h3, h4, h5, h6⟩
  · intro p e s m args below meth c s₁ B hml hP _
    have hh0 : s₁.heap = s.heap := by rw [B.state]; rfl
    obtain ⟨t, a1, o, b1, b2, b3⟩ := body p e s m args below meth c s₁ B hml hP s₁ hh0 (Stand.of_body B)
    exact ⟨t, o, a1, b1, b2, ⟨b3.1, b3.2⟩⟩
abbrev rmL_row : Room := { frames := 7, cells := 1, slots := 6, locals := 102 }
abbrev rowV (cyC cyI cyJ : ClassId) (h0 h1 h2 h3 h4 h5 h6 h7 h8 h9 ho : Nat) (tc : Int32) (told out : Nat → Int64) : va_W :=
  [(h0, .inr (5, [.ref h1, .ref h2, .ref h3, .ref h4, .ref h5, .ref h6, .ref h7, .ref h8, .ref h9, .int tc])), (h9, .inl (cyJ, 6, .inr (.inl told))), (ho, .inl (cyJ, 1, .inr (.inl out)))]
set_option maxHeartbeats 4000000 in
set_option maxRecDepth 100000 in
theorem c_L_row (l : Launch) (hl0 : l.stackTraces = false) (dC : Nat → ClassId) (dI : Nat → Nat → Nat) (cyC cyI cyJ : ClassId) (h0 h1 h2 h3 h4 h5 h6 h7 h8 h9 ho : Nat) (tc : Int32) (told out : Nat → Int64) (v1 : Int32) (htc : ∀ x : Int32, ¬ x < 0 → x < tc → vp_in x 6) (sz : Nat) :
    Met l yL_row wsL_row rmL_row (uP2 (dC, dI) [(cyC, .char), (cyI, .int), (cyJ, .long)] [.ref h0, .int v1, .ref ho] (rowV cyC cyI cyJ h0 h1 h2 h3 h4 h5 h6 h7 h8 h9 ho tc told out) sz)
      (va_Qi (fun r (o : Nat → Int64) => ((¬ v1 < 0 ∧ v1 < tc) ∧ r = 0 ∧ o = vp_updL out (0 : Int32).toNatClampNeg (told v1.toNatClampNeg)) ∨ (¬ (¬ v1 < 0 ∧ v1 < tc) ∧ r = 1 ∧ o = out)) (fun o t => va_P (dC, dI) vwCl (rowV cyC cyI cyJ h0 h1 h2 h3 h4 h5 h6 h7 h8 h9 ho tc told o) t.heap ∧ va_K (dC, dI) vwCl [(cyC, .char), (cyI, .int), (cyJ, .long)] t) (va_A (rowV cyC cyI cyJ h0 h1 h2 h3 h4 h5 h6 h7 h8 h9 ho tc told out) sz))
      1 6 (va_A (rowV cyC cyI cyJ h0 h1 h2 h3 h4 h5 h6 h7 h8 h9 ho tc told out) sz) := by
  refine Met_ofWH (cc := cL_row) (maxL := 4) (ret := some .int) (hh := [(0, 8, 11, 13)]) (by decide) rfl ?_
  intro p e s m args below meth c s₁ B hml hv
  obtain ⟨rfl, hsz, hP, hK, hD0, hE, hE2⟩ := hv
  subst hsz
  have hD := hD0.self (sz := s.heap.size)
  have hx := B.exec
  have hb := B.bytes
  have hr := B.returns
  have hts := atoms_spec (ws := wsL_row) B.pre
  have hown : s.vm.findClass RL = some m.cls := findClass_of_methodNamed B.named
  have hlocks := B.notSynchronized
  have htab := vx_table (x := yL_row) B (hts _ List.mem_cons_self)
  have hl := lv_entry [.ref h0, .int v1, .ref ho] (n := 4) (Nat.le_of_ble_eq_true rfl)
  rw [lg_entry_eq]
  generalize (lg_sl ([.ref h0, .int v1, .ref ho]) ++ List.replicate (4 - (lg_sl ([.ref h0, .int v1, .ref ho])).length) Slot.unset).toArray = ls at hl ⊢
  have hl : lv_has ls 4 [(0, .ref h0), (1, .int v1), (2, .ref ho)] := hl
  have hA : ∀ q : Nat, s.heap.size ≤ q → va_A (rowV cyC cyI cyJ h0 h1 h2 h3 h4 h5 h6 h7 h8 h9 ho tc told out) s.heap.size q := fun q h => Or.inr h
  generalize hAe : va_A (rowV cyC cyI cyJ h0 h1 h2 h3 h4 h5 h6 h7 h8 h9 ho tc told out) s.heap.size = A at hD hE hE2 hA ⊢
  have hS : va_S A s.heap s.heap [] := va_S.rf
  refine lv_aload_n hx hb dL_row_0 rfl (lv_at hl 2 rfl) ?_
  refine lv_iconst (v := 0) hx hb dL_row_1 (by decide) ?_
  refine lv_aload_n hx hb dL_row_2 rfl (lv_at hl 0 rfl) ?_
  refine lv_iload_n hx hb dL_row_3 rfl (lv_at hl 1 rfl) ?_
  have hC : [0, 1].map (fun i => (rowV cyC cyI cyJ h0 h1 h2 h3 h4 h5 h6 h7 h8 h9 ho tc told out)[i]?) = (rowW cyC cyI cyJ h0 h1 h2 h3 h4 h5 h6 h7 h8 h9 tc told).map some := rfl
  have hFc := va_free (wc := rowW cyC cyI cyJ h0 h1 h2 h3 h4 h5 h6 h7 h8 h9 tc told) hD hS hA [0, 1] hC
  refine vx_calll (vx_runV (As := [.int v1]) (rest := [.int 0, .ref ho]) ⟨hx, hb, hml, hown, hts⟩ (c_X5_row l hl0 dC dI cyC cyI cyJ h0 h1 h2 h3 h4 h5 h6 h7 h8 h9 tc told v1 htc s.heap.size) (cwV 1 hts gL_row_X5_row rfl rfl rfl (by decide +kernel) ⟨Nat.le_of_ble_eq_true rfl, Nat.le_of_ble_eq_true rfl⟩) ⟨uP2.blind, va_recv hK (hP.sub [0, 1] (uSub hC)) (ci := 5) (q0 := 0) rfl rfl, uP2.here hK hP hD hS hA hE hE2 [0, 1] rfl hC⟩ rfl rfl hl.1 rfl (lv_room (Nat.le_of_ble_eq_true rfl)) dL_row_4 ⟨Nat.le_of_ble_eq_true rfl, Nat.le_of_ble_eq_true rfl⟩) hS (fun q _ h => hFc q h) hFc (fun q _ h => hFc q h) ?_ ?_
  · intro E ce q9 u t H1 locs1 ht hvm hpx hBX hz hk1 hS1 hce hcv hcl
    obtain ⟨rfl, hP1, hK1⟩ := hBX
    rw [ht] at hP1
    obtain ⟨hP', hD'⟩ := uJoin hP hD hC rfl hk1 hP1
    have hP' : va_P (dC, dI) vwCl (rowV cyC cyI cyJ h0 h1 h2 h3 h4 h5 h6 h7 h8 h9 ho tc told out) H1 := hP'
    refine vx_catch (own := RL) (name := NSE) (E := NSE) hown [] { startPc := 0, endPc := 8, handlerPc := 11, catchType := 13 } [] htab (fun z hz => nomatch hz) rfl (by decide) (hts (.classLink RL 13 "java/util/NoSuchElementException") (by decide +kernel)) (va_Nw.use rfl hE2.2.2.2.1) hce hcv hcl ?_
    refine lv_astore_n (lv' := [(3, .ref q9), (0, .ref h0), (1, .int v1), (2, .ref ho)]) hx hb dL_row_11 rfl hl (by decide) rfl (fun ls hl => ?_)
    refine lv_iconst (v := 1) hx hb dL_row_12 (by decide) ?_
    exact W.iret (v := 1) hx hb hr (fun t ht hW => ⟨⟨1, out, rfl, Or.inr ⟨hpx, rfl, rfl⟩, by rw [ht]; exact hP', va_K.moved hW.alike hK⟩, hS1.F ht⟩) hS1.2.2 dL_row_13
  · intro r u t H1 locs1 ht hvm hpost hB hz hk1 hS1
    obtain ⟨hP1, hK1⟩ := hB
    obtain ⟨hc1, rfl⟩ := hpost
    rw [ht] at hP1
    obtain ⟨hP', hD'⟩ := uJoin hP hD hC rfl hk1 hP1
    have hP' : va_P (dC, dI) vwCl (rowV cyC cyI cyJ h0 h1 h2 h3 h4 h5 h6 h7 h8 h9 ho tc told out) H1 := hP'
    have hD' : va_D A (rowV cyC cyI cyJ h0 h1 h2 h3 h4 h5 h6 h7 h8 h9 ho tc told out) := hD'
    refine va_last hx hb hK hP' hD' hS1 2 2 rfl rfl (inb_in rfl) dL_row_7 (fun H2 locs2 hP2 hD2 hS2 => ?_)
    have hP2 : va_P (dC, dI) vwCl (rowV cyC cyI cyJ h0 h1 h2 h3 h4 h5 h6 h7 h8 h9 ho tc told (vp_updL out (0 : Int32).toNatClampNeg (told v1.toNatClampNeg))) H2 := hP2
    refine lv_goto (tgt := 14) hx hb dL_row_8 (by decide) ?_
    refine lv_iconst (v := 0) hx hb dL_row_14 (by decide) ?_
    exact W.iret (v := 0) hx hb hr (fun t ht hW => ⟨⟨0, _, rfl, Or.inl ⟨hc1, rfl, rfl⟩, by rw [ht]; exact hP2, va_K.moved hW.alike hK⟩, hS2.F ht⟩) hS2.2.2 dL_row_15
