def m_X1_become (size_ : Int32) (kept_ : Int32) (choicesOf_ : Nat → Int32) (a1_size_ : Int32) (a1_kept_ : Int32) (a1_choicesOf_ : Nat → Int32) : Option (Int32 × Int32 × (Nat → Int32)) :=
  some (a1_size_, a1_kept_, (va_cpy a1_choicesOf_ choicesOf_ (0 : Int32).toNatClampNeg (0 : Int32).toNatClampNeg (24 : Int32).toNatClampNeg))
abbrev rmX1_become : Room := { frames := 1, cells := 0, slots := 0, locals := 60 }
set_option maxHeartbeats 4000000 in
set_option maxRecDepth 100000 in
theorem c_X1_become (l : Launch) (dC : Nat → ClassId) (dI : Nat → Nat → Nat) (cyC cyI cyJ : ClassId) (h0 h0_choicesOf h1 h1_choicesOf : Nat) (size_ : Int32) (kept_ : Int32) (choicesOf_ : Nat → Int32) (a1_size_ : Int32) (a1_kept_ : Int32) (a1_choicesOf_ : Nat → Int32) (o0 : Int32) (o1 : Int32) (o2 : Nat → Int32) (h : m_X1_become size_ kept_ choicesOf_ a1_size_ a1_kept_ a1_choicesOf_ = some (o0, o1, o2)) : uMv l yX1_become wsX1_become rmX1_become (dC, dI) [(cyC, .char), (cyI, .int), (cyJ, .long)] [.ref h0, .ref h1] [(h0, .inr (1, [.ref h0_choicesOf, .int size_, .int kept_])), (h0_choicesOf, .inl (cyI, 24, .inl choicesOf_)), (h1, .inr (1, [.ref h1_choicesOf, .int a1_size_, .int a1_kept_])), (h1_choicesOf, .inl (cyI, 24, .inl a1_choicesOf_))] [(h0, .inr (1, [.ref h0_choicesOf, .int o0, .int o1])), (h0_choicesOf, .inl (cyI, 24, .inl o2)), (h1, .inr (1, [.ref h1_choicesOf, .int a1_size_, .int a1_kept_])), (h1_choicesOf, .inl (cyI, 24, .inl a1_choicesOf_))] := by
  refine uMv.of (cc := cX1_become) (maxL := 2) (by decide) rfl (Nat.le_of_ble_eq_true rfl) (fun p e s m args below meth c A ls Q hx hb hml hown hts hA hP hK hD hE hS hl hret => ?_)
  have hown : s.vm.findClass RX1 = some m.cls := hown
  have hl : lv_has ls 2 [(0, .ref h0), (1, .ref h1)] := hl
  have hiX1 : ∀ w ∈ u_ws RX1 TX1 3, w ∈ wsX1_become := fun _ h9 => List.mem_cons_of_mem _ (List.mem_append_right _ h9)
  unfold m_X1_become at h
  refine lv_aload_n hx hb dX1_become_0 rfl (lv_at hl 0 rfl) ?_
  refine lv_aload_n hx hb dX1_become_1 rfl (lv_at hl 1 rfl) ?_
  refine va_get (D := (dC, dI)) (ci := 1) (v := .int a1_size_) (C := RX1) (T := TX1) (N := 3) hx hb hts hiX1 hown hK hP 2 rfl rfl 1 (by decide) (hts (.fieldLink RX1 15 "OptionLattice$Roll" "size" "I") (by decide +kernel)) (fun _ h9 => h9) rfl dX1_become_2 ?_
  refine va_put (D := (dC, dI)) (ci := 1) (v := .int a1_size_) (ty := .int) (C := RX1) (T := TX1) (N := 3) hx hb hts hiX1 tyX1 tyX1_ok nmX1 hown hK hP hD hS 0 rfl rfl 1 (by decide) (hts (.fieldLink RX1 15 "OptionLattice$Roll" "size" "I") (by decide +kernel)) (fun _ h9 => h9) rfl (by decide +kernel) rfl rfl (Nat.le_of_ble_eq_true rfl) dX1_become_5 (fun H locs hP hD hS => ?_)
  have hP : va_P (dC, dI) vwCl [(h0, .inr (1, [.ref h0_choicesOf, .int a1_size_, .int kept_])), (h0_choicesOf, .inl (cyI, 24, .inl choicesOf_)), (h1, .inr (1, [.ref h1_choicesOf, .int a1_size_, .int a1_kept_])), (h1_choicesOf, .inl (cyI, 24, .inl a1_choicesOf_))] H := hP
  have hD : va_D A [(h0, .inr (1, [.ref h0_choicesOf, .int a1_size_, .int kept_])), (h0_choicesOf, .inl (cyI, 24, .inl choicesOf_)), (h1, .inr (1, [.ref h1_choicesOf, .int a1_size_, .int a1_kept_])), (h1_choicesOf, .inl (cyI, 24, .inl a1_choicesOf_))] := hD
  refine lv_aload_n hx hb dX1_become_8 rfl (lv_at hl 0 rfl) ?_
  refine lv_aload_n hx hb dX1_become_9 rfl (lv_at hl 1 rfl) ?_
  refine va_get (D := (dC, dI)) (ci := 1) (v := .int a1_kept_) (C := RX1) (T := TX1) (N := 3) hx hb hts hiX1 hown hK hP 2 rfl rfl 2 (by decide) (hts (.fieldLink RX1 19 "OptionLattice$Roll" "kept" "I") (by decide +kernel)) (fun _ h9 => h9) rfl dX1_become_10 ?_
  refine va_put (D := (dC, dI)) (ci := 1) (v := .int a1_kept_) (ty := .int) (C := RX1) (T := TX1) (N := 3) hx hb hts hiX1 tyX1 tyX1_ok nmX1 hown hK hP hD hS 0 rfl rfl 2 (by decide) (hts (.fieldLink RX1 19 "OptionLattice$Roll" "kept" "I") (by decide +kernel)) (fun _ h9 => h9) rfl (by decide +kernel) rfl rfl (Nat.le_of_ble_eq_true rfl) dX1_become_13 (fun H locs hP hD hS => ?_)
  have hP : va_P (dC, dI) vwCl [(h0, .inr (1, [.ref h0_choicesOf, .int a1_size_, .int a1_kept_])), (h0_choicesOf, .inl (cyI, 24, .inl choicesOf_)), (h1, .inr (1, [.ref h1_choicesOf, .int a1_size_, .int a1_kept_])), (h1_choicesOf, .inl (cyI, 24, .inl a1_choicesOf_))] H := hP
  have hD : va_D A [(h0, .inr (1, [.ref h0_choicesOf, .int a1_size_, .int a1_kept_])), (h0_choicesOf, .inl (cyI, 24, .inl choicesOf_)), (h1, .inr (1, [.ref h1_choicesOf, .int a1_size_, .int a1_kept_])), (h1_choicesOf, .inl (cyI, 24, .inl a1_choicesOf_))] := hD
  refine lv_aload_n hx hb dX1_become_16 rfl (lv_at hl 1 rfl) ?_
  refine va_get (D := (dC, dI)) (ci := 1) (v := .ref h1_choicesOf) (C := RX1) (T := TX1) (N := 3) hx hb hts hiX1 hown hK hP 2 rfl rfl 0 (by decide) (hts (.fieldLink RX1 9 "OptionLattice$Roll" "choicesOf" "[I") (by decide +kernel)) (fun _ h9 => h9) rfl dX1_become_17 ?_
  refine lv_iconst (v := 0) hx hb dX1_become_20 (by decide) ?_
  refine lv_aload_n hx hb dX1_become_21 rfl (lv_at hl 0 rfl) ?_
  refine va_get (D := (dC, dI)) (ci := 1) (v := .ref h0_choicesOf) (C := RX1) (T := TX1) (N := 3) hx hb hts hiX1 hown hK hP 0 rfl rfl 0 (by decide) (hts (.fieldLink RX1 9 "OptionLattice$Roll" "choicesOf" "[I") (by decide +kernel)) (fun _ h9 => h9) rfl dX1_become_22 ?_
  refine lv_iconst (v := 0) hx hb dX1_become_25 (by decide) ?_
  refine lv_bipush (v := 24) hx hb dX1_become_26 (by decide) ?_
  refine va_copyi hx hb (hml.trans hl.1.symm) hown (hts (.methodLink RX1 22 arraycopyName) (by decide +kernel)) (hts (.native arraycopyName) (by decide +kernel)) (hts (.static arraycopyName) (by decide +kernel)) (hts (.initialized "java/lang/System") (by decide +kernel)) hK hP hD hS 3 1 1 1 rfl rfl rfl rfl rfl (by decide) (by decide) (by decide) (by decide) (by decide) (fun _ _ => rfl) (Nat.le_of_ble_eq_true rfl) (by decide) dX1_become_28 (fun H locs hP hD hS => ?_)
  have hP : va_P (dC, dI) vwCl [(h0, .inr (1, [.ref h0_choicesOf, .int a1_size_, .int a1_kept_])), (h0_choicesOf, .inl (cyI, 24, .inl (va_cpy a1_choicesOf_ choicesOf_ (0 : Int32).toNatClampNeg (0 : Int32).toNatClampNeg (24 : Int32).toNatClampNeg))), (h1, .inr (1, [.ref h1_choicesOf, .int a1_size_, .int a1_kept_])), (h1_choicesOf, .inl (cyI, 24, .inl a1_choicesOf_))] H := hP
  have hD : va_D A [(h0, .inr (1, [.ref h0_choicesOf, .int a1_size_, .int a1_kept_])), (h0_choicesOf, .inl (cyI, 24, .inl (va_cpy a1_choicesOf_ choicesOf_ (0 : Int32).toNatClampNeg (0 : Int32).toNatClampNeg (24 : Int32).toNatClampNeg))), (h1, .inr (1, [.ref h1_choicesOf, .int a1_size_, .int a1_kept_])), (h1_choicesOf, .inl (cyI, 24, .inl a1_choicesOf_))] := hD
  have h : some (a1_size_, a1_kept_, (va_cpy a1_choicesOf_ choicesOf_ (0 : Int32).toNatClampNeg (0 : Int32).toNatClampNeg (24 : Int32).toNatClampNeg)) = some (o0, o1, o2) := h
  have z0 := Option.some.inj h
  obtain ⟨rfl, z1⟩ := Prod.mk.inj z0
  obtain ⟨rfl, z2⟩ := Prod.mk.inj z1
  obtain rfl := z2
  exact hret _ _ _ _ hP hS dX1_become_31

def m_X1_choosersOf_4 (size_ : Int32) (choicesOf_ : Nat → Int32) (v1 : Int32) (rec4 : Int32 → Int32 → Option (Int32)) : Int32 → Int32 → Option (Int32) := fun v2 v3 =>
  (if size_ ≤ v3 then some v2 else gd (inb v3 24) ((if ((choicesOf_ v3.toNatClampNeg) &&& v1) = v1 then lt' (v2 ||| ((1 : Int32) <<< (v3 &&& 31))) (fun v2_3 => lt' (v3 + 1) (fun v3_4 => rec4 v2_3 v3_4)) else lt' (v2 ||| 0) (fun v2_1 => lt' (v3 + 1) (fun v3_2 => rec4 v2_1 v3_2)))))
def m_X1_choosersOf (size_ : Int32) (choicesOf_ : Nat → Int32) (v1 : Int32) : Option (Int32) :=
  it2 (m_X1_choosersOf_4 size_ choicesOf_ v1) 1100 0 0
abbrev rmX1_choosersOf : Room := { frames := 0, cells := 0, slots := 0, locals := 0 }
set_option maxHeartbeats 4000000 in
set_option maxRecDepth 100000 in
theorem c_X1_choosersOf (l : Launch) (dC : Nat → ClassId) (dI : Nat → Nat → Nat) (cyC cyI cyJ : ClassId) (h0 h0_choicesOf : Nat) (size_ : Int32) (kept_ : Int32) (choicesOf_ : Nat → Int32) (v1 : Int32) (rr : Int32) (h : m_X1_choosersOf size_ choicesOf_ v1 = some rr) : uMi l yX1_choosersOf wsX1_choosersOf rmX1_choosersOf (dC, dI) [(cyC, .char), (cyI, .int), (cyJ, .long)] [.ref h0, .int v1] [(h0, .inr (1, [.ref h0_choicesOf, .int size_, .int kept_])), (h0_choicesOf, .inl (cyI, 24, .inl choicesOf_))] [(h0, .inr (1, [.ref h0_choicesOf, .int size_, .int kept_])), (h0_choicesOf, .inl (cyI, 24, .inl choicesOf_))] rr := by
  refine uMi.of (cc := cX1_choosersOf) (maxL := 4) (by decide) rfl (Nat.le_of_ble_eq_true rfl) (fun p e s m args below meth c A ls Q hx hb hml hown hts hA hP hK hD hE hS hl hret => ?_)
  have hown : s.vm.findClass RX1 = some m.cls := hown
  have hl : lv_has ls 4 [(0, .ref h0), (1, .int v1)] := hl
  have hiX1 : ∀ w ∈ u_ws RX1 TX1 3, w ∈ wsX1_choosersOf := fun _ h9 => List.mem_cons_of_mem _ (List.mem_append_right _ h9)
  have L4 : ∀ (n4 : Nat), ∀ (v2 : Int32), ∀ (v3 : Int32), it2 (m_X1_choosersOf_4 size_ choicesOf_ v1) n4 v2 v3 = some rr → ∀ (H : Heap) (locs : List Loc) (ls : Array Slot), va_P (dC, dI) vwCl [(h0, .inr (1, [.ref h0_choicesOf, .int size_, .int kept_])), (h0_choicesOf, .inl (cyI, 24, .inl choicesOf_))] H → va_D A [(h0, .inr (1, [.ref h0_choicesOf, .int size_, .int kept_])), (h0_choicesOf, .inl (cyI, 24, .inl choicesOf_))] → va_S A s.heap H locs → lv_has ls 4 [(0, .ref h0), (1, .int v1), (2, .int v2), (3, .int v3)] → W p l e rmX1_choosersOf s m args below meth c H locs 0 0 Q (F0 m 4 ls []) := by
    intro n4
    induction n4 with
    | zero => intro v2 v3 h; exact absurd h (fun z => it2_z z)
    | succ n4 ih4 =>
      intro v2 v3 h H locs ls hP hD hS hl
      have h : m_X1_choosersOf_4 size_ choicesOf_ v1 (it2 (m_X1_choosersOf_4 size_ choicesOf_ v1) n4) v2 v3 = some rr := h
      unfold m_X1_choosersOf_4 at h
      refine lv_iload_n hx hb dX1_choosersOf_4 rfl (lv_at hl 3 rfl) ?_
      refine lv_aload_n hx hb dX1_choosersOf_5 rfl (lv_at hl 0 rfl) ?_
      refine va_get (D := (dC, dI)) (ci := 1) (v := .int size_) (C := RX1) (T := TX1) (N := 3) hx hb hts hiX1 hown hK hP 0 rfl rfl 1 (by decide) (hts (.fieldLink RX1 15 "OptionLattice$Roll" "size" "I") (by decide +kernel)) (fun _ h9 => h9) rfl dX1_choosersOf_6 ?_
      refine lv_icmp_ge (tgt := 40) hx hb dX1_choosersOf_9 (by decide) (fun c_ => ?_) (fun c_ => ?_)
      · have h := (if_pos c_).symm.trans h
        refine lv_iload_n hx hb dX1_choosersOf_40 rfl (lv_at hl 2 rfl) ?_
        have h : some v2 = some rr := h
        have z0 := Option.some.inj h
        obtain rfl := z0
        exact hret _ _ _ _ hP hS rfl dX1_choosersOf_41
      · have h := (if_neg c_).symm.trans h
        refine lv_iload_n hx hb dX1_choosersOf_12 rfl (lv_at hl 2 rfl) ?_
        refine lv_aload_n hx hb dX1_choosersOf_13 rfl (lv_at hl 0 rfl) ?_
        refine va_get (D := (dC, dI)) (ci := 1) (v := .ref h0_choicesOf) (C := RX1) (T := TX1) (N := 3) hx hb hts hiX1 hown hK hP 0 rfl rfl 0 (by decide) (hts (.fieldLink RX1 9 "OptionLattice$Roll" "choicesOf" "[I") (by decide +kernel)) (fun _ h9 => h9) rfl dX1_choosersOf_14 ?_
        refine lv_iload_n hx hb dX1_choosersOf_17 rfl (lv_at hl 3 rfl) ?_
        obtain ⟨g_, h⟩ := gd_some h
        refine va_iald hx hb hK hP 1 1 rfl rfl (inb_in g_) dX1_choosersOf_18 ?_
        refine lv_iload_n hx hb dX1_choosersOf_19 rfl (lv_at hl 1 rfl) ?_
        refine lv_iand hx hb dX1_choosersOf_20 ?_
        refine lv_iload_n hx hb dX1_choosersOf_21 rfl (lv_at hl 1 rfl) ?_
        refine lv_icmp_ne (tgt := 31) hx hb dX1_choosersOf_22 (by decide) (fun c_ => ?_) (fun c_ => ?_)
        · have h := (if_neg c_).symm.trans h
          refine lv_iconst (v := 0) hx hb dX1_choosersOf_31 (by decide) ?_
          refine lv_ior hx hb dX1_choosersOf_32 ?_
          refine lv_topi (fun v2_1 e_v2_1 => ?_)
          have h := lt_use e_v2_1 h
          refine lv_istore_n (lv' := [(2, .int v2_1), (0, .ref h0), (1, .int v1), (3, .int v3)]) hx hb dX1_choosersOf_33 rfl hl (by decide) rfl (fun ls hl => ?_)
          obtain ⟨v3_2, e_v3_2⟩ : ∃ z : Int32, z = (v3 + 1) := ⟨_, rfl⟩
          have h := lt_use e_v3_2 h
          refine lv_iinc (v := v3_2) (lv' := [(3, .int v3_2), (2, .int v2_1), (0, .ref h0), (1, .int v1)]) hx hb dX1_choosersOf_34 hl (k := 3) rfl (by rw [e_v3_2]; rfl) (by decide) rfl (fun ls hl => ?_)
          refine lv_goto (tgt := 4) hx hb dX1_choosersOf_37 (by decide) ?_
          exact ih4 v2_1 v3_2 h _ _ _ hP hD hS (lv_sub hl [2, 3, 1, 0] rfl)
        · have h := (if_pos c_).symm.trans h
          refine lv_iconst (v := 1) hx hb dX1_choosersOf_25 (by decide) ?_
          refine lv_iload_n hx hb dX1_choosersOf_26 rfl (lv_at hl 3 rfl) ?_
          refine lv_ishl hx hb dX1_choosersOf_27 ?_
          refine lv_goto (tgt := 32) hx hb dX1_choosersOf_28 (by decide) ?_
          refine lv_ior hx hb dX1_choosersOf_32 ?_
          refine lv_topi (fun v2_3 e_v2_3 => ?_)
          have h := lt_use e_v2_3 h
          refine lv_istore_n (lv' := [(2, .int v2_3), (0, .ref h0), (1, .int v1), (3, .int v3)]) hx hb dX1_choosersOf_33 rfl hl (by decide) rfl (fun ls hl => ?_)
          obtain ⟨v3_4, e_v3_4⟩ : ∃ z : Int32, z = (v3 + 1) := ⟨_, rfl⟩
          have h := lt_use e_v3_4 h
          refine lv_iinc (v := v3_4) (lv' := [(3, .int v3_4), (2, .int v2_3), (0, .ref h0), (1, .int v1)]) hx hb dX1_choosersOf_34 hl (k := 3) rfl (by rw [e_v3_4]; rfl) (by decide) rfl (fun ls hl => ?_)
          refine lv_goto (tgt := 4) hx hb dX1_choosersOf_37 (by decide) ?_
          exact ih4 v2_3 v3_4 h _ _ _ hP hD hS (lv_sub hl [2, 3, 1, 0] rfl)
  unfold m_X1_choosersOf at h
  refine lv_iconst (v := 0) hx hb dX1_choosersOf_0 (by decide) ?_
  refine lv_istore_n (lv' := [(2, .int 0), (0, .ref h0), (1, .int v1)]) hx hb dX1_choosersOf_1 rfl hl (by decide) rfl (fun ls hl => ?_)
  refine lv_iconst (v := 0) hx hb dX1_choosersOf_2 (by decide) ?_
  refine lv_istore_n (lv' := [(3, .int 0), (2, .int 0), (0, .ref h0), (1, .int v1)]) hx hb dX1_choosersOf_3 rfl hl (by decide) rfl (fun ls hl => ?_)
  exact L4  1100 0 0 h _ _ _ hP hD hS (lv_sub hl [2, 3, 1, 0] rfl)

def m_X1_readChoices_8 (size_ : Int32) (signs_ : Nat → Int32) (rec8 : Int32 → Int32 → Int32 → Int32 → Option (Int32 × Int32)) : Int32 → Int32 → Int32 → Int32 → Option (Int32 × Int32) := fun v1 v2 v3 at_ =>
  (if 6 ≤ v3 then some (v1, at_) else bd2 (m_X3_takeDigit size_ at_ signs_ v2) (fun r_1 at_2 => (if r_1 = (-1) then some (v1, at_2) else lt' (v1 ||| ((1 : Int32) <<< (r_1 &&& 31))) (fun v1_3 => bd1 (m_X5_digitsAbove r_1) (fun r_4 => lt' (v3 + 1) (fun v3_5 => rec8 v1_3 r_4 v3_5 at_2))))))
def m_X1_readChoices (size_ : Int32) (at_ : Int32) (signs_ : Nat → Int32) : Option (Int32 × Int32) :=
  it4 (m_X1_readChoices_8 size_ signs_) 1100 0 1023 0 at_
abbrev rmX1_readChoices : Room := { frames := 2, cells := 0, slots := 0, locals := 43 }
set_option maxHeartbeats 4000000 in
set_option maxRecDepth 100000 in
theorem c_X1_readChoices (l : Launch) (dC : Nat → ClassId) (dI : Nat → Nat → Nat) (cyC cyI cyJ : ClassId) (h0 h0_signs : Nat) (size_ : Int32) (at_ : Int32) (signs_ : Nat → Int32) (rr : Int32) (o0 : Int32) (h : m_X1_readChoices size_ at_ signs_ = some (rr, o0)) : uMi l yX1_readChoices wsX1_readChoices rmX1_readChoices (dC, dI) [(cyC, .char), (cyI, .int), (cyJ, .long)] [.ref h0] [(h0, .inr (3, [.ref h0_signs, .int size_, .int at_])), (h0_signs, .inl (cyC, 240, .inl signs_))] [(h0, .inr (3, [.ref h0_signs, .int size_, .int o0])), (h0_signs, .inl (cyC, 240, .inl signs_))] rr := by
  refine uMi.of (cc := cX1_readChoices) (maxL := 5) (by decide) rfl (Nat.le_of_ble_eq_true rfl) (fun p e s m args below meth c A ls Q hx hb hml hown hts hA hP hK hD hE hS hl hret => ?_)
  have hown : s.vm.findClass RX1 = some m.cls := hown
  have hl : lv_has ls 5 [(0, .ref h0)] := hl
  have L8 : ∀ (n8 : Nat), ∀ (v1 : Int32), ∀ (v2 : Int32), ∀ (v3 : Int32), ∀ (at_ : Int32), it4 (m_X1_readChoices_8 size_ signs_) n8 v1 v2 v3 at_ = some (rr, o0) → ∀ (H : Heap) (locs : List Loc) (ls : Array Slot), va_P (dC, dI) vwCl [(h0, .inr (3, [.ref h0_signs, .int size_, .int at_])), (h0_signs, .inl (cyC, 240, .inl signs_))] H → va_D A [(h0, .inr (3, [.ref h0_signs, .int size_, .int at_])), (h0_signs, .inl (cyC, 240, .inl signs_))] → va_S A s.heap H locs → lv_has ls 5 [(0, .ref h0), (1, .int v1), (2, .int v2), (3, .int v3)] → W p l e rmX1_readChoices s m args below meth c H locs 0 0 Q (F0 m 8 ls []) := by
    intro n8
    induction n8 with
    | zero => intro v1 v2 v3 at_ h; exact absurd h (fun z => it4_z z)
    | succ n8 ih8 =>
      intro v1 v2 v3 at_ h H locs ls hP hD hS hl
      have h : m_X1_readChoices_8 size_ signs_ (it4 (m_X1_readChoices_8 size_ signs_) n8) v1 v2 v3 at_ = some (rr, o0) := h
      unfold m_X1_readChoices_8 at h
      refine lv_iload_n hx hb dX1_readChoices_8 rfl (lv_at hl 3 rfl) ?_
      refine lv_bipush (v := 6) hx hb dX1_readChoices_9 (by decide) ?_
      refine lv_icmp_ge (tgt := 49) hx hb dX1_readChoices_11 (by decide) (fun c_ => ?_) (fun c_ => ?_)
      · have h := (if_pos c_).symm.trans h
        refine lv_iload_n hx hb dX1_readChoices_49 rfl (lv_at hl 1 rfl) ?_
        have h : some (v1, at_) = some (rr, o0) := h
        have z0 := Option.some.inj h
        obtain ⟨rfl, z1⟩ := Prod.mk.inj z0
        obtain rfl := z1
        exact hret _ _ _ _ hP hS rfl dX1_readChoices_50
      · have h := (if_neg c_).symm.trans h
        refine lv_aload_n hx hb dX1_readChoices_14 rfl (lv_at hl 0 rfl) ?_
        refine lv_iload_n hx hb dX1_readChoices_15 rfl (lv_at hl 2 rfl) ?_
        obtain ⟨r_1, at_2, hq, h⟩ := bd2_some h
        refine uV_i (b := h0) (As := [.int v2]) (rest := []) ⟨hx, hb, hml, hown, hts⟩ (c_X3_takeDigit l dC dI cyC cyI cyJ h0 h0_signs size_ at_ signs_ v2 r_1 at_2 hq) (cwV 1 hts gX1_readChoices_X3_takeDigit rfl rfl rfl (by decide +kernel) ⟨Nat.le_of_ble_eq_true rfl, Nat.le_of_ble_eq_true rfl⟩) hK hE hA hP hD hS [0, 1] rfl rfl rfl 3 0 rfl rfl rfl hl.1 rfl (Nat.le_of_ble_eq_true rfl) ⟨Nat.zero_le _, Nat.zero_le _⟩ dX1_readChoices_16 (fun H locs hP hD hS => ?_)
        have hP : va_P (dC, dI) vwCl [(h0, .inr (3, [.ref h0_signs, .int size_, .int at_2])), (h0_signs, .inl (cyC, 240, .inl signs_))] H := hP
        have hD : va_D A [(h0, .inr (3, [.ref h0_signs, .int size_, .int at_2])), (h0_signs, .inl (cyC, 240, .inl signs_))] := hD
        refine lv_istore (lv' := [(4, .int r_1), (0, .ref h0), (1, .int v1), (2, .int v2), (3, .int v3)]) hx hb dX1_readChoices_19 hl (by decide) rfl (fun ls hl => ?_)
        refine lv_iload hx hb dX1_readChoices_21 (lv_at hl 0 rfl) ?_
        refine lv_iconst (v := (-1)) hx hb dX1_readChoices_23 (by decide) ?_
        refine lv_icmp_ne (tgt := 30) hx hb dX1_readChoices_24 (by decide) (fun c_ => ?_) (fun c_ => ?_)
        · have h := (if_neg c_).symm.trans h
          refine lv_iload_n hx hb dX1_readChoices_30 rfl (lv_at hl 2 rfl) ?_
          refine lv_iconst (v := 1) hx hb dX1_readChoices_31 (by decide) ?_
          refine lv_iload hx hb dX1_readChoices_32 (lv_at hl 0 rfl) ?_
          refine lv_ishl hx hb dX1_readChoices_34 ?_
          refine lv_ior hx hb dX1_readChoices_35 ?_
          refine lv_topi (fun v1_3 e_v1_3 => ?_)
          have h := lt_use e_v1_3 h
          refine lv_istore_n (lv' := [(1, .int v1_3), (4, .int r_1), (0, .ref h0), (2, .int v2), (3, .int v3)]) hx hb dX1_readChoices_36 rfl hl (by decide) rfl (fun ls hl => ?_)
          refine lv_iload hx hb dX1_readChoices_37 (lv_at hl 1 rfl) ?_
          obtain ⟨r_4, hq, h⟩ := bd1_some h
          refine uN_i (As := [.int r_1]) (rest := []) ⟨hx, hb, hml, hown, hts⟩ (c_X5_digitsAbove l dC dI cyC cyI cyJ r_1 r_4 hq) ⟨va_cnB 1 hts gX1_readChoices_X5_digitsAbove_n49 rfl rfl rfl (hE.2.1 ("OptionLattice$Roll", 49, ⟨"OptionLattice", "digitsAbove", "(I)I"⟩) (List.mem_of_getElem? (i := 9) rfl)) (hts (.initialized RX5) (by decide +kernel)) (by decide +kernel) ⟨Nat.le_of_ble_eq_true rfl, Nat.le_of_ble_eq_true rfl⟩, (hts (.static yX5_digitsAbove) (by decide +kernel)), trivial⟩ hK hE hA hP hD hS [] rfl rfl rfl rfl hl.1 rfl (Nat.le_of_ble_eq_true rfl) ⟨Nat.zero_le _, Nat.zero_le _⟩ dX1_readChoices_39 (fun H locs hP hD hS => ?_)
          have hP : va_P (dC, dI) vwCl [(h0, .inr (3, [.ref h0_signs, .int size_, .int at_2])), (h0_signs, .inl (cyC, 240, .inl signs_))] H := hP
          have hD : va_D A [(h0, .inr (3, [.ref h0_signs, .int size_, .int at_2])), (h0_signs, .inl (cyC, 240, .inl signs_))] := hD
          refine lv_istore_n (lv' := [(2, .int r_4), (1, .int v1_3), (4, .int r_1), (0, .ref h0), (3, .int v3)]) hx hb dX1_readChoices_42 rfl hl (by decide) rfl (fun ls hl => ?_)
          obtain ⟨v3_5, e_v3_5⟩ : ∃ z : Int32, z = (v3 + 1) := ⟨_, rfl⟩
          have h := lt_use e_v3_5 h
          refine lv_iinc (v := v3_5) (lv' := [(3, .int v3_5), (2, .int r_4), (1, .int v1_3), (4, .int r_1), (0, .ref h0)]) hx hb dX1_readChoices_43 hl (k := 4) rfl (by rw [e_v3_5]; rfl) (by decide) rfl (fun ls hl => ?_)
          refine lv_goto (tgt := 8) hx hb dX1_readChoices_46 (by decide) ?_
          exact ih8 v1_3 r_4 v3_5 at_2 h _ _ _ hP hD hS (lv_sub hl [4, 2, 1, 0] rfl)
        · have h := (if_pos c_).symm.trans h
          refine lv_goto (tgt := 49) hx hb dX1_readChoices_27 (by decide) ?_
          refine lv_iload_n hx hb dX1_readChoices_49 rfl (lv_at hl 2 rfl) ?_
          have h : some (v1, at_2) = some (rr, o0) := h
          have z0 := Option.some.inj h
          obtain ⟨rfl, z1⟩ := Prod.mk.inj z0
          obtain rfl := z1
          exact hret _ _ _ _ hP hS rfl dX1_readChoices_50
  unfold m_X1_readChoices at h
  refine lv_iconst (v := 0) hx hb dX1_readChoices_0 (by decide) ?_
  refine lv_istore_n (lv' := [(1, .int 0), (0, .ref h0)]) hx hb dX1_readChoices_1 rfl hl (by decide) rfl (fun ls hl => ?_)
  refine lv_sipush (v := 1023) hx hb dX1_readChoices_2 (by decide) ?_
  refine lv_istore_n (lv' := [(2, .int 1023), (1, .int 0), (0, .ref h0)]) hx hb dX1_readChoices_5 rfl hl (by decide) rfl (fun ls hl => ?_)
  refine lv_iconst (v := 0) hx hb dX1_readChoices_6 (by decide) ?_
  refine lv_istore_n (lv' := [(3, .int 0), (2, .int 1023), (1, .int 0), (0, .ref h0)]) hx hb dX1_readChoices_7 rfl hl (by decide) rfl (fun ls hl => ?_)
  exact L8  1100 0 1023 0 at_ h _ _ _ hP hD hS (lv_sub hl [3, 2, 1, 0] rfl)

def m_X1_readFrom_13 (kept_ : Int32) (a1_size_ : Int32) (a1_signs_ : Nat → Int32) (rec13 : Int32 → (Nat → Int32) → Int32 → Option (Int32 × Int32 × Int32 × (Nat → Int32) × Int32)) : Int32 → (Nat → Int32) → Int32 → Option (Int32 × Int32 × Int32 × (Nat → Int32) × Int32) := fun size_ choicesOf_ a1_at_ =>
  (if 24 ≤ size_ then some (0, size_, kept_, choicesOf_, a1_at_) else bd2 (m_X1_readChoices a1_size_ a1_at_ a1_signs_) (fun r_1 a1_at_2 => (if r_1 = 0 then some (0, size_, kept_, choicesOf_, a1_at_2) else gd (inb size_ 24) (lt' (size_ + 1) (fun w_3 => bd1 (m_X3_isRead a1_size_ a1_at_2) (fun r_4 => (if r_4 = 0 then (if 24 ≤ w_3 then rec13 w_3 (upd choicesOf_ size_.toNatClampNeg r_1) a1_at_2 else bd2 (m_X3_takeSign a1_size_ a1_at_2 a1_signs_ 44) (fun r_5 a1_at_6 => (if r_5 = 0 then some (0, w_3, kept_, (upd choicesOf_ size_.toNatClampNeg r_1), a1_at_6) else rec13 w_3 (upd choicesOf_ size_.toNatClampNeg r_1) a1_at_6))) else some (1, w_3, kept_, (upd choicesOf_ size_.toNatClampNeg r_1), a1_at_2))))))))
def m_X1_readFrom (size_ : Int32) (kept_ : Int32) (choicesOf_ : Nat → Int32) (a1_size_ : Int32) (a1_at_ : Int32) (a1_signs_ : Nat → Int32) : Option (Int32 × Int32 × Int32 × (Nat → Int32) × Int32) :=
  bd2 (m_X1_empty size_ kept_) (fun size_7 kept_8 => bd1 (m_X3_isRead a1_size_ a1_at_) (fun r_9 => (if r_9 = 0 then it3 (m_X1_readFrom_13 kept_8 a1_size_ a1_signs_) 1100 size_7 choicesOf_ a1_at_ else some (1, size_7, kept_8, choicesOf_, a1_at_))))
abbrev rmX1_readFrom : Room := { frames := 3, cells := 0, slots := 0, locals := 67 }
set_option maxHeartbeats 4000000 in
set_option maxRecDepth 100000 in
theorem c_X1_readFrom (l : Launch) (dC : Nat → ClassId) (dI : Nat → Nat → Nat) (cyC cyI cyJ : ClassId) (h0 h0_choicesOf h1 h1_signs : Nat) (size_ : Int32) (kept_ : Int32) (choicesOf_ : Nat → Int32) (a1_size_ : Int32) (a1_at_ : Int32) (a1_signs_ : Nat → Int32) (rr : Int32) (o0 : Int32) (o1 : Int32) (o2 : Nat → Int32) (o3 : Int32) (h : m_X1_readFrom size_ kept_ choicesOf_ a1_size_ a1_at_ a1_signs_ = some (rr, o0, o1, o2, o3)) : uMi l yX1_readFrom wsX1_readFrom rmX1_readFrom (dC, dI) [(cyC, .char), (cyI, .int), (cyJ, .long)] [.ref h0, .ref h1] [(h0, .inr (1, [.ref h0_choicesOf, .int size_, .int kept_])), (h0_choicesOf, .inl (cyI, 24, .inl choicesOf_)), (h1, .inr (3, [.ref h1_signs, .int a1_size_, .int a1_at_])), (h1_signs, .inl (cyC, 240, .inl a1_signs_))] [(h0, .inr (1, [.ref h0_choicesOf, .int o0, .int o1])), (h0_choicesOf, .inl (cyI, 24, .inl o2)), (h1, .inr (3, [.ref h1_signs, .int a1_size_, .int o3])), (h1_signs, .inl (cyC, 240, .inl a1_signs_))] rr := by
  refine uMi.of (cc := cX1_readFrom) (maxL := 3) (by decide) rfl (Nat.le_of_ble_eq_true rfl) (fun p e s m args below meth c A ls Q hx hb hml hown hts hA hP hK hD hE hS hl hret => ?_)
  have hown : s.vm.findClass RX1 = some m.cls := hown
  have hl : lv_has ls 3 [(0, .ref h0), (1, .ref h1)] := hl
  have hiX1 : ∀ w ∈ u_ws RX1 TX1 3, w ∈ wsX1_readFrom := fun _ h9 => List.mem_cons_of_mem _ (List.mem_append_left _ (List.mem_append_right _ h9))
  have L13 : ∀ (kept_ : Int32), ∀ (n13 : Nat), ∀ (size_ : Int32), ∀ (choicesOf_ : Nat → Int32), ∀ (a1_at_ : Int32), it3 (m_X1_readFrom_13 kept_ a1_size_ a1_signs_) n13 size_ choicesOf_ a1_at_ = some (rr, o0, o1, o2, o3) → ∀ (H : Heap) (locs : List Loc) (ls : Array Slot), va_P (dC, dI) vwCl [(h0, .inr (1, [.ref h0_choicesOf, .int size_, .int kept_])), (h0_choicesOf, .inl (cyI, 24, .inl choicesOf_)), (h1, .inr (3, [.ref h1_signs, .int a1_size_, .int a1_at_])), (h1_signs, .inl (cyC, 240, .inl a1_signs_))] H → va_D A [(h0, .inr (1, [.ref h0_choicesOf, .int size_, .int kept_])), (h0_choicesOf, .inl (cyI, 24, .inl choicesOf_)), (h1, .inr (3, [.ref h1_signs, .int a1_size_, .int a1_at_])), (h1_signs, .inl (cyC, 240, .inl a1_signs_))] → va_S A s.heap H locs → lv_has ls 3 [(0, .ref h0), (1, .ref h1)] → W p l e rmX1_readFrom s m args below meth c H locs 0 0 Q (F0 m 13 ls []) := by
    intro kept_ n13
    induction n13 with
    | zero => intro size_ choicesOf_ a1_at_ h; exact absurd h (fun z => it3_z z)
    | succ n13 ih13 =>
      intro size_ choicesOf_ a1_at_ h H locs ls hP hD hS hl
      have h : m_X1_readFrom_13 kept_ a1_size_ a1_signs_ (it3 (m_X1_readFrom_13 kept_ a1_size_ a1_signs_) n13) size_ choicesOf_ a1_at_ = some (rr, o0, o1, o2, o3) := h
      unfold m_X1_readFrom_13 at h
      refine lv_aload_n hx hb dX1_readFrom_13 rfl (lv_at hl 0 rfl) ?_
      refine va_get (D := (dC, dI)) (ci := 1) (v := .int size_) (C := RX1) (T := TX1) (N := 3) hx hb hts hiX1 hown hK hP 0 rfl rfl 1 (by decide) (hts (.fieldLink RX1 15 "OptionLattice$Roll" "size" "I") (by decide +kernel)) (fun _ h9 => h9) rfl dX1_readFrom_14 ?_
      refine lv_bipush (v := 24) hx hb dX1_readFrom_17 (by decide) ?_
      refine lv_icmp_ge (tgt := 85) hx hb dX1_readFrom_19 (by decide) (fun c_ => ?_) (fun c_ => ?_)
      · have h := (if_pos c_).symm.trans h
        refine lv_iconst (v := 0) hx hb dX1_readFrom_85 (by decide) ?_
        have h : some (0, size_, kept_, choicesOf_, a1_at_) = some (rr, o0, o1, o2, o3) := h
        have z0 := Option.some.inj h
        obtain ⟨rfl, z1⟩ := Prod.mk.inj z0
        obtain ⟨rfl, z2⟩ := Prod.mk.inj z1
        obtain ⟨rfl, z3⟩ := Prod.mk.inj z2
        obtain ⟨rfl, z4⟩ := Prod.mk.inj z3
        obtain rfl := z4
        exact hret _ _ _ _ hP hS rfl dX1_readFrom_86
      · have h := (if_neg c_).symm.trans h
        refine lv_aload_n hx hb dX1_readFrom_22 rfl (lv_at hl 1 rfl) ?_
        obtain ⟨r_1, a1_at_2, hq, h⟩ := bd2_some h
        refine uS_i (As := [.ref h1]) (rest := []) ⟨hx, hb, hml, hown, hts⟩ (c_X1_readChoices l dC dI cyC cyI cyJ h1 h1_signs a1_size_ a1_at_ a1_signs_ r_1 a1_at_2 hq) (va_cwS 1 hts gX1_readFrom_X1_readChoices rfl rfl rfl (by decide +kernel) ⟨Nat.le_of_ble_eq_true rfl, Nat.le_of_ble_eq_true rfl⟩) hK hE hA hP hD hS [2, 3] rfl rfl rfl rfl hl.1 rfl (Nat.le_of_ble_eq_true rfl) ⟨Nat.zero_le _, Nat.zero_le _⟩ dX1_readFrom_23 (fun H locs hP hD hS => ?_)
        have hP : va_P (dC, dI) vwCl [(h0, .inr (1, [.ref h0_choicesOf, .int size_, .int kept_])), (h0_choicesOf, .inl (cyI, 24, .inl choicesOf_)), (h1, .inr (3, [.ref h1_signs, .int a1_size_, .int a1_at_2])), (h1_signs, .inl (cyC, 240, .inl a1_signs_))] H := hP
        have hD : va_D A [(h0, .inr (1, [.ref h0_choicesOf, .int size_, .int kept_])), (h0_choicesOf, .inl (cyI, 24, .inl choicesOf_)), (h1, .inr (3, [.ref h1_signs, .int a1_size_, .int a1_at_2])), (h1_signs, .inl (cyC, 240, .inl a1_signs_))] := hD
        refine lv_istore_n (lv' := [(2, .int r_1), (0, .ref h0), (1, .ref h1)]) hx hb dX1_readFrom_26 rfl hl (by decide) rfl (fun ls hl => ?_)
        refine lv_iload_n hx hb dX1_readFrom_27 rfl (lv_at hl 0 rfl) ?_
        refine lv_if_ne (tgt := 33) hx hb dX1_readFrom_28 (by decide) (fun c_ => ?_) (fun c_ => ?_)
        · have h := (if_neg c_).symm.trans h
          refine lv_aload_n hx hb dX1_readFrom_33 rfl (lv_at hl 1 rfl) ?_
          refine va_get (D := (dC, dI)) (ci := 1) (v := .ref h0_choicesOf) (C := RX1) (T := TX1) (N := 3) hx hb hts hiX1 hown hK hP 0 rfl rfl 0 (by decide) (hts (.fieldLink RX1 9 "OptionLattice$Roll" "choicesOf" "[I") (by decide +kernel)) (fun _ h9 => h9) rfl dX1_readFrom_34 ?_
          refine lv_aload_n hx hb dX1_readFrom_37 rfl (lv_at hl 1 rfl) ?_
          refine va_get (D := (dC, dI)) (ci := 1) (v := .int size_) (C := RX1) (T := TX1) (N := 3) hx hb hts hiX1 hown hK hP 0 rfl rfl 1 (by decide) (hts (.fieldLink RX1 15 "OptionLattice$Roll" "size" "I") (by decide +kernel)) (fun _ h9 => h9) rfl dX1_readFrom_38 ?_
          refine lv_iload_n hx hb dX1_readFrom_41 rfl (lv_at hl 0 rfl) ?_
          obtain ⟨g_, h⟩ := gd_some h
          refine va_iast hx hb hK hP hD hS 1 1 rfl rfl (inb_in g_) dX1_readFrom_42 (fun H locs hP hD hS => ?_)
          have hP : va_P (dC, dI) vwCl [(h0, .inr (1, [.ref h0_choicesOf, .int size_, .int kept_])), (h0_choicesOf, .inl (cyI, 24, .inl (upd choicesOf_ size_.toNatClampNeg r_1))), (h1, .inr (3, [.ref h1_signs, .int a1_size_, .int a1_at_2])), (h1_signs, .inl (cyC, 240, .inl a1_signs_))] H := hP
          have hD : va_D A [(h0, .inr (1, [.ref h0_choicesOf, .int size_, .int kept_])), (h0_choicesOf, .inl (cyI, 24, .inl (upd choicesOf_ size_.toNatClampNeg r_1))), (h1, .inr (3, [.ref h1_signs, .int a1_size_, .int a1_at_2])), (h1_signs, .inl (cyC, 240, .inl a1_signs_))] := hD
          refine lv_aload_n hx hb dX1_readFrom_43 rfl (lv_at hl 1 rfl) ?_
          refine lv_dup hx hb dX1_readFrom_44 rfl ?_
          refine va_get (D := (dC, dI)) (ci := 1) (v := .int size_) (C := RX1) (T := TX1) (N := 3) hx hb hts hiX1 hown hK hP 0 rfl rfl 1 (by decide) (hts (.fieldLink RX1 15 "OptionLattice$Roll" "size" "I") (by decide +kernel)) (fun _ h9 => h9) rfl dX1_readFrom_45 ?_
          refine lv_iconst (v := 1) hx hb dX1_readFrom_48 (by decide) ?_
          refine lv_iadd hx hb dX1_readFrom_49 ?_
          refine lv_topi (fun w_3 e_w_3 => ?_)
          have h := lt_use e_w_3 h
          refine va_put (D := (dC, dI)) (ci := 1) (v := .int w_3) (ty := .int) (C := RX1) (T := TX1) (N := 3) hx hb hts hiX1 tyX1 tyX1_ok nmX1 hown hK hP hD hS 0 rfl rfl 1 (by decide) (hts (.fieldLink RX1 15 "OptionLattice$Roll" "size" "I") (by decide +kernel)) (fun _ h9 => h9) rfl (by decide +kernel) rfl rfl (Nat.le_of_ble_eq_true rfl) dX1_readFrom_50 (fun H locs hP hD hS => ?_)
          have hP : va_P (dC, dI) vwCl [(h0, .inr (1, [.ref h0_choicesOf, .int w_3, .int kept_])), (h0_choicesOf, .inl (cyI, 24, .inl (upd choicesOf_ size_.toNatClampNeg r_1))), (h1, .inr (3, [.ref h1_signs, .int a1_size_, .int a1_at_2])), (h1_signs, .inl (cyC, 240, .inl a1_signs_))] H := hP
          have hD : va_D A [(h0, .inr (1, [.ref h0_choicesOf, .int w_3, .int kept_])), (h0_choicesOf, .inl (cyI, 24, .inl (upd choicesOf_ size_.toNatClampNeg r_1))), (h1, .inr (3, [.ref h1_signs, .int a1_size_, .int a1_at_2])), (h1_signs, .inl (cyC, 240, .inl a1_signs_))] := hD
          refine lv_aload_n hx hb dX1_readFrom_53 rfl (lv_at hl 2 rfl) ?_
          obtain ⟨r_4, hq, h⟩ := bd1_some h
          refine uV_i (b := h1) (As := []) (rest := []) ⟨hx, hb, hml, hown, hts⟩ (c_X3_isRead l dC dI cyC cyI cyJ h1 h1_signs a1_size_ a1_at_2 r_4 hq) (cwV 0 hts gX1_readFrom_X3_isRead rfl rfl rfl (by decide +kernel) ⟨Nat.le_of_ble_eq_true rfl, Nat.le_of_ble_eq_true rfl⟩) hK hE hA hP hD hS [2] rfl rfl rfl 3 0 rfl rfl rfl hl.1 rfl (Nat.le_of_ble_eq_true rfl) ⟨Nat.zero_le _, Nat.zero_le _⟩ dX1_readFrom_54 (fun H locs hP hD hS => ?_)
          have hP : va_P (dC, dI) vwCl [(h0, .inr (1, [.ref h0_choicesOf, .int w_3, .int kept_])), (h0_choicesOf, .inl (cyI, 24, .inl (upd choicesOf_ size_.toNatClampNeg r_1))), (h1, .inr (3, [.ref h1_signs, .int a1_size_, .int a1_at_2])), (h1_signs, .inl (cyC, 240, .inl a1_signs_))] H := hP
          have hD : va_D A [(h0, .inr (1, [.ref h0_choicesOf, .int w_3, .int kept_])), (h0_choicesOf, .inl (cyI, 24, .inl (upd choicesOf_ size_.toNatClampNeg r_1))), (h1, .inr (3, [.ref h1_signs, .int a1_size_, .int a1_at_2])), (h1_signs, .inl (cyC, 240, .inl a1_signs_))] := hD
          refine lv_if_eq (tgt := 62) hx hb dX1_readFrom_57 (by decide) (fun c_ => ?_) (fun c_ => ?_)
          · have h := (if_pos c_).symm.trans h
            refine lv_aload_n hx hb dX1_readFrom_62 rfl (lv_at hl 1 rfl) ?_
            refine va_get (D := (dC, dI)) (ci := 1) (v := .int w_3) (C := RX1) (T := TX1) (N := 3) hx hb hts hiX1 hown hK hP 0 rfl rfl 1 (by decide) (hts (.fieldLink RX1 15 "OptionLattice$Roll" "size" "I") (by decide +kernel)) (fun _ h9 => h9) rfl dX1_readFrom_63 ?_
            refine lv_bipush (v := 24) hx hb dX1_readFrom_66 (by decide) ?_
            refine lv_icmp_ge (tgt := 82) hx hb dX1_readFrom_68 (by decide) (fun c_ => ?_) (fun c_ => ?_)
            · have h := (if_pos c_).symm.trans h
              refine lv_goto (tgt := 13) hx hb dX1_readFrom_82 (by decide) ?_
              exact ih13 w_3 (upd choicesOf_ size_.toNatClampNeg r_1) a1_at_2 h _ _ _ hP hD hS (lv_sub hl [1, 2] rfl)
            · have h := (if_neg c_).symm.trans h
              refine lv_aload_n hx hb dX1_readFrom_71 rfl (lv_at hl 2 rfl) ?_
              refine lv_bipush (v := 44) hx hb dX1_readFrom_72 (by decide) ?_
              obtain ⟨r_5, a1_at_6, hq, h⟩ := bd2_some h
              refine uV_i (b := h1) (As := [.int 44]) (rest := []) ⟨hx, hb, hml, hown, hts⟩ (c_X3_takeSign l dC dI cyC cyI cyJ h1 h1_signs a1_size_ a1_at_2 a1_signs_ 44 r_5 a1_at_6 hq) (cwV 1 hts gX1_readFrom_X3_takeSign rfl rfl rfl (by decide +kernel) ⟨Nat.le_of_ble_eq_true rfl, Nat.le_of_ble_eq_true rfl⟩) hK hE hA hP hD hS [2, 3] rfl rfl rfl 3 0 rfl rfl rfl hl.1 rfl (Nat.le_of_ble_eq_true rfl) ⟨Nat.zero_le _, Nat.zero_le _⟩ dX1_readFrom_74 (fun H locs hP hD hS => ?_)
              have hP : va_P (dC, dI) vwCl [(h0, .inr (1, [.ref h0_choicesOf, .int w_3, .int kept_])), (h0_choicesOf, .inl (cyI, 24, .inl (upd choicesOf_ size_.toNatClampNeg r_1))), (h1, .inr (3, [.ref h1_signs, .int a1_size_, .int a1_at_6])), (h1_signs, .inl (cyC, 240, .inl a1_signs_))] H := hP
              have hD : va_D A [(h0, .inr (1, [.ref h0_choicesOf, .int w_3, .int kept_])), (h0_choicesOf, .inl (cyI, 24, .inl (upd choicesOf_ size_.toNatClampNeg r_1))), (h1, .inr (3, [.ref h1_signs, .int a1_size_, .int a1_at_6])), (h1_signs, .inl (cyC, 240, .inl a1_signs_))] := hD
              refine lv_if_ne (tgt := 82) hx hb dX1_readFrom_77 (by decide) (fun c_ => ?_) (fun c_ => ?_)
              · have h := (if_neg c_).symm.trans h
                refine lv_goto (tgt := 13) hx hb dX1_readFrom_82 (by decide) ?_
                exact ih13 w_3 (upd choicesOf_ size_.toNatClampNeg r_1) a1_at_6 h _ _ _ hP hD hS (lv_sub hl [1, 2] rfl)
              · have h := (if_pos c_).symm.trans h
                refine lv_iconst (v := 0) hx hb dX1_readFrom_80 (by decide) ?_
                have h : some (0, w_3, kept_, (upd choicesOf_ size_.toNatClampNeg r_1), a1_at_6) = some (rr, o0, o1, o2, o3) := h
                have z0 := Option.some.inj h
                obtain ⟨rfl, z1⟩ := Prod.mk.inj z0
                obtain ⟨rfl, z2⟩ := Prod.mk.inj z1
                obtain ⟨rfl, z3⟩ := Prod.mk.inj z2
                obtain ⟨rfl, z4⟩ := Prod.mk.inj z3
                obtain rfl := z4
                exact hret _ _ _ _ hP hS rfl dX1_readFrom_81
          · have h := (if_neg c_).symm.trans h
            refine lv_iconst (v := 1) hx hb dX1_readFrom_60 (by decide) ?_
            have h : some (1, w_3, kept_, (upd choicesOf_ size_.toNatClampNeg r_1), a1_at_2) = some (rr, o0, o1, o2, o3) := h
            have z0 := Option.some.inj h
            obtain ⟨rfl, z1⟩ := Prod.mk.inj z0
            obtain ⟨rfl, z2⟩ := Prod.mk.inj z1
            obtain ⟨rfl, z3⟩ := Prod.mk.inj z2
            obtain ⟨rfl, z4⟩ := Prod.mk.inj z3
            obtain rfl := z4
            exact hret _ _ _ _ hP hS rfl dX1_readFrom_61
        · have h := (if_pos c_).symm.trans h
          refine lv_iconst (v := 0) hx hb dX1_readFrom_31 (by decide) ?_
          have h : some (0, size_, kept_, choicesOf_, a1_at_2) = some (rr, o0, o1, o2, o3) := h
          have z0 := Option.some.inj h
          obtain ⟨rfl, z1⟩ := Prod.mk.inj z0
          obtain ⟨rfl, z2⟩ := Prod.mk.inj z1
          obtain ⟨rfl, z3⟩ := Prod.mk.inj z2
          obtain ⟨rfl, z4⟩ := Prod.mk.inj z3
          obtain rfl := z4
          exact hret _ _ _ _ hP hS rfl dX1_readFrom_32
  unfold m_X1_readFrom at h
  refine lv_aload_n hx hb dX1_readFrom_0 rfl (lv_at hl 0 rfl) ?_
  obtain ⟨size_7, kept_8, hq, h⟩ := bd2_some h
  refine uV_v (b := h0) (As := []) (rest := []) ⟨hx, hb, hml, hown, hts⟩ (c_X1_empty l dC dI cyC cyI cyJ h0 h0_choicesOf size_ kept_ size_7 kept_8 hq) (cwV 0 hts gX1_readFrom_X1_empty rfl rfl rfl (by decide +kernel) ⟨Nat.le_of_ble_eq_true rfl, Nat.le_of_ble_eq_true rfl⟩) hK hE hA hP hD hS [0] rfl rfl rfl 1 0 rfl rfl rfl hl.1 rfl (Nat.le_of_ble_eq_true rfl) ⟨Nat.zero_le _, Nat.zero_le _⟩ dX1_readFrom_1 (fun H locs hP hD hS => ?_)
  have hP : va_P (dC, dI) vwCl [(h0, .inr (1, [.ref h0_choicesOf, .int size_7, .int kept_8])), (h0_choicesOf, .inl (cyI, 24, .inl choicesOf_)), (h1, .inr (3, [.ref h1_signs, .int a1_size_, .int a1_at_])), (h1_signs, .inl (cyC, 240, .inl a1_signs_))] H := hP
  have hD : va_D A [(h0, .inr (1, [.ref h0_choicesOf, .int size_7, .int kept_8])), (h0_choicesOf, .inl (cyI, 24, .inl choicesOf_)), (h1, .inr (3, [.ref h1_signs, .int a1_size_, .int a1_at_])), (h1_signs, .inl (cyC, 240, .inl a1_signs_))] := hD
  refine lv_aload_n hx hb dX1_readFrom_4 rfl (lv_at hl 1 rfl) ?_
  obtain ⟨r_9, hq, h⟩ := bd1_some h
  refine uV_i (b := h1) (As := []) (rest := []) ⟨hx, hb, hml, hown, hts⟩ (c_X3_isRead l dC dI cyC cyI cyJ h1 h1_signs a1_size_ a1_at_ r_9 hq) (cwV 0 hts gX1_readFrom_X3_isRead rfl rfl rfl (by decide +kernel) ⟨Nat.le_of_ble_eq_true rfl, Nat.le_of_ble_eq_true rfl⟩) hK hE hA hP hD hS [2] rfl rfl rfl 3 0 rfl rfl rfl hl.1 rfl (Nat.le_of_ble_eq_true rfl) ⟨Nat.zero_le _, Nat.zero_le _⟩ dX1_readFrom_5 (fun H locs hP hD hS => ?_)
  have hP : va_P (dC, dI) vwCl [(h0, .inr (1, [.ref h0_choicesOf, .int size_7, .int kept_8])), (h0_choicesOf, .inl (cyI, 24, .inl choicesOf_)), (h1, .inr (3, [.ref h1_signs, .int a1_size_, .int a1_at_])), (h1_signs, .inl (cyC, 240, .inl a1_signs_))] H := hP
  have hD : va_D A [(h0, .inr (1, [.ref h0_choicesOf, .int size_7, .int kept_8])), (h0_choicesOf, .inl (cyI, 24, .inl choicesOf_)), (h1, .inr (3, [.ref h1_signs, .int a1_size_, .int a1_at_])), (h1_signs, .inl (cyC, 240, .inl a1_signs_))] := hD
  refine lv_if_eq (tgt := 13) hx hb dX1_readFrom_8 (by decide) (fun c_ => ?_) (fun c_ => ?_)
  · have h := (if_pos c_).symm.trans h
    exact L13 kept_8 1100 size_7 choicesOf_ a1_at_ h _ _ _ hP hD hS (lv_sub hl [0, 1] rfl)
  · have h := (if_neg c_).symm.trans h
    refine lv_iconst (v := 1) hx hb dX1_readFrom_11 (by decide) ?_
    have h : some (1, size_7, kept_8, choicesOf_, a1_at_) = some (rr, o0, o1, o2, o3) := h
    have z0 := Option.some.inj h
    obtain ⟨rfl, z1⟩ := Prod.mk.inj z0
    obtain ⟨rfl, z2⟩ := Prod.mk.inj z1
    obtain ⟨rfl, z3⟩ := Prod.mk.inj z2
    obtain ⟨rfl, z4⟩ := Prod.mk.inj z3
    obtain rfl := z4
    exact hret _ _ _ _ hP hS rfl dX1_readFrom_12

def m_X2_clear_37 (left_ : Nat → Int32) (sitting_ : Nat → Int32) (a1_columnsWith_ : Nat → Int32) (rec37 : Int32 → (Nat → Int32) → Option ((Nat → Int32) × (Nat → Int32) × (Nat → Int32))) : Int32 → (Nat → Int32) → Option ((Nat → Int32) × (Nat → Int32) × (Nat → Int32)) := fun v2 openColumns_ =>
  (if 10 ≤ v2 then some (left_, sitting_, openColumns_) else gd (inb v2 10) (gd (inb v2 10) (lt' (v2 + 1) (fun v2_1 => rec37 v2_1 (upd openColumns_ v2.toNatClampNeg (a1_columnsWith_ v2.toNatClampNeg))))))
def m_X2_clear_2 (openColumns_ : Nat → Int32) (a1_size_ : Int32) (a1_seatsOf_ : Nat → Int32) (a1_columnsWith_ : Nat → Int32) (rec2 : Int32 → (Nat → Int32) → (Nat → Int32) → Option ((Nat → Int32) × (Nat → Int32) × (Nat → Int32))) : Int32 → (Nat → Int32) → (Nat → Int32) → Option ((Nat → Int32) × (Nat → Int32) × (Nat → Int32)) := fun v2 left_ sitting_ =>
  (if a1_size_ ≤ v2 then it2 (m_X2_clear_37 left_ sitting_ a1_columnsWith_) 1100 0 openColumns_ else gd (inb v2 16) (gd (inb v2 16) (gd (inb v2 16) (lt' (v2 + 1) (fun v2_2 => rec2 v2_2 (upd left_ v2.toNatClampNeg (a1_seatsOf_ v2.toNatClampNeg)) (upd sitting_ v2.toNatClampNeg 0))))))
def m_X2_clear (left_ : Nat → Int32) (sitting_ : Nat → Int32) (openColumns_ : Nat → Int32) (a1_size_ : Int32) (a1_seatsOf_ : Nat → Int32) (a1_columnsWith_ : Nat → Int32) : Option ((Nat → Int32) × (Nat → Int32) × (Nat → Int32)) :=
  it3 (m_X2_clear_2 openColumns_ a1_size_ a1_seatsOf_ a1_columnsWith_) 1100 0 left_ sitting_
abbrev rmX2_clear : Room := { frames := 0, cells := 0, slots := 0, locals := 0 }
set_option maxHeartbeats 4000000 in
set_option maxRecDepth 100000 in
theorem c_X2_clear (l : Launch) (dC : Nat → ClassId) (dI : Nat → Nat → Nat) (cyC cyI cyJ : ClassId) (h0 h0_left h0_sitting h0_openColumns h0_wayFinder h1 h1_barsOf h1_subjectOf h1_teacherOf h1_seatsOf h1_columnOf h1_columnsWith : Nat) (left_ : Nat → Int32) (sitting_ : Nat → Int32) (openColumns_ : Nat → Int32) (a1_columnCount_ : Int32) (a1_roomCount_ : Int32) (a1_size_ : Int32) (a1_seatsOf_ : Nat → Int32) (a1_columnsWith_ : Nat → Int32) (o0 : Nat → Int32) (o1 : Nat → Int32) (o2 : Nat → Int32) (h : m_X2_clear left_ sitting_ openColumns_ a1_size_ a1_seatsOf_ a1_columnsWith_ = some (o0, o1, o2)) : uMv l yX2_clear wsX2_clear rmX2_clear (dC, dI) [(cyC, .char), (cyI, .int), (cyJ, .long)] [.ref h0, .ref h1] [(h0, .inr (2, [.ref h0_left, .ref h0_sitting, .ref h0_openColumns, .ref h0_wayFinder])), (h0_left, .inl (cyI, 16, .inl left_)), (h0_sitting, .inl (cyI, 16, .inl sitting_)), (h0_openColumns, .inl (cyI, 10, .inl openColumns_)), (h1, .inr (0, [.int a1_columnCount_, .int a1_roomCount_, .int a1_size_, .ref h1_barsOf, .ref h1_subjectOf, .ref h1_teacherOf, .ref h1_seatsOf, .ref h1_columnOf, .ref h1_columnsWith])), (h1_seatsOf, .inl (cyI, 16, .inl a1_seatsOf_)), (h1_columnsWith, .inl (cyI, 10, .inl a1_columnsWith_))] [(h0, .inr (2, [.ref h0_left, .ref h0_sitting, .ref h0_openColumns, .ref h0_wayFinder])), (h0_left, .inl (cyI, 16, .inl o0)), (h0_sitting, .inl (cyI, 16, .inl o1)), (h0_openColumns, .inl (cyI, 10, .inl o2)), (h1, .inr (0, [.int a1_columnCount_, .int a1_roomCount_, .int a1_size_, .ref h1_barsOf, .ref h1_subjectOf, .ref h1_teacherOf, .ref h1_seatsOf, .ref h1_columnOf, .ref h1_columnsWith])), (h1_seatsOf, .inl (cyI, 16, .inl a1_seatsOf_)), (h1_columnsWith, .inl (cyI, 10, .inl a1_columnsWith_))] := by
  refine uMv.of (cc := cX2_clear) (maxL := 3) (by decide) rfl (Nat.le_of_ble_eq_true rfl) (fun p e s m args below meth c A ls Q hx hb hml hown hts hA hP hK hD hE hS hl hret => ?_)
  have hown : s.vm.findClass RX2 = some m.cls := hown
  have hl : lv_has ls 3 [(0, .ref h0), (1, .ref h1)] := hl
  have hiX0 : ∀ w ∈ u_ws RX0 TX0 9, w ∈ wsX2_clear := fun _ h9 => List.mem_cons_of_mem _ (List.mem_append_left _ (List.mem_append_right _ h9))
  have hiX2 : ∀ w ∈ u_ws RX2 TX2 4, w ∈ wsX2_clear := fun _ h9 => List.mem_cons_of_mem _ (List.mem_append_right _ h9)
  have L37 : ∀ (left_ : Nat → Int32), ∀ (sitting_ : Nat → Int32), ∀ (n37 : Nat), ∀ (v2 : Int32), ∀ (openColumns_ : Nat → Int32), it2 (m_X2_clear_37 left_ sitting_ a1_columnsWith_) n37 v2 openColumns_ = some (o0, o1, o2) → ∀ (H : Heap) (locs : List Loc) (ls : Array Slot), va_P (dC, dI) vwCl [(h0, .inr (2, [.ref h0_left, .ref h0_sitting, .ref h0_openColumns, .ref h0_wayFinder])), (h0_left, .inl (cyI, 16, .inl left_)), (h0_sitting, .inl (cyI, 16, .inl sitting_)), (h0_openColumns, .inl (cyI, 10, .inl openColumns_)), (h1, .inr (0, [.int a1_columnCount_, .int a1_roomCount_, .int a1_size_, .ref h1_barsOf, .ref h1_subjectOf, .ref h1_teacherOf, .ref h1_seatsOf, .ref h1_columnOf, .ref h1_columnsWith])), (h1_seatsOf, .inl (cyI, 16, .inl a1_seatsOf_)), (h1_columnsWith, .inl (cyI, 10, .inl a1_columnsWith_))] H → va_D A [(h0, .inr (2, [.ref h0_left, .ref h0_sitting, .ref h0_openColumns, .ref h0_wayFinder])), (h0_left, .inl (cyI, 16, .inl left_)), (h0_sitting, .inl (cyI, 16, .inl sitting_)), (h0_openColumns, .inl (cyI, 10, .inl openColumns_)), (h1, .inr (0, [.int a1_columnCount_, .int a1_roomCount_, .int a1_size_, .ref h1_barsOf, .ref h1_subjectOf, .ref h1_teacherOf, .ref h1_seatsOf, .ref h1_columnOf, .ref h1_columnsWith])), (h1_seatsOf, .inl (cyI, 16, .inl a1_seatsOf_)), (h1_columnsWith, .inl (cyI, 10, .inl a1_columnsWith_))] → va_S A s.heap H locs → lv_has ls 3 [(0, .ref h0), (1, .ref h1), (2, .int v2)] → W p l e rmX2_clear s m args below meth c H locs 0 0 Q (F0 m 37 ls []) := by
    intro left_ sitting_ n37
    induction n37 with
    | zero => intro v2 openColumns_ h; exact absurd h (fun z => it2_z z)
    | succ n37 ih37 =>
      intro v2 openColumns_ h H locs ls hP hD hS hl
      have h : m_X2_clear_37 left_ sitting_ a1_columnsWith_ (it2 (m_X2_clear_37 left_ sitting_ a1_columnsWith_) n37) v2 openColumns_ = some (o0, o1, o2) := h
      unfold m_X2_clear_37 at h
      refine lv_iload_n hx hb dX2_clear_37 rfl (lv_at hl 2 rfl) ?_
      refine lv_bipush (v := 10) hx hb dX2_clear_38 (by decide) ?_
      refine lv_icmp_ge (tgt := 61) hx hb dX2_clear_40 (by decide) (fun c_ => ?_) (fun c_ => ?_)
      · have h := (if_pos c_).symm.trans h
        have h : some (left_, sitting_, openColumns_) = some (o0, o1, o2) := h
        have z0 := Option.some.inj h
        obtain ⟨rfl, z1⟩ := Prod.mk.inj z0
        obtain ⟨rfl, z2⟩ := Prod.mk.inj z1
        obtain rfl := z2
        exact hret _ _ _ _ hP hS dX2_clear_61
      · have h := (if_neg c_).symm.trans h
        refine lv_aload_n hx hb dX2_clear_43 rfl (lv_at hl 0 rfl) ?_
        refine va_get (D := (dC, dI)) (ci := 2) (v := .ref h0_openColumns) (C := RX2) (T := TX2) (N := 4) hx hb hts hiX2 hown hK hP 0 rfl rfl 2 (by decide) (hts (.fieldLink RX2 18 "OptionLattice$Seating" "openColumns" "[I") (by decide +kernel)) (fun _ h9 => h9) rfl dX2_clear_44 ?_
        refine lv_iload_n hx hb dX2_clear_47 rfl (lv_at hl 2 rfl) ?_
        refine lv_aload_n hx hb dX2_clear_48 rfl (lv_at hl 1 rfl) ?_
        refine va_getN (host := "OptionLattice") (D := (dC, dI)) (ci := 0) (v := .ref h1_columnsWith) (C := RX0) (T := TX0) (N := 9) hx hb hts hiX0 hown hK hP 4 rfl rfl 8 (by decide) (va_Nw.use rfl (hE.1 ("OptionLattice$Seating", 55, "OptionLattice$Plan", "columnsWith", "[I") (List.mem_of_getElem? (i := 14) rfl))) (fun _ h9 => h9) rfl dX2_clear_49 ?_
        refine lv_iload_n hx hb dX2_clear_52 rfl (lv_at hl 2 rfl) ?_
        obtain ⟨g_, h⟩ := gd_some h
        refine va_iald hx hb hK hP 6 1 rfl rfl (inb_in g_) dX2_clear_53 ?_
        obtain ⟨g_, h⟩ := gd_some h
        refine va_iast hx hb hK hP hD hS 3 1 rfl rfl (inb_in g_) dX2_clear_54 (fun H locs hP hD hS => ?_)
        have hP : va_P (dC, dI) vwCl [(h0, .inr (2, [.ref h0_left, .ref h0_sitting, .ref h0_openColumns, .ref h0_wayFinder])), (h0_left, .inl (cyI, 16, .inl left_)), (h0_sitting, .inl (cyI, 16, .inl sitting_)), (h0_openColumns, .inl (cyI, 10, .inl (upd openColumns_ v2.toNatClampNeg (a1_columnsWith_ v2.toNatClampNeg)))), (h1, .inr (0, [.int a1_columnCount_, .int a1_roomCount_, .int a1_size_, .ref h1_barsOf, .ref h1_subjectOf, .ref h1_teacherOf, .ref h1_seatsOf, .ref h1_columnOf, .ref h1_columnsWith])), (h1_seatsOf, .inl (cyI, 16, .inl a1_seatsOf_)), (h1_columnsWith, .inl (cyI, 10, .inl a1_columnsWith_))] H := hP
        have hD : va_D A [(h0, .inr (2, [.ref h0_left, .ref h0_sitting, .ref h0_openColumns, .ref h0_wayFinder])), (h0_left, .inl (cyI, 16, .inl left_)), (h0_sitting, .inl (cyI, 16, .inl sitting_)), (h0_openColumns, .inl (cyI, 10, .inl (upd openColumns_ v2.toNatClampNeg (a1_columnsWith_ v2.toNatClampNeg)))), (h1, .inr (0, [.int a1_columnCount_, .int a1_roomCount_, .int a1_size_, .ref h1_barsOf, .ref h1_subjectOf, .ref h1_teacherOf, .ref h1_seatsOf, .ref h1_columnOf, .ref h1_columnsWith])), (h1_seatsOf, .inl (cyI, 16, .inl a1_seatsOf_)), (h1_columnsWith, .inl (cyI, 10, .inl a1_columnsWith_))] := hD
        obtain ⟨v2_1, e_v2_1⟩ : ∃ z : Int32, z = (v2 + 1) := ⟨_, rfl⟩
        have h := lt_use e_v2_1 h
        refine lv_iinc (v := v2_1) (lv' := [(2, .int v2_1), (0, .ref h0), (1, .ref h1)]) hx hb dX2_clear_55 hl (k := 2) rfl (by rw [e_v2_1]; rfl) (by decide) rfl (fun ls hl => ?_)
        refine lv_goto (tgt := 37) hx hb dX2_clear_58 (by decide) ?_
        exact ih37 v2_1 (upd openColumns_ v2.toNatClampNeg (a1_columnsWith_ v2.toNatClampNeg)) h _ _ _ hP hD hS (lv_sub hl [1, 2, 0] rfl)
  have L2 : ∀ (n2 : Nat), ∀ (v2 : Int32), ∀ (left_ : Nat → Int32), ∀ (sitting_ : Nat → Int32), it3 (m_X2_clear_2 openColumns_ a1_size_ a1_seatsOf_ a1_columnsWith_) n2 v2 left_ sitting_ = some (o0, o1, o2) → ∀ (H : Heap) (locs : List Loc) (ls : Array Slot), va_P (dC, dI) vwCl [(h0, .inr (2, [.ref h0_left, .ref h0_sitting, .ref h0_openColumns, .ref h0_wayFinder])), (h0_left, .inl (cyI, 16, .inl left_)), (h0_sitting, .inl (cyI, 16, .inl sitting_)), (h0_openColumns, .inl (cyI, 10, .inl openColumns_)), (h1, .inr (0, [.int a1_columnCount_, .int a1_roomCount_, .int a1_size_, .ref h1_barsOf, .ref h1_subjectOf, .ref h1_teacherOf, .ref h1_seatsOf, .ref h1_columnOf, .ref h1_columnsWith])), (h1_seatsOf, .inl (cyI, 16, .inl a1_seatsOf_)), (h1_columnsWith, .inl (cyI, 10, .inl a1_columnsWith_))] H → va_D A [(h0, .inr (2, [.ref h0_left, .ref h0_sitting, .ref h0_openColumns, .ref h0_wayFinder])), (h0_left, .inl (cyI, 16, .inl left_)), (h0_sitting, .inl (cyI, 16, .inl sitting_)), (h0_openColumns, .inl (cyI, 10, .inl openColumns_)), (h1, .inr (0, [.int a1_columnCount_, .int a1_roomCount_, .int a1_size_, .ref h1_barsOf, .ref h1_subjectOf, .ref h1_teacherOf, .ref h1_seatsOf, .ref h1_columnOf, .ref h1_columnsWith])), (h1_seatsOf, .inl (cyI, 16, .inl a1_seatsOf_)), (h1_columnsWith, .inl (cyI, 10, .inl a1_columnsWith_))] → va_S A s.heap H locs → lv_has ls 3 [(0, .ref h0), (1, .ref h1), (2, .int v2)] → W p l e rmX2_clear s m args below meth c H locs 0 0 Q (F0 m 2 ls []) := by
    intro n2
    induction n2 with
    | zero => intro v2 left_ sitting_ h; exact absurd h (fun z => it3_z z)
    | succ n2 ih2 =>
      intro v2 left_ sitting_ h H locs ls hP hD hS hl
      have h : m_X2_clear_2 openColumns_ a1_size_ a1_seatsOf_ a1_columnsWith_ (it3 (m_X2_clear_2 openColumns_ a1_size_ a1_seatsOf_ a1_columnsWith_) n2) v2 left_ sitting_ = some (o0, o1, o2) := h
      unfold m_X2_clear_2 at h
      refine lv_iload_n hx hb dX2_clear_2 rfl (lv_at hl 2 rfl) ?_
      refine lv_aload_n hx hb dX2_clear_3 rfl (lv_at hl 1 rfl) ?_
      refine va_getN (host := "OptionLattice") (D := (dC, dI)) (ci := 0) (v := .int a1_size_) (C := RX0) (T := TX0) (N := 9) hx hb hts hiX0 hown hK hP 4 rfl rfl 2 (by decide) (va_Nw.use rfl (hE.1 ("OptionLattice$Seating", 49, "OptionLattice$Plan", "size", "I") (List.mem_of_getElem? (i := 4) rfl))) (fun _ h9 => h9) rfl dX2_clear_4 ?_
      refine lv_icmp_ge (tgt := 35) hx hb dX2_clear_7 (by decide) (fun c_ => ?_) (fun c_ => ?_)
      · have h := (if_pos c_).symm.trans h
        refine lv_iconst (v := 0) hx hb dX2_clear_35 (by decide) ?_
        refine lv_istore_n (lv' := [(2, .int 0), (0, .ref h0), (1, .ref h1)]) hx hb dX2_clear_36 rfl hl (by decide) rfl (fun ls hl => ?_)
        exact L37 left_ sitting_ 1100 0 openColumns_ h _ _ _ hP hD hS (lv_sub hl [1, 2, 0] rfl)
      · have h := (if_neg c_).symm.trans h
        refine lv_aload_n hx hb dX2_clear_10 rfl (lv_at hl 0 rfl) ?_
        refine va_get (D := (dC, dI)) (ci := 2) (v := .ref h0_left) (C := RX2) (T := TX2) (N := 4) hx hb hts hiX2 hown hK hP 0 rfl rfl 0 (by decide) (hts (.fieldLink RX2 9 "OptionLattice$Seating" "left" "[I") (by decide +kernel)) (fun _ h9 => h9) rfl dX2_clear_11 ?_
        refine lv_iload_n hx hb dX2_clear_14 rfl (lv_at hl 2 rfl) ?_
        refine lv_aload_n hx hb dX2_clear_15 rfl (lv_at hl 1 rfl) ?_
        refine va_getN (host := "OptionLattice") (D := (dC, dI)) (ci := 0) (v := .ref h1_seatsOf) (C := RX0) (T := TX0) (N := 9) hx hb hts hiX0 hown hK hP 4 rfl rfl 6 (by decide) (va_Nw.use rfl (hE.1 ("OptionLattice$Seating", 52, "OptionLattice$Plan", "seatsOf", "[I") (List.mem_of_getElem? (i := 10) rfl))) (fun _ h9 => h9) rfl dX2_clear_16 ?_
        refine lv_iload_n hx hb dX2_clear_19 rfl (lv_at hl 2 rfl) ?_
        obtain ⟨g_, h⟩ := gd_some h
        refine va_iald hx hb hK hP 5 1 rfl rfl (inb_in g_) dX2_clear_20 ?_
        obtain ⟨g_, h⟩ := gd_some h
        refine va_iast hx hb hK hP hD hS 1 1 rfl rfl (inb_in g_) dX2_clear_21 (fun H locs hP hD hS => ?_)
        have hP : va_P (dC, dI) vwCl [(h0, .inr (2, [.ref h0_left, .ref h0_sitting, .ref h0_openColumns, .ref h0_wayFinder])), (h0_left, .inl (cyI, 16, .inl (upd left_ v2.toNatClampNeg (a1_seatsOf_ v2.toNatClampNeg)))), (h0_sitting, .inl (cyI, 16, .inl sitting_)), (h0_openColumns, .inl (cyI, 10, .inl openColumns_)), (h1, .inr (0, [.int a1_columnCount_, .int a1_roomCount_, .int a1_size_, .ref h1_barsOf, .ref h1_subjectOf, .ref h1_teacherOf, .ref h1_seatsOf, .ref h1_columnOf, .ref h1_columnsWith])), (h1_seatsOf, .inl (cyI, 16, .inl a1_seatsOf_)), (h1_columnsWith, .inl (cyI, 10, .inl a1_columnsWith_))] H := hP
        have hD : va_D A [(h0, .inr (2, [.ref h0_left, .ref h0_sitting, .ref h0_openColumns, .ref h0_wayFinder])), (h0_left, .inl (cyI, 16, .inl (upd left_ v2.toNatClampNeg (a1_seatsOf_ v2.toNatClampNeg)))), (h0_sitting, .inl (cyI, 16, .inl sitting_)), (h0_openColumns, .inl (cyI, 10, .inl openColumns_)), (h1, .inr (0, [.int a1_columnCount_, .int a1_roomCount_, .int a1_size_, .ref h1_barsOf, .ref h1_subjectOf, .ref h1_teacherOf, .ref h1_seatsOf, .ref h1_columnOf, .ref h1_columnsWith])), (h1_seatsOf, .inl (cyI, 16, .inl a1_seatsOf_)), (h1_columnsWith, .inl (cyI, 10, .inl a1_columnsWith_))] := hD
        refine lv_aload_n hx hb dX2_clear_22 rfl (lv_at hl 0 rfl) ?_
        refine va_get (D := (dC, dI)) (ci := 2) (v := .ref h0_sitting) (C := RX2) (T := TX2) (N := 4) hx hb hts hiX2 hown hK hP 0 rfl rfl 1 (by decide) (hts (.fieldLink RX2 15 "OptionLattice$Seating" "sitting" "[I") (by decide +kernel)) (fun _ h9 => h9) rfl dX2_clear_23 ?_
        refine lv_iload_n hx hb dX2_clear_26 rfl (lv_at hl 2 rfl) ?_
        refine lv_iconst (v := 0) hx hb dX2_clear_27 (by decide) ?_
        obtain ⟨g_, h⟩ := gd_some h
        refine va_iast hx hb hK hP hD hS 2 1 rfl rfl (inb_in g_) dX2_clear_28 (fun H locs hP hD hS => ?_)
        have hP : va_P (dC, dI) vwCl [(h0, .inr (2, [.ref h0_left, .ref h0_sitting, .ref h0_openColumns, .ref h0_wayFinder])), (h0_left, .inl (cyI, 16, .inl (upd left_ v2.toNatClampNeg (a1_seatsOf_ v2.toNatClampNeg)))), (h0_sitting, .inl (cyI, 16, .inl (upd sitting_ v2.toNatClampNeg 0))), (h0_openColumns, .inl (cyI, 10, .inl openColumns_)), (h1, .inr (0, [.int a1_columnCount_, .int a1_roomCount_, .int a1_size_, .ref h1_barsOf, .ref h1_subjectOf, .ref h1_teacherOf, .ref h1_seatsOf, .ref h1_columnOf, .ref h1_columnsWith])), (h1_seatsOf, .inl (cyI, 16, .inl a1_seatsOf_)), (h1_columnsWith, .inl (cyI, 10, .inl a1_columnsWith_))] H := hP
        have hD : va_D A [(h0, .inr (2, [.ref h0_left, .ref h0_sitting, .ref h0_openColumns, .ref h0_wayFinder])), (h0_left, .inl (cyI, 16, .inl (upd left_ v2.toNatClampNeg (a1_seatsOf_ v2.toNatClampNeg)))), (h0_sitting, .inl (cyI, 16, .inl (upd sitting_ v2.toNatClampNeg 0))), (h0_openColumns, .inl (cyI, 10, .inl openColumns_)), (h1, .inr (0, [.int a1_columnCount_, .int a1_roomCount_, .int a1_size_, .ref h1_barsOf, .ref h1_subjectOf, .ref h1_teacherOf, .ref h1_seatsOf, .ref h1_columnOf, .ref h1_columnsWith])), (h1_seatsOf, .inl (cyI, 16, .inl a1_seatsOf_)), (h1_columnsWith, .inl (cyI, 10, .inl a1_columnsWith_))] := hD
        obtain ⟨v2_2, e_v2_2⟩ : ∃ z : Int32, z = (v2 + 1) := ⟨_, rfl⟩
        have h := lt_use e_v2_2 h
        refine lv_iinc (v := v2_2) (lv' := [(2, .int v2_2), (0, .ref h0), (1, .ref h1)]) hx hb dX2_clear_29 hl (k := 2) rfl (by rw [e_v2_2]; rfl) (by decide) rfl (fun ls hl => ?_)
        refine lv_goto (tgt := 2) hx hb dX2_clear_32 (by decide) ?_
        exact ih2 v2_2 (upd left_ v2.toNatClampNeg (a1_seatsOf_ v2.toNatClampNeg)) (upd sitting_ v2.toNatClampNeg 0) h _ _ _ hP hD hS (lv_sub hl [1, 2, 0] rfl)
  unfold m_X2_clear at h
  refine lv_iconst (v := 0) hx hb dX2_clear_0 (by decide) ?_
  refine lv_istore_n (lv' := [(2, .int 0), (0, .ref h0), (1, .ref h1)]) hx hb dX2_clear_1 rfl hl (by decide) rfl (fun ls hl => ?_)
  exact L2  1100 0 left_ sitting_ h _ _ _ hP hD hS (lv_sub hl [1, 2, 0] rfl)

def m_X4_firstColumn_3 (v0 : Int32) (v1 : Int32) (v2 : Int64) (rec3 : Int32 → Option (Int32)) : Int32 → Option (Int32) := fun v4 =>
  (if 6 ≤ v4 then some 0 else bd1 (m_X5_hasBit v0 v4) (fun r_1 => (if r_1 = 0 then lt' (v4 + 1) (fun v4_2 => rec3 v4_2) else bd1 (m_X4_isStart v2 (v1 ||| ((1 : Int32) <<< (v4 &&& 31)))) (fun r_3 => (if r_3 = 0 then lt' (v4 + 1) (fun v4_4 => rec3 v4_4) else some v4)))))
def m_X4_firstColumn (v0 : Int32) (v1 : Int32) (v2 : Int64) : Option (Int32) :=
  it1 (m_X4_firstColumn_3 v0 v1 v2) 1100 0
abbrev rmX4_firstColumn : Room := { frames := 1, cells := 0, slots := 0, locals := 22 }
set_option maxHeartbeats 4000000 in
set_option maxRecDepth 100000 in
theorem c_X4_firstColumn (l : Launch) (dC : Nat → ClassId) (dI : Nat → Nat → Nat) (cyC cyI cyJ : ClassId) (v0 : Int32) (v1 : Int32) (v2 : Int64) (rr : Int32) (h : m_X4_firstColumn v0 v1 v2 = some rr) : uMi l yX4_firstColumn wsX4_firstColumn rmX4_firstColumn (dC, dI) [(cyC, .char), (cyI, .int), (cyJ, .long)] [.int v0, .int v1, .long v2] [] [] rr := by
  refine uMi.of (cc := cX4_firstColumn) (maxL := 5) (by decide) rfl (Nat.le_of_ble_eq_true rfl) (fun p e s m args below meth c A ls Q hx hb hml hown hts hA hP hK hD hE hS hl hret => ?_)
  have hown : s.vm.findClass RX4 = some m.cls := hown
  have hl : lv_has ls 5 [(0, .int v0), (1, .int v1), (2, .long v2)] := hl
  have L3 : ∀ (n3 : Nat), ∀ (v4 : Int32), it1 (m_X4_firstColumn_3 v0 v1 v2) n3 v4 = some rr → ∀ (H : Heap) (locs : List Loc) (ls : Array Slot), va_P (dC, dI) vwCl [] H → va_D A [] → va_S A s.heap H locs → lv_has ls 5 [(0, .int v0), (1, .int v1), (2, .long v2), (4, .int v4)] → W p l e rmX4_firstColumn s m args below meth c H locs 0 0 Q (F0 m 3 ls []) := by
    intro n3
    induction n3 with
    | zero => intro v4 h; exact absurd h (fun z => it1_z z)
    | succ n3 ih3 =>
      intro v4 h H locs ls hP hD hS hl
      have h : m_X4_firstColumn_3 v0 v1 v2 (it1 (m_X4_firstColumn_3 v0 v1 v2) n3) v4 = some rr := h
      unfold m_X4_firstColumn_3 at h
      refine lv_iload hx hb dX4_firstColumn_3 (lv_at hl 3 rfl) ?_
      refine lv_bipush (v := 6) hx hb dX4_firstColumn_5 (by decide) ?_
      refine lv_icmp_ge (tgt := 41) hx hb dX4_firstColumn_7 (by decide) (fun c_ => ?_) (fun c_ => ?_)
      · have h := (if_pos c_).symm.trans h
        refine lv_iconst (v := 0) hx hb dX4_firstColumn_41 (by decide) ?_
        have h : some 0 = some rr := h
        have z0 := Option.some.inj h
        obtain rfl := z0
        exact hret _ _ _ _ hP hS rfl dX4_firstColumn_42
      · have h := (if_neg c_).symm.trans h
        refine lv_iload_n hx hb dX4_firstColumn_10 rfl (lv_at hl 0 rfl) ?_
        refine lv_iload hx hb dX4_firstColumn_11 (lv_at hl 3 rfl) ?_
        obtain ⟨r_1, hq, h⟩ := bd1_some h
        refine uN_i (As := [.int v0, .int v4]) (rest := []) ⟨hx, hb, hml, hown, hts⟩ (c_X5_hasBit l dC dI cyC cyI cyJ v0 v4 r_1 hq) ⟨va_cnB 2 hts gX4_firstColumn_X5_hasBit_n24 rfl rfl rfl (hE.2.1 ("OptionLattice$Ways", 24, ⟨"OptionLattice", "hasBit", "(II)Z"⟩) (List.mem_of_getElem? (i := 10) rfl)) (hts (.initialized RX5) (by decide +kernel)) (by decide +kernel) ⟨Nat.le_of_ble_eq_true rfl, Nat.le_of_ble_eq_true rfl⟩, (hts (.static yX5_hasBit) (by decide +kernel)), trivial⟩ hK hE hA hP hD hS [] rfl rfl rfl rfl hl.1 rfl (Nat.le_of_ble_eq_true rfl) ⟨Nat.zero_le _, Nat.zero_le _⟩ dX4_firstColumn_13 (fun H locs hP hD hS => ?_)
        refine lv_if_eq (tgt := 35) hx hb dX4_firstColumn_16 (by decide) (fun c_ => ?_) (fun c_ => ?_)
        · have h := (if_pos c_).symm.trans h
          obtain ⟨v4_2, e_v4_2⟩ : ∃ z : Int32, z = (v4 + 1) := ⟨_, rfl⟩
          have h := lt_use e_v4_2 h
          refine lv_iinc (v := v4_2) (lv' := [(4, .int v4_2), (0, .int v0), (1, .int v1), (2, .long v2)]) hx hb dX4_firstColumn_35 hl (k := 3) rfl (by rw [e_v4_2]; rfl) (by decide) rfl (fun ls hl => ?_)
          refine lv_goto (tgt := 3) hx hb dX4_firstColumn_38 (by decide) ?_
          exact ih3 v4_2 h _ _ _ hP hD hS (lv_sub hl [1, 2, 3, 0] rfl)
        · have h := (if_neg c_).symm.trans h
          refine lv_lload_n hx hb dX4_firstColumn_19 rfl (lv_at hl 2 rfl) ?_
          refine lv_iload_n hx hb dX4_firstColumn_20 rfl (lv_at hl 1 rfl) ?_
          refine lv_iconst (v := 1) hx hb dX4_firstColumn_21 (by decide) ?_
          refine lv_iload hx hb dX4_firstColumn_22 (lv_at hl 3 rfl) ?_
          refine lv_ishl hx hb dX4_firstColumn_24 ?_
          refine lv_ior hx hb dX4_firstColumn_25 ?_
          obtain ⟨r_3, hq, h⟩ := bd1_some h
          refine uS_i (As := [.long v2, .int (v1 ||| ((1 : Int32) <<< (v4 &&& 31)))]) (rest := []) ⟨hx, hb, hml, hown, hts⟩ (c_X4_isStart l dC dI cyC cyI cyJ v2 (v1 ||| ((1 : Int32) <<< (v4 &&& 31))) r_3 hq) (va_cwS 2 hts gX4_firstColumn_X4_isStart rfl rfl rfl (by decide +kernel) ⟨Nat.le_of_ble_eq_true rfl, Nat.le_of_ble_eq_true rfl⟩) hK hE hA hP hD hS [] rfl rfl rfl rfl hl.1 rfl (Nat.le_of_ble_eq_true rfl) ⟨Nat.zero_le _, Nat.zero_le _⟩ dX4_firstColumn_26 (fun H locs hP hD hS => ?_)
          refine lv_if_eq (tgt := 35) hx hb dX4_firstColumn_29 (by decide) (fun c_ => ?_) (fun c_ => ?_)
          · have h := (if_pos c_).symm.trans h
            obtain ⟨v4_4, e_v4_4⟩ : ∃ z : Int32, z = (v4 + 1) := ⟨_, rfl⟩
            have h := lt_use e_v4_4 h
            refine lv_iinc (v := v4_4) (lv' := [(4, .int v4_4), (0, .int v0), (1, .int v1), (2, .long v2)]) hx hb dX4_firstColumn_35 hl (k := 3) rfl (by rw [e_v4_4]; rfl) (by decide) rfl (fun ls hl => ?_)
            refine lv_goto (tgt := 3) hx hb dX4_firstColumn_38 (by decide) ?_
            exact ih3 v4_4 h _ _ _ hP hD hS (lv_sub hl [1, 2, 3, 0] rfl)
          · have h := (if_neg c_).symm.trans h
            refine lv_iload hx hb dX4_firstColumn_32 (lv_at hl 3 rfl) ?_
            have h : some v4 = some rr := h
            have z0 := Option.some.inj h
            obtain rfl := z0
            exact hret _ _ _ _ hP hS rfl dX4_firstColumn_34
  unfold m_X4_firstColumn at h
  refine lv_iconst (v := 0) hx hb dX4_firstColumn_0 (by decide) ?_
  refine lv_istore (lv' := [(4, .int 0), (0, .int v0), (1, .int v1), (2, .long v2)]) hx hb dX4_firstColumn_1 hl (by decide) rfl (fun ls hl => ?_)
  exact L3  1100 0 h _ _ _ hP hD hS (lv_sub hl [1, 2, 3, 0] rfl)

def m_X4_findFirst_83 (startsAt_ : Nat → Int64) (a1_arr_ : Nat → Int32) (v2 : Int32) (rec83 : Int32 → Int32 → Int32 → (Nat → Int32) → Option (Int32 × (Nat → Int32) × (Nat → Int64))) : Int32 → Int32 → Int32 → (Nat → Int32) → Option (Int32 × (Nat → Int32) × (Nat → Int64)) := fun v3 v4 v5 first_ =>
  (if 10 ≤ v5 then some (1, first_, startsAt_) else (if 6 ≤ v4 then some (1, first_, startsAt_) else bd1 (m_X5_hasBit v2 v5) (fun r_1 => (if r_1 = 0 then lt' (v5 + 1) (fun v5_2 => rec83 v3 v4 v5_2 first_) else gd (inb v5 10) (gd (inb (v5 + 1) 11) (bd1 (m_X4_firstColumn ((a1_arr_ v5.toNatClampNeg) &&& (v3 ^^^ (-1))) v3 (startsAt_ ((v5 + 1)).toNatClampNeg)) (fun r_3 => gd (inb v4 6) (lt' (v3 ||| ((1 : Int32) <<< (r_3 &&& 31))) (fun v3_4 => lt' (v4 + 1) (fun v4_5 => lt' (v5 + 1) (fun v5_6 => rec83 v3_4 v4_5 v5_6 (upd first_ v4.toNatClampNeg r_3))))))))))))
def m_X4_findFirst_60 (first_ : Nat → Int32) (startsAt_ : Nat → Int64) (a1_arr_ : Nat → Int32) (v2 : Int32) : Option (Int32 × (Nat → Int32) × (Nat → Int64)) :=
  gd (inb 0 11) (bd1 (m_X4_isStart (startsAt_ (0 : Int32).toNatClampNeg) 0) (fun r_7 => (if r_7 = 0 then some (0, first_, startsAt_) else it4 (m_X4_findFirst_83 startsAt_ a1_arr_ v2) 1100 0 0 0 first_)))
def m_X4_findFirst_53 (startsAt_ : Nat → Int64) (v3 : Int32) (t1 : Int32) (t2 : Int64) (rec13 : Int32 → (Nat → Int64) → Option (Int32 × (Nat → Int32) × (Nat → Int64))) : Option (Int32 × (Nat → Int32) × (Nat → Int64)) :=
  gd (inb t1 11) (lt' (v3 + (-1)) (fun v3_8 => rec13 v3_8 (vp_updL startsAt_ t1.toNatClampNeg t2)))
def m_X4_findFirst_13 (first_ : Nat → Int32) (a1_arr_ : Nat → Int32) (v2 : Int32) (rec13 : Int32 → (Nat → Int64) → Option (Int32 × (Nat → Int32) × (Nat → Int64))) : Int32 → (Nat → Int64) → Option (Int32 × (Nat → Int32) × (Nat → Int64)) := fun v3 startsAt_ =>
  (if v3 < 0 then m_X4_findFirst_60 first_ startsAt_ a1_arr_ v2 else gd (inb (v3 + 1) 11) (lt' (startsAt_ ((v3 + 1)).toNatClampNeg) (fun v4_9 => bd1 (m_X5_hasBit v2 v3) (fun r_10 => (if r_10 = 0 then m_X4_findFirst_53 startsAt_ v3 v3 v4_9 rec13 else gd (inb v3 10) (bd1 (m_X4_startsBefore v4_9 (a1_arr_ v3.toNatClampNeg)) (fun r_11 => m_X4_findFirst_53 startsAt_ v3 v3 r_11 rec13)))))))
def m_X4_findFirst (first_ : Nat → Int32) (startsAt_ : Nat → Int64) (a1_arr_ : Nat → Int32) (v2 : Int32) : Option (Int32 × (Nat → Int32) × (Nat → Int64)) :=
  gd (inb 10 11) (it2 (m_X4_findFirst_13 first_ a1_arr_ v2) 1100 9 (vp_updL startsAt_ (10 : Int32).toNatClampNeg (-1)))
abbrev rmX4_findFirst : Room := { frames := 2, cells := 0, slots := 0, locals := 46 }
set_option maxHeartbeats 4000000 in
set_option maxRecDepth 100000 in
theorem c_X4_findFirst (l : Launch) (dC : Nat → ClassId) (dI : Nat → Nat → Nat) (cyC cyI cyJ : ClassId) (h0 h0_first h0_startsAt h0_tally h1 : Nat) (first_ : Nat → Int32) (startsAt_ : Nat → Int64) (a1_arr_ : Nat → Int32) (v2 : Int32) (rr : Int32) (o0 : Nat → Int32) (o1 : Nat → Int64) (h : m_X4_findFirst first_ startsAt_ a1_arr_ v2 = some (rr, o0, o1)) : uMi l yX4_findFirst wsX4_findFirst rmX4_findFirst (dC, dI) [(cyC, .char), (cyI, .int), (cyJ, .long)] [.ref h0, .ref h1, .int v2] [(h0, .inr (4, [.ref h0_first, .ref h0_startsAt, .ref h0_tally])), (h0_first, .inl (cyI, 6, .inl first_)), (h0_startsAt, .inl (cyJ, 11, .inr (.inl startsAt_))), (h1, .inl (cyI, 10, .inl a1_arr_))] [(h0, .inr (4, [.ref h0_first, .ref h0_startsAt, .ref h0_tally])), (h0_first, .inl (cyI, 6, .inl o0)), (h0_startsAt, .inl (cyJ, 11, .inr (.inl o1))), (h1, .inl (cyI, 10, .inl a1_arr_))] rr := by
  refine uMi.of (cc := cX4_findFirst) (maxL := 7) (by decide) rfl (Nat.le_of_ble_eq_true rfl) (fun p e s m args below meth c A ls Q hx hb hml hown hts hA hP hK hD hE hS hl hret => ?_)
  have hown : s.vm.findClass RX4 = some m.cls := hown
  have hl : lv_has ls 7 [(0, .ref h0), (1, .ref h1), (2, .int v2)] := hl
  have hiX4 : ∀ w ∈ u_ws RX4 TX4 3, w ∈ wsX4_findFirst := fun _ h9 => List.mem_cons_of_mem _ (List.mem_append_right _ h9)
  have L83 : ∀ (startsAt_ : Nat → Int64), ∀ (n83 : Nat), ∀ (v3 : Int32), ∀ (v4 : Int32), ∀ (v5 : Int32), ∀ (first_ : Nat → Int32), it4 (m_X4_findFirst_83 startsAt_ a1_arr_ v2) n83 v3 v4 v5 first_ = some (rr, o0, o1) → ∀ (H : Heap) (locs : List Loc) (ls : Array Slot), va_P (dC, dI) vwCl [(h0, .inr (4, [.ref h0_first, .ref h0_startsAt, .ref h0_tally])), (h0_first, .inl (cyI, 6, .inl first_)), (h0_startsAt, .inl (cyJ, 11, .inr (.inl startsAt_))), (h1, .inl (cyI, 10, .inl a1_arr_))] H → va_D A [(h0, .inr (4, [.ref h0_first, .ref h0_startsAt, .ref h0_tally])), (h0_first, .inl (cyI, 6, .inl first_)), (h0_startsAt, .inl (cyJ, 11, .inr (.inl startsAt_))), (h1, .inl (cyI, 10, .inl a1_arr_))] → va_S A s.heap H locs → lv_has ls 7 [(0, .ref h0), (1, .ref h1), (2, .int v2), (3, .int v3), (4, .int v4), (5, .int v5)] → W p l e rmX4_findFirst s m args below meth c H locs 0 0 Q (F0 m 83 ls []) := by
    intro startsAt_ n83
    induction n83 with
    | zero => intro v3 v4 v5 first_ h; exact absurd h (fun z => it4_z z)
    | succ n83 ih83 =>
      intro v3 v4 v5 first_ h H locs ls hP hD hS hl
      have h : m_X4_findFirst_83 startsAt_ a1_arr_ v2 (it4 (m_X4_findFirst_83 startsAt_ a1_arr_ v2) n83) v3 v4 v5 first_ = some (rr, o0, o1) := h
      unfold m_X4_findFirst_83 at h
      refine lv_iload hx hb dX4_findFirst_83 (lv_at hl 5 rfl) ?_
      refine lv_bipush (v := 10) hx hb dX4_findFirst_85 (by decide) ?_
      refine lv_icmp_ge (tgt := 154) hx hb dX4_findFirst_87 (by decide) (fun c_ => ?_) (fun c_ => ?_)
      · have h := (if_pos c_).symm.trans h
        refine lv_iconst (v := 1) hx hb dX4_findFirst_154 (by decide) ?_
        have h : some (1, first_, startsAt_) = some (rr, o0, o1) := h
        have z0 := Option.some.inj h
        obtain ⟨rfl, z1⟩ := Prod.mk.inj z0
        obtain ⟨rfl, z2⟩ := Prod.mk.inj z1
        obtain rfl := z2
        exact hret _ _ _ _ hP hS rfl dX4_findFirst_155
      · have h := (if_neg c_).symm.trans h
        refine lv_iload hx hb dX4_findFirst_90 (lv_at hl 4 rfl) ?_
        refine lv_bipush (v := 6) hx hb dX4_findFirst_92 (by decide) ?_
        refine lv_icmp_ge (tgt := 154) hx hb dX4_findFirst_94 (by decide) (fun c_ => ?_) (fun c_ => ?_)
        · have h := (if_pos c_).symm.trans h
          refine lv_iconst (v := 1) hx hb dX4_findFirst_154 (by decide) ?_
          have h : some (1, first_, startsAt_) = some (rr, o0, o1) := h
          have z0 := Option.some.inj h
          obtain ⟨rfl, z1⟩ := Prod.mk.inj z0
          obtain ⟨rfl, z2⟩ := Prod.mk.inj z1
          obtain rfl := z2
          exact hret _ _ _ _ hP hS rfl dX4_findFirst_155
        · have h := (if_neg c_).symm.trans h
          refine lv_iload_n hx hb dX4_findFirst_97 rfl (lv_at hl 2 rfl) ?_
          refine lv_iload hx hb dX4_findFirst_98 (lv_at hl 5 rfl) ?_
          obtain ⟨r_1, hq, h⟩ := bd1_some h
          refine uN_i (As := [.int v2, .int v5]) (rest := []) ⟨hx, hb, hml, hown, hts⟩ (c_X5_hasBit l dC dI cyC cyI cyJ v2 v5 r_1 hq) ⟨va_cnB 2 hts gX4_findFirst_X5_hasBit_n24 rfl rfl rfl (hE.2.1 ("OptionLattice$Ways", 24, ⟨"OptionLattice", "hasBit", "(II)Z"⟩) (List.mem_of_getElem? (i := 10) rfl)) (hts (.initialized RX5) (by decide +kernel)) (by decide +kernel) ⟨Nat.le_of_ble_eq_true rfl, Nat.le_of_ble_eq_true rfl⟩, (hts (.static yX5_hasBit) (by decide +kernel)), trivial⟩ hK hE hA hP hD hS [] rfl rfl rfl rfl hl.1 rfl (Nat.le_of_ble_eq_true rfl) ⟨Nat.zero_le _, Nat.zero_le _⟩ dX4_findFirst_100 (fun H locs hP hD hS => ?_)
          have hP : va_P (dC, dI) vwCl [(h0, .inr (4, [.ref h0_first, .ref h0_startsAt, .ref h0_tally])), (h0_first, .inl (cyI, 6, .inl first_)), (h0_startsAt, .inl (cyJ, 11, .inr (.inl startsAt_))), (h1, .inl (cyI, 10, .inl a1_arr_))] H := hP
          have hD : va_D A [(h0, .inr (4, [.ref h0_first, .ref h0_startsAt, .ref h0_tally])), (h0_first, .inl (cyI, 6, .inl first_)), (h0_startsAt, .inl (cyJ, 11, .inr (.inl startsAt_))), (h1, .inl (cyI, 10, .inl a1_arr_))] := hD
          refine lv_if_eq (tgt := 148) hx hb dX4_findFirst_103 (by decide) (fun c_ => ?_) (fun c_ => ?_)
          · have h := (if_pos c_).symm.trans h
            obtain ⟨v5_2, e_v5_2⟩ : ∃ z : Int32, z = (v5 + 1) := ⟨_, rfl⟩
            have h := lt_use e_v5_2 h
            refine lv_iinc (v := v5_2) (lv' := [(5, .int v5_2), (0, .ref h0), (1, .ref h1), (2, .int v2), (3, .int v3), (4, .int v4)]) hx hb dX4_findFirst_148 hl (k := 5) rfl (by rw [e_v5_2]; rfl) (by decide) rfl (fun ls hl => ?_)
            refine lv_goto (tgt := 83) hx hb dX4_findFirst_151 (by decide) ?_
            exact ih83 v3 v4 v5_2 first_ h _ _ _ hP hD hS (lv_sub hl [1, 2, 3, 4, 5, 0] rfl)
          · have h := (if_neg c_).symm.trans h
            refine lv_aload_n hx hb dX4_findFirst_106 rfl (lv_at hl 1 rfl) ?_
            refine lv_iload hx hb dX4_findFirst_107 (lv_at hl 5 rfl) ?_
            obtain ⟨g_, h⟩ := gd_some h
            refine va_iald hx hb hK hP 3 1 rfl rfl (inb_in g_) dX4_findFirst_109 ?_
            refine lv_iload_n hx hb dX4_findFirst_110 rfl (lv_at hl 3 rfl) ?_
            refine lv_iconst (v := (-1)) hx hb dX4_findFirst_111 (by decide) ?_
            refine lv_ixor hx hb dX4_findFirst_112 ?_
            refine lv_iand hx hb dX4_findFirst_113 ?_
            refine lv_iload_n hx hb dX4_findFirst_114 rfl (lv_at hl 3 rfl) ?_
            refine lv_aload_n hx hb dX4_findFirst_115 rfl (lv_at hl 0 rfl) ?_
            refine va_get (D := (dC, dI)) (ci := 4) (v := .ref h0_startsAt) (C := RX4) (T := TX4) (N := 3) hx hb hts hiX4 hown hK hP 0 rfl rfl 1 (by decide) (hts (.fieldLink RX4 15 "OptionLattice$Ways" "startsAt" "[J") (by decide +kernel)) (fun _ h9 => h9) rfl dX4_findFirst_116 ?_
            refine lv_iload hx hb dX4_findFirst_119 (lv_at hl 5 rfl) ?_
            refine lv_iconst (v := 1) hx hb dX4_findFirst_121 (by decide) ?_
            refine lv_iadd hx hb dX4_findFirst_122 ?_
            obtain ⟨g_, h⟩ := gd_some h
            refine va_lald hx hb hK hP 2 2 rfl rfl (inb_in g_) dX4_findFirst_123 ?_
            obtain ⟨r_3, hq, h⟩ := bd1_some h
            refine uS_i (As := [.int ((a1_arr_ v5.toNatClampNeg) &&& (v3 ^^^ (-1))), .int v3, .long (startsAt_ ((v5 + 1)).toNatClampNeg)]) (rest := []) ⟨hx, hb, hml, hown, hts⟩ (c_X4_firstColumn l dC dI cyC cyI cyJ ((a1_arr_ v5.toNatClampNeg) &&& (v3 ^^^ (-1))) v3 (startsAt_ ((v5 + 1)).toNatClampNeg) r_3 hq) (va_cwS 3 hts gX4_findFirst_X4_firstColumn rfl rfl rfl (by decide +kernel) ⟨Nat.le_of_ble_eq_true rfl, Nat.le_of_ble_eq_true rfl⟩) hK hE hA hP hD hS [] rfl rfl rfl rfl hl.1 rfl (Nat.le_of_ble_eq_true rfl) ⟨Nat.zero_le _, Nat.zero_le _⟩ dX4_findFirst_124 (fun H locs hP hD hS => ?_)
            have hP : va_P (dC, dI) vwCl [(h0, .inr (4, [.ref h0_first, .ref h0_startsAt, .ref h0_tally])), (h0_first, .inl (cyI, 6, .inl first_)), (h0_startsAt, .inl (cyJ, 11, .inr (.inl startsAt_))), (h1, .inl (cyI, 10, .inl a1_arr_))] H := hP
            have hD : va_D A [(h0, .inr (4, [.ref h0_first, .ref h0_startsAt, .ref h0_tally])), (h0_first, .inl (cyI, 6, .inl first_)), (h0_startsAt, .inl (cyJ, 11, .inr (.inl startsAt_))), (h1, .inl (cyI, 10, .inl a1_arr_))] := hD
            refine lv_istore (lv' := [(6, .int r_3), (0, .ref h0), (1, .ref h1), (2, .int v2), (3, .int v3), (4, .int v4), (5, .int v5)]) hx hb dX4_findFirst_127 hl (by decide) rfl (fun ls hl => ?_)
            refine lv_aload_n hx hb dX4_findFirst_129 rfl (lv_at hl 1 rfl) ?_
            refine va_get (D := (dC, dI)) (ci := 4) (v := .ref h0_first) (C := RX4) (T := TX4) (N := 3) hx hb hts hiX4 hown hK hP 0 rfl rfl 0 (by decide) (hts (.fieldLink RX4 9 "OptionLattice$Ways" "first" "[I") (by decide +kernel)) (fun _ h9 => h9) rfl dX4_findFirst_130 ?_
            refine lv_iload hx hb dX4_findFirst_133 (lv_at hl 5 rfl) ?_
            refine lv_iload hx hb dX4_findFirst_135 (lv_at hl 0 rfl) ?_
            obtain ⟨g_, h⟩ := gd_some h
            refine va_iast hx hb hK hP hD hS 1 1 rfl rfl (inb_in g_) dX4_findFirst_137 (fun H locs hP hD hS => ?_)
            have hP : va_P (dC, dI) vwCl [(h0, .inr (4, [.ref h0_first, .ref h0_startsAt, .ref h0_tally])), (h0_first, .inl (cyI, 6, .inl (upd first_ v4.toNatClampNeg r_3))), (h0_startsAt, .inl (cyJ, 11, .inr (.inl startsAt_))), (h1, .inl (cyI, 10, .inl a1_arr_))] H := hP
            have hD : va_D A [(h0, .inr (4, [.ref h0_first, .ref h0_startsAt, .ref h0_tally])), (h0_first, .inl (cyI, 6, .inl (upd first_ v4.toNatClampNeg r_3))), (h0_startsAt, .inl (cyJ, 11, .inr (.inl startsAt_))), (h1, .inl (cyI, 10, .inl a1_arr_))] := hD
            refine lv_iload_n hx hb dX4_findFirst_138 rfl (lv_at hl 4 rfl) ?_
            refine lv_iconst (v := 1) hx hb dX4_findFirst_139 (by decide) ?_
            refine lv_iload hx hb dX4_findFirst_140 (lv_at hl 0 rfl) ?_
            refine lv_ishl hx hb dX4_findFirst_142 ?_
            refine lv_ior hx hb dX4_findFirst_143 ?_
            refine lv_topi (fun v3_4 e_v3_4 => ?_)
            have h := lt_use e_v3_4 h
            refine lv_istore_n (lv' := [(3, .int v3_4), (6, .int r_3), (0, .ref h0), (1, .ref h1), (2, .int v2), (4, .int v4), (5, .int v5)]) hx hb dX4_findFirst_144 rfl hl (by decide) rfl (fun ls hl => ?_)
            obtain ⟨v4_5, e_v4_5⟩ : ∃ z : Int32, z = (v4 + 1) := ⟨_, rfl⟩
            have h := lt_use e_v4_5 h
            refine lv_iinc (v := v4_5) (lv' := [(4, .int v4_5), (3, .int v3_4), (6, .int r_3), (0, .ref h0), (1, .ref h1), (2, .int v2), (5, .int v5)]) hx hb dX4_findFirst_145 hl (k := 5) rfl (by rw [e_v4_5]; rfl) (by decide) rfl (fun ls hl => ?_)
            obtain ⟨v5_6, e_v5_6⟩ : ∃ z : Int32, z = (v5 + 1) := ⟨_, rfl⟩
            have h := lt_use e_v5_6 h
            refine lv_iinc (v := v5_6) (lv' := [(5, .int v5_6), (4, .int v4_5), (3, .int v3_4), (6, .int r_3), (0, .ref h0), (1, .ref h1), (2, .int v2)]) hx hb dX4_findFirst_148 hl (k := 6) rfl (by rw [e_v5_6]; rfl) (by decide) rfl (fun ls hl => ?_)
            refine lv_goto (tgt := 83) hx hb dX4_findFirst_151 (by decide) ?_
            exact ih83 v3_4 v4_5 v5_6 (upd first_ v4.toNatClampNeg r_3) h _ _ _ hP hD hS (lv_sub hl [4, 5, 6, 2, 1, 0] rfl)
  have J60 : ∀ (startsAt_ : Nat → Int64), m_X4_findFirst_60 first_ startsAt_ a1_arr_ v2 = some (rr, o0, o1) → ∀ (H : Heap) (locs : List Loc) (ls : Array Slot), va_P (dC, dI) vwCl [(h0, .inr (4, [.ref h0_first, .ref h0_startsAt, .ref h0_tally])), (h0_first, .inl (cyI, 6, .inl first_)), (h0_startsAt, .inl (cyJ, 11, .inr (.inl startsAt_))), (h1, .inl (cyI, 10, .inl a1_arr_))] H → va_D A [(h0, .inr (4, [.ref h0_first, .ref h0_startsAt, .ref h0_tally])), (h0_first, .inl (cyI, 6, .inl first_)), (h0_startsAt, .inl (cyJ, 11, .inr (.inl startsAt_))), (h1, .inl (cyI, 10, .inl a1_arr_))] → va_S A s.heap H locs → lv_has ls 7 [(0, .ref h0), (1, .ref h1), (2, .int v2)] → W p l e rmX4_findFirst s m args below meth c H locs 0 0 Q (F0 m 60 ls []) := by
    intro startsAt_ h H locs ls hP hD hS hl
    unfold m_X4_findFirst_60 at h
    refine lv_aload_n hx hb dX4_findFirst_60 rfl (lv_at hl 0 rfl) ?_
    refine va_get (D := (dC, dI)) (ci := 4) (v := .ref h0_startsAt) (C := RX4) (T := TX4) (N := 3) hx hb hts hiX4 hown hK hP 0 rfl rfl 1 (by decide) (hts (.fieldLink RX4 15 "OptionLattice$Ways" "startsAt" "[J") (by decide +kernel)) (fun _ h9 => h9) rfl dX4_findFirst_61 ?_
    refine lv_iconst (v := 0) hx hb dX4_findFirst_64 (by decide) ?_
    obtain ⟨g_, h⟩ := gd_some h
    refine va_lald hx hb hK hP 2 2 rfl rfl (inb_in g_) dX4_findFirst_65 ?_
    refine lv_iconst (v := 0) hx hb dX4_findFirst_66 (by decide) ?_
    obtain ⟨r_7, hq, h⟩ := bd1_some h
    refine uS_i (As := [.long (startsAt_ (0 : Int32).toNatClampNeg), .int 0]) (rest := []) ⟨hx, hb, hml, hown, hts⟩ (c_X4_isStart l dC dI cyC cyI cyJ (startsAt_ (0 : Int32).toNatClampNeg) 0 r_7 hq) (va_cwS 2 hts gX4_findFirst_X4_isStart rfl rfl rfl (by decide +kernel) ⟨Nat.le_of_ble_eq_true rfl, Nat.le_of_ble_eq_true rfl⟩) hK hE hA hP hD hS [] rfl rfl rfl rfl hl.1 rfl (Nat.le_of_ble_eq_true rfl) ⟨Nat.zero_le _, Nat.zero_le _⟩ dX4_findFirst_67 (fun H locs hP hD hS => ?_)
    have hP : va_P (dC, dI) vwCl [(h0, .inr (4, [.ref h0_first, .ref h0_startsAt, .ref h0_tally])), (h0_first, .inl (cyI, 6, .inl first_)), (h0_startsAt, .inl (cyJ, 11, .inr (.inl startsAt_))), (h1, .inl (cyI, 10, .inl a1_arr_))] H := hP
    have hD : va_D A [(h0, .inr (4, [.ref h0_first, .ref h0_startsAt, .ref h0_tally])), (h0_first, .inl (cyI, 6, .inl first_)), (h0_startsAt, .inl (cyJ, 11, .inr (.inl startsAt_))), (h1, .inl (cyI, 10, .inl a1_arr_))] := hD
    refine lv_if_ne (tgt := 75) hx hb dX4_findFirst_70 (by decide) (fun c_ => ?_) (fun c_ => ?_)
    · have h := (if_neg c_).symm.trans h
      refine lv_iconst (v := 0) hx hb dX4_findFirst_75 (by decide) ?_
      refine lv_istore_n (lv' := [(3, .int 0), (0, .ref h0), (1, .ref h1), (2, .int v2)]) hx hb dX4_findFirst_76 rfl hl (by decide) rfl (fun ls hl => ?_)
      refine lv_iconst (v := 0) hx hb dX4_findFirst_77 (by decide) ?_
      refine lv_istore (lv' := [(4, .int 0), (3, .int 0), (0, .ref h0), (1, .ref h1), (2, .int v2)]) hx hb dX4_findFirst_78 hl (by decide) rfl (fun ls hl => ?_)
      refine lv_iconst (v := 0) hx hb dX4_findFirst_80 (by decide) ?_
      refine lv_istore (lv' := [(5, .int 0), (4, .int 0), (3, .int 0), (0, .ref h0), (1, .ref h1), (2, .int v2)]) hx hb dX4_findFirst_81 hl (by decide) rfl (fun ls hl => ?_)
      exact L83 startsAt_ 1100 0 0 0 first_ h _ _ _ hP hD hS (lv_sub hl [3, 4, 5, 2, 1, 0] rfl)
    · have h := (if_pos c_).symm.trans h
      refine lv_iconst (v := 0) hx hb dX4_findFirst_73 (by decide) ?_
      have h : some (0, first_, startsAt_) = some (rr, o0, o1) := h
      have z0 := Option.some.inj h
      obtain ⟨rfl, z1⟩ := Prod.mk.inj z0
      obtain ⟨rfl, z2⟩ := Prod.mk.inj z1
      obtain rfl := z2
      exact hret _ _ _ _ hP hS rfl dX4_findFirst_74
  have L13 : ∀ (n13 : Nat), ∀ (v3 : Int32), ∀ (startsAt_ : Nat → Int64), it2 (m_X4_findFirst_13 first_ a1_arr_ v2) n13 v3 startsAt_ = some (rr, o0, o1) → ∀ (H : Heap) (locs : List Loc) (ls : Array Slot), va_P (dC, dI) vwCl [(h0, .inr (4, [.ref h0_first, .ref h0_startsAt, .ref h0_tally])), (h0_first, .inl (cyI, 6, .inl first_)), (h0_startsAt, .inl (cyJ, 11, .inr (.inl startsAt_))), (h1, .inl (cyI, 10, .inl a1_arr_))] H → va_D A [(h0, .inr (4, [.ref h0_first, .ref h0_startsAt, .ref h0_tally])), (h0_first, .inl (cyI, 6, .inl first_)), (h0_startsAt, .inl (cyJ, 11, .inr (.inl startsAt_))), (h1, .inl (cyI, 10, .inl a1_arr_))] → va_S A s.heap H locs → lv_has ls 7 [(0, .ref h0), (1, .ref h1), (2, .int v2), (3, .int v3)] → W p l e rmX4_findFirst s m args below meth c H locs 0 0 Q (F0 m 13 ls []) := by
    intro n13
    induction n13 with
    | zero => intro v3 startsAt_ h; exact absurd h (fun z => it2_z z)
    | succ n13 ih13 =>
      have J53 : ∀ (v3 : Int32), ∀ (t1 : Int32), ∀ (t2 : Int64), ∀ (startsAt_ : Nat → Int64), m_X4_findFirst_53 startsAt_ v3 t1 t2 (it2 (m_X4_findFirst_13 first_ a1_arr_ v2) n13) = some (rr, o0, o1) → ∀ (H : Heap) (locs : List Loc) (ls : Array Slot), va_P (dC, dI) vwCl [(h0, .inr (4, [.ref h0_first, .ref h0_startsAt, .ref h0_tally])), (h0_first, .inl (cyI, 6, .inl first_)), (h0_startsAt, .inl (cyJ, 11, .inr (.inl startsAt_))), (h1, .inl (cyI, 10, .inl a1_arr_))] H → va_D A [(h0, .inr (4, [.ref h0_first, .ref h0_startsAt, .ref h0_tally])), (h0_first, .inl (cyI, 6, .inl first_)), (h0_startsAt, .inl (cyJ, 11, .inr (.inl startsAt_))), (h1, .inl (cyI, 10, .inl a1_arr_))] → va_S A s.heap H locs → lv_has ls 7 [(0, .ref h0), (1, .ref h1), (2, .int v2), (3, .int v3)] → W p l e rmX4_findFirst s m args below meth c H locs 0 0 Q (F0 m 53 ls [.long t2, .int t1, .ref h0_startsAt]) := by
        intro v3 t1 t2 startsAt_ h H locs ls hP hD hS hl
        unfold m_X4_findFirst_53 at h
        obtain ⟨g_, h⟩ := gd_some h
        refine va_last hx hb hK hP hD hS 2 2 rfl rfl (inb_in g_) dX4_findFirst_53 (fun H locs hP hD hS => ?_)
        have hP : va_P (dC, dI) vwCl [(h0, .inr (4, [.ref h0_first, .ref h0_startsAt, .ref h0_tally])), (h0_first, .inl (cyI, 6, .inl first_)), (h0_startsAt, .inl (cyJ, 11, .inr (.inl (vp_updL startsAt_ t1.toNatClampNeg t2)))), (h1, .inl (cyI, 10, .inl a1_arr_))] H := hP
        have hD : va_D A [(h0, .inr (4, [.ref h0_first, .ref h0_startsAt, .ref h0_tally])), (h0_first, .inl (cyI, 6, .inl first_)), (h0_startsAt, .inl (cyJ, 11, .inr (.inl (vp_updL startsAt_ t1.toNatClampNeg t2)))), (h1, .inl (cyI, 10, .inl a1_arr_))] := hD
        obtain ⟨v3_8, e_v3_8⟩ : ∃ z : Int32, z = (v3 + (-1)) := ⟨_, rfl⟩
        have h := lt_use e_v3_8 h
        refine lv_iinc (v := v3_8) (lv' := [(3, .int v3_8), (0, .ref h0), (1, .ref h1), (2, .int v2)]) hx hb dX4_findFirst_54 hl (k := 3) rfl (by rw [e_v3_8]; rfl) (by decide) rfl (fun ls hl => ?_)
        refine lv_goto (tgt := 13) hx hb dX4_findFirst_57 (by decide) ?_
        exact ih13 v3_8 (vp_updL startsAt_ t1.toNatClampNeg t2) h _ _ _ hP hD hS (lv_sub hl [1, 2, 3, 0] rfl)
      intro v3 startsAt_ h H locs ls hP hD hS hl
      have h : m_X4_findFirst_13 first_ a1_arr_ v2 (it2 (m_X4_findFirst_13 first_ a1_arr_ v2) n13) v3 startsAt_ = some (rr, o0, o1) := h
      unfold m_X4_findFirst_13 at h
      refine lv_iload_n hx hb dX4_findFirst_13 rfl (lv_at hl 3 rfl) ?_
      refine lv_if_lt (tgt := 60) hx hb dX4_findFirst_14 (by decide) (fun c_ => ?_) (fun c_ => ?_)
      · have h := (if_pos c_).symm.trans h
        exact J60 startsAt_ h _ _ _ hP hD hS (lv_sub hl [0, 1, 2] rfl)
      · have h := (if_neg c_).symm.trans h
        refine lv_aload_n hx hb dX4_findFirst_17 rfl (lv_at hl 0 rfl) ?_
        refine va_get (D := (dC, dI)) (ci := 4) (v := .ref h0_startsAt) (C := RX4) (T := TX4) (N := 3) hx hb hts hiX4 hown hK hP 0 rfl rfl 1 (by decide) (hts (.fieldLink RX4 15 "OptionLattice$Ways" "startsAt" "[J") (by decide +kernel)) (fun _ h9 => h9) rfl dX4_findFirst_18 ?_
        refine lv_iload_n hx hb dX4_findFirst_21 rfl (lv_at hl 3 rfl) ?_
        refine lv_iconst (v := 1) hx hb dX4_findFirst_22 (by decide) ?_
        refine lv_iadd hx hb dX4_findFirst_23 ?_
        obtain ⟨g_, h⟩ := gd_some h
        refine va_lald hx hb hK hP 2 2 rfl rfl (inb_in g_) dX4_findFirst_24 ?_
        refine lv_topl (fun v4_9 e_v4_9 => ?_)
        have h := lt_use e_v4_9 h
        refine lv_lstore (lv' := [(4, .long v4_9), (0, .ref h0), (1, .ref h1), (2, .int v2), (3, .int v3)]) hx hb dX4_findFirst_25 hl (by decide) rfl (fun ls hl => ?_)
        refine lv_aload_n hx hb dX4_findFirst_27 rfl (lv_at hl 1 rfl) ?_
        refine va_get (D := (dC, dI)) (ci := 4) (v := .ref h0_startsAt) (C := RX4) (T := TX4) (N := 3) hx hb hts hiX4 hown hK hP 0 rfl rfl 1 (by decide) (hts (.fieldLink RX4 15 "OptionLattice$Ways" "startsAt" "[J") (by decide +kernel)) (fun _ h9 => h9) rfl dX4_findFirst_28 ?_
        refine lv_iload_n hx hb dX4_findFirst_31 rfl (lv_at hl 4 rfl) ?_
        refine lv_iload_n hx hb dX4_findFirst_32 rfl (lv_at hl 3 rfl) ?_
        refine lv_iload_n hx hb dX4_findFirst_33 rfl (lv_at hl 4 rfl) ?_
        obtain ⟨r_10, hq, h⟩ := bd1_some h
        refine uN_i (As := [.int v2, .int v3]) (rest := [.int v3, .ref h0_startsAt]) ⟨hx, hb, hml, hown, hts⟩ (c_X5_hasBit l dC dI cyC cyI cyJ v2 v3 r_10 hq) ⟨va_cnB 2 hts gX4_findFirst_X5_hasBit_n24 rfl rfl rfl (hE.2.1 ("OptionLattice$Ways", 24, ⟨"OptionLattice", "hasBit", "(II)Z"⟩) (List.mem_of_getElem? (i := 10) rfl)) (hts (.initialized RX5) (by decide +kernel)) (by decide +kernel) ⟨Nat.le_of_ble_eq_true rfl, Nat.le_of_ble_eq_true rfl⟩, (hts (.static yX5_hasBit) (by decide +kernel)), trivial⟩ hK hE hA hP hD hS [] rfl rfl rfl rfl hl.1 rfl (Nat.le_of_ble_eq_true rfl) ⟨Nat.zero_le _, Nat.zero_le _⟩ dX4_findFirst_34 (fun H locs hP hD hS => ?_)
        have hP : va_P (dC, dI) vwCl [(h0, .inr (4, [.ref h0_first, .ref h0_startsAt, .ref h0_tally])), (h0_first, .inl (cyI, 6, .inl first_)), (h0_startsAt, .inl (cyJ, 11, .inr (.inl startsAt_))), (h1, .inl (cyI, 10, .inl a1_arr_))] H := hP
        have hD : va_D A [(h0, .inr (4, [.ref h0_first, .ref h0_startsAt, .ref h0_tally])), (h0_first, .inl (cyI, 6, .inl first_)), (h0_startsAt, .inl (cyJ, 11, .inr (.inl startsAt_))), (h1, .inl (cyI, 10, .inl a1_arr_))] := hD
        refine lv_if_eq (tgt := 51) hx hb dX4_findFirst_37 (by decide) (fun c_ => ?_) (fun c_ => ?_)
        · have h := (if_pos c_).symm.trans h
          refine lv_lload hx hb dX4_findFirst_51 (lv_at hl 0 rfl) ?_
          exact J53 v3 v3 v4_9 startsAt_ h _ _ _ hP hD hS (lv_sub hl [1, 2, 3, 4] rfl)
        · have h := (if_neg c_).symm.trans h
          refine lv_lload hx hb dX4_findFirst_40 (lv_at hl 0 rfl) ?_
          refine lv_aload_n hx hb dX4_findFirst_42 rfl (lv_at hl 2 rfl) ?_
          refine lv_iload_n hx hb dX4_findFirst_43 rfl (lv_at hl 4 rfl) ?_
          obtain ⟨g_, h⟩ := gd_some h
          refine va_iald hx hb hK hP 3 1 rfl rfl (inb_in g_) dX4_findFirst_44 ?_
          obtain ⟨r_11, hq, h⟩ := bd1_some h
          refine uS_l (As := [.long v4_9, .int (a1_arr_ v3.toNatClampNeg)]) (rest := [.int v3, .ref h0_startsAt]) ⟨hx, hb, hml, hown, hts⟩ (c_X4_startsBefore l dC dI cyC cyI cyJ v4_9 (a1_arr_ v3.toNatClampNeg) r_11 hq) (va_cwS 2 hts gX4_findFirst_X4_startsBefore rfl rfl rfl (by decide +kernel) ⟨Nat.le_of_ble_eq_true rfl, Nat.le_of_ble_eq_true rfl⟩) hK hE hA hP hD hS [] rfl rfl rfl rfl hl.1 rfl (Nat.le_of_ble_eq_true rfl) ⟨Nat.zero_le _, Nat.zero_le _⟩ dX4_findFirst_45 (fun H locs hP hD hS => ?_)
          have hP : va_P (dC, dI) vwCl [(h0, .inr (4, [.ref h0_first, .ref h0_startsAt, .ref h0_tally])), (h0_first, .inl (cyI, 6, .inl first_)), (h0_startsAt, .inl (cyJ, 11, .inr (.inl startsAt_))), (h1, .inl (cyI, 10, .inl a1_arr_))] H := hP
          have hD : va_D A [(h0, .inr (4, [.ref h0_first, .ref h0_startsAt, .ref h0_tally])), (h0_first, .inl (cyI, 6, .inl first_)), (h0_startsAt, .inl (cyJ, 11, .inr (.inl startsAt_))), (h1, .inl (cyI, 10, .inl a1_arr_))] := hD
          refine lv_goto (tgt := 53) hx hb dX4_findFirst_48 (by decide) ?_
          exact J53 v3 v3 r_11 startsAt_ h _ _ _ hP hD hS (lv_sub hl [1, 2, 3, 4] rfl)
  unfold m_X4_findFirst at h
  refine lv_aload_n hx hb dX4_findFirst_0 rfl (lv_at hl 0 rfl) ?_
  refine va_get (D := (dC, dI)) (ci := 4) (v := .ref h0_startsAt) (C := RX4) (T := TX4) (N := 3) hx hb hts hiX4 hown hK hP 0 rfl rfl 1 (by decide) (hts (.fieldLink RX4 15 "OptionLattice$Ways" "startsAt" "[J") (by decide +kernel)) (fun _ h9 => h9) rfl dX4_findFirst_1 ?_
  refine lv_bipush (v := 10) hx hb dX4_findFirst_4 (by decide) ?_
  refine lv_ldc2 hx hb hown (hts (.constantLong RX4 22 (-1)) (by decide +kernel)) dX4_findFirst_6 ?_
  obtain ⟨g_, h⟩ := gd_some h
  refine va_last hx hb hK hP hD hS 2 2 rfl rfl (inb_in g_) dX4_findFirst_9 (fun H locs hP hD hS => ?_)
  have hP : va_P (dC, dI) vwCl [(h0, .inr (4, [.ref h0_first, .ref h0_startsAt, .ref h0_tally])), (h0_first, .inl (cyI, 6, .inl first_)), (h0_startsAt, .inl (cyJ, 11, .inr (.inl (vp_updL startsAt_ (10 : Int32).toNatClampNeg (-1))))), (h1, .inl (cyI, 10, .inl a1_arr_))] H := hP
  have hD : va_D A [(h0, .inr (4, [.ref h0_first, .ref h0_startsAt, .ref h0_tally])), (h0_first, .inl (cyI, 6, .inl first_)), (h0_startsAt, .inl (cyJ, 11, .inr (.inl (vp_updL startsAt_ (10 : Int32).toNatClampNeg (-1))))), (h1, .inl (cyI, 10, .inl a1_arr_))] := hD
  refine lv_bipush (v := 9) hx hb dX4_findFirst_10 (by decide) ?_
  refine lv_istore_n (lv' := [(3, .int 9), (0, .ref h0), (1, .ref h1), (2, .int v2)]) hx hb dX4_findFirst_12 rfl hl (by decide) rfl (fun ls hl => ?_)
  exact L13  1100 9 (vp_updL startsAt_ (10 : Int32).toNatClampNeg (-1)) h _ _ _ hP hD hS (lv_sub hl [1, 2, 3, 0] rfl)

def m_X2_takeSeat_45 (left_ : Nat → Int32) (sitting_ : Nat → Int32) (v2 : Int32) (v5 : Int32) : Option ((Nat → Int32) × (Nat → Int32)) :=
  gd (inb v5 16) (gd (inb v5 16) (gd (inb v5 16) (gd (inb v5 16) (some ((upd left_ v5.toNatClampNeg ((left_ v5.toNatClampNeg) - 1)), (upd sitting_ v5.toNatClampNeg ((sitting_ v5.toNatClampNeg) ||| ((1 : Int32) <<< (v2 &&& 31)))))))))
def m_X2_takeSeat_3 (left_ : Nat → Int32) (sitting_ : Nat → Int32) (a1_size_ : Int32) (a1_subjectOf_ : Nat → Int32) (a1_columnOf_ : Nat → Int32) (v2 : Int32) (v3 : Int32) (v4 : Int32) (rec3 : Int32 → Option ((Nat → Int32) × (Nat → Int32))) : Int32 → Option ((Nat → Int32) × (Nat → Int32)) := fun v5 =>
  (if a1_size_ ≤ v5 then some (left_, sitting_) else gd (inb v5 16) ((if (a1_subjectOf_ v5.toNatClampNeg) = v3 then gd (inb v5 16) ((if (a1_columnOf_ v5.toNatClampNeg) = v4 then gd (inb v5 16) ((if (left_ v5.toNatClampNeg) ≤ 0 then lt' (v5 + 1) (fun v5_3 => rec3 v5_3) else m_X2_takeSeat_45 left_ sitting_ v2 v5)) else lt' (v5 + 1) (fun v5_2 => rec3 v5_2))) else lt' (v5 + 1) (fun v5_1 => rec3 v5_1))))
def m_X2_takeSeat (left_ : Nat → Int32) (sitting_ : Nat → Int32) (a1_size_ : Int32) (a1_subjectOf_ : Nat → Int32) (a1_columnOf_ : Nat → Int32) (v2 : Int32) (v3 : Int32) (v4 : Int32) : Option ((Nat → Int32) × (Nat → Int32)) :=
  it1 (m_X2_takeSeat_3 left_ sitting_ a1_size_ a1_subjectOf_ a1_columnOf_ v2 v3 v4) 1100 0
abbrev rmX2_takeSeat : Room := { frames := 0, cells := 0, slots := 0, locals := 0 }
set_option maxHeartbeats 4000000 in
set_option maxRecDepth 100000 in
theorem c_X2_takeSeat (l : Launch) (dC : Nat → ClassId) (dI : Nat → Nat → Nat) (cyC cyI cyJ : ClassId) (h0 h0_left h0_sitting h0_openColumns h0_wayFinder h1 h1_barsOf h1_subjectOf h1_teacherOf h1_seatsOf h1_columnOf h1_columnsWith : Nat) (left_ : Nat → Int32) (sitting_ : Nat → Int32) (a1_columnCount_ : Int32) (a1_roomCount_ : Int32) (a1_size_ : Int32) (a1_subjectOf_ : Nat → Int32) (a1_columnOf_ : Nat → Int32) (v2 : Int32) (v3 : Int32) (v4 : Int32) (o0 : Nat → Int32) (o1 : Nat → Int32) (h : m_X2_takeSeat left_ sitting_ a1_size_ a1_subjectOf_ a1_columnOf_ v2 v3 v4 = some (o0, o1)) : uMv l yX2_takeSeat wsX2_takeSeat rmX2_takeSeat (dC, dI) [(cyC, .char), (cyI, .int), (cyJ, .long)] [.ref h0, .ref h1, .int v2, .int v3, .int v4] [(h0, .inr (2, [.ref h0_left, .ref h0_sitting, .ref h0_openColumns, .ref h0_wayFinder])), (h0_left, .inl (cyI, 16, .inl left_)), (h0_sitting, .inl (cyI, 16, .inl sitting_)), (h1, .inr (0, [.int a1_columnCount_, .int a1_roomCount_, .int a1_size_, .ref h1_barsOf, .ref h1_subjectOf, .ref h1_teacherOf, .ref h1_seatsOf, .ref h1_columnOf, .ref h1_columnsWith])), (h1_subjectOf, .inl (cyI, 16, .inl a1_subjectOf_)), (h1_columnOf, .inl (cyI, 16, .inl a1_columnOf_))] [(h0, .inr (2, [.ref h0_left, .ref h0_sitting, .ref h0_openColumns, .ref h0_wayFinder])), (h0_left, .inl (cyI, 16, .inl o0)), (h0_sitting, .inl (cyI, 16, .inl o1)), (h1, .inr (0, [.int a1_columnCount_, .int a1_roomCount_, .int a1_size_, .ref h1_barsOf, .ref h1_subjectOf, .ref h1_teacherOf, .ref h1_seatsOf, .ref h1_columnOf, .ref h1_columnsWith])), (h1_subjectOf, .inl (cyI, 16, .inl a1_subjectOf_)), (h1_columnOf, .inl (cyI, 16, .inl a1_columnOf_))] := by
  refine uMv.of (cc := cX2_takeSeat) (maxL := 6) (by decide) rfl (Nat.le_of_ble_eq_true rfl) (fun p e s m args below meth c A ls Q hx hb hml hown hts hA hP hK hD hE hS hl hret => ?_)
  have hown : s.vm.findClass RX2 = some m.cls := hown
  have hl : lv_has ls 6 [(0, .ref h0), (1, .ref h1), (2, .int v2), (3, .int v3), (4, .int v4)] := hl
  have hiX0 : ∀ w ∈ u_ws RX0 TX0 9, w ∈ wsX2_takeSeat := fun _ h9 => List.mem_cons_of_mem _ (List.mem_append_left _ (List.mem_append_right _ h9))
  have hiX2 : ∀ w ∈ u_ws RX2 TX2 4, w ∈ wsX2_takeSeat := fun _ h9 => List.mem_cons_of_mem _ (List.mem_append_right _ h9)
  have J45 : ∀ (v5 : Int32), m_X2_takeSeat_45 left_ sitting_ v2 v5 = some (o0, o1) → ∀ (H : Heap) (locs : List Loc) (ls : Array Slot), va_P (dC, dI) vwCl [(h0, .inr (2, [.ref h0_left, .ref h0_sitting, .ref h0_openColumns, .ref h0_wayFinder])), (h0_left, .inl (cyI, 16, .inl left_)), (h0_sitting, .inl (cyI, 16, .inl sitting_)), (h1, .inr (0, [.int a1_columnCount_, .int a1_roomCount_, .int a1_size_, .ref h1_barsOf, .ref h1_subjectOf, .ref h1_teacherOf, .ref h1_seatsOf, .ref h1_columnOf, .ref h1_columnsWith])), (h1_subjectOf, .inl (cyI, 16, .inl a1_subjectOf_)), (h1_columnOf, .inl (cyI, 16, .inl a1_columnOf_))] H → va_D A [(h0, .inr (2, [.ref h0_left, .ref h0_sitting, .ref h0_openColumns, .ref h0_wayFinder])), (h0_left, .inl (cyI, 16, .inl left_)), (h0_sitting, .inl (cyI, 16, .inl sitting_)), (h1, .inr (0, [.int a1_columnCount_, .int a1_roomCount_, .int a1_size_, .ref h1_barsOf, .ref h1_subjectOf, .ref h1_teacherOf, .ref h1_seatsOf, .ref h1_columnOf, .ref h1_columnsWith])), (h1_subjectOf, .inl (cyI, 16, .inl a1_subjectOf_)), (h1_columnOf, .inl (cyI, 16, .inl a1_columnOf_))] → va_S A s.heap H locs → lv_has ls 6 [(0, .ref h0), (2, .int v2), (5, .int v5)] → W p l e rmX2_takeSeat s m args below meth c H locs 0 0 Q (F0 m 45 ls []) := by
    intro v5 h H locs ls hP hD hS hl
    unfold m_X2_takeSeat_45 at h
    refine lv_aload_n hx hb dX2_takeSeat_45 rfl (lv_at hl 0 rfl) ?_
    refine va_get (D := (dC, dI)) (ci := 2) (v := .ref h0_left) (C := RX2) (T := TX2) (N := 4) hx hb hts hiX2 hown hK hP 0 rfl rfl 0 (by decide) (hts (.fieldLink RX2 9 "OptionLattice$Seating" "left" "[I") (by decide +kernel)) (fun _ h9 => h9) rfl dX2_takeSeat_46 ?_
    refine lv_iload hx hb dX2_takeSeat_49 (lv_at hl 2 rfl) ?_
    refine lv_dup2_11 hx hb dX2_takeSeat_51 rfl rfl ?_
    obtain ⟨g_, h⟩ := gd_some h
    refine va_iald hx hb hK hP 1 1 rfl rfl (inb_in g_) dX2_takeSeat_52 ?_
    refine lv_iconst (v := 1) hx hb dX2_takeSeat_53 (by decide) ?_
    refine lv_isub hx hb dX2_takeSeat_54 ?_
    obtain ⟨g_, h⟩ := gd_some h
    refine va_iast hx hb hK hP hD hS 1 1 rfl rfl (inb_in g_) dX2_takeSeat_55 (fun H locs hP hD hS => ?_)
    have hP : va_P (dC, dI) vwCl [(h0, .inr (2, [.ref h0_left, .ref h0_sitting, .ref h0_openColumns, .ref h0_wayFinder])), (h0_left, .inl (cyI, 16, .inl (upd left_ v5.toNatClampNeg ((left_ v5.toNatClampNeg) - 1)))), (h0_sitting, .inl (cyI, 16, .inl sitting_)), (h1, .inr (0, [.int a1_columnCount_, .int a1_roomCount_, .int a1_size_, .ref h1_barsOf, .ref h1_subjectOf, .ref h1_teacherOf, .ref h1_seatsOf, .ref h1_columnOf, .ref h1_columnsWith])), (h1_subjectOf, .inl (cyI, 16, .inl a1_subjectOf_)), (h1_columnOf, .inl (cyI, 16, .inl a1_columnOf_))] H := hP
    have hD : va_D A [(h0, .inr (2, [.ref h0_left, .ref h0_sitting, .ref h0_openColumns, .ref h0_wayFinder])), (h0_left, .inl (cyI, 16, .inl (upd left_ v5.toNatClampNeg ((left_ v5.toNatClampNeg) - 1)))), (h0_sitting, .inl (cyI, 16, .inl sitting_)), (h1, .inr (0, [.int a1_columnCount_, .int a1_roomCount_, .int a1_size_, .ref h1_barsOf, .ref h1_subjectOf, .ref h1_teacherOf, .ref h1_seatsOf, .ref h1_columnOf, .ref h1_columnsWith])), (h1_subjectOf, .inl (cyI, 16, .inl a1_subjectOf_)), (h1_columnOf, .inl (cyI, 16, .inl a1_columnOf_))] := hD
    refine lv_aload_n hx hb dX2_takeSeat_56 rfl (lv_at hl 0 rfl) ?_
    refine va_get (D := (dC, dI)) (ci := 2) (v := .ref h0_sitting) (C := RX2) (T := TX2) (N := 4) hx hb hts hiX2 hown hK hP 0 rfl rfl 1 (by decide) (hts (.fieldLink RX2 15 "OptionLattice$Seating" "sitting" "[I") (by decide +kernel)) (fun _ h9 => h9) rfl dX2_takeSeat_57 ?_
    refine lv_iload hx hb dX2_takeSeat_60 (lv_at hl 2 rfl) ?_
    refine lv_dup2_11 hx hb dX2_takeSeat_62 rfl rfl ?_
    obtain ⟨g_, h⟩ := gd_some h
    refine va_iald hx hb hK hP 2 1 rfl rfl (inb_in g_) dX2_takeSeat_63 ?_
    refine lv_iconst (v := 1) hx hb dX2_takeSeat_64 (by decide) ?_
    refine lv_iload_n hx hb dX2_takeSeat_65 rfl (lv_at hl 1 rfl) ?_
    refine lv_ishl hx hb dX2_takeSeat_66 ?_
    refine lv_ior hx hb dX2_takeSeat_67 ?_
    obtain ⟨g_, h⟩ := gd_some h
    refine va_iast hx hb hK hP hD hS 2 1 rfl rfl (inb_in g_) dX2_takeSeat_68 (fun H locs hP hD hS => ?_)
    have hP : va_P (dC, dI) vwCl [(h0, .inr (2, [.ref h0_left, .ref h0_sitting, .ref h0_openColumns, .ref h0_wayFinder])), (h0_left, .inl (cyI, 16, .inl (upd left_ v5.toNatClampNeg ((left_ v5.toNatClampNeg) - 1)))), (h0_sitting, .inl (cyI, 16, .inl (upd sitting_ v5.toNatClampNeg ((sitting_ v5.toNatClampNeg) ||| ((1 : Int32) <<< (v2 &&& 31)))))), (h1, .inr (0, [.int a1_columnCount_, .int a1_roomCount_, .int a1_size_, .ref h1_barsOf, .ref h1_subjectOf, .ref h1_teacherOf, .ref h1_seatsOf, .ref h1_columnOf, .ref h1_columnsWith])), (h1_subjectOf, .inl (cyI, 16, .inl a1_subjectOf_)), (h1_columnOf, .inl (cyI, 16, .inl a1_columnOf_))] H := hP
    have hD : va_D A [(h0, .inr (2, [.ref h0_left, .ref h0_sitting, .ref h0_openColumns, .ref h0_wayFinder])), (h0_left, .inl (cyI, 16, .inl (upd left_ v5.toNatClampNeg ((left_ v5.toNatClampNeg) - 1)))), (h0_sitting, .inl (cyI, 16, .inl (upd sitting_ v5.toNatClampNeg ((sitting_ v5.toNatClampNeg) ||| ((1 : Int32) <<< (v2 &&& 31)))))), (h1, .inr (0, [.int a1_columnCount_, .int a1_roomCount_, .int a1_size_, .ref h1_barsOf, .ref h1_subjectOf, .ref h1_teacherOf, .ref h1_seatsOf, .ref h1_columnOf, .ref h1_columnsWith])), (h1_subjectOf, .inl (cyI, 16, .inl a1_subjectOf_)), (h1_columnOf, .inl (cyI, 16, .inl a1_columnOf_))] := hD
    have h : some ((upd left_ v5.toNatClampNeg ((left_ v5.toNatClampNeg) - 1)), (upd sitting_ v5.toNatClampNeg ((sitting_ v5.toNatClampNeg) ||| ((1 : Int32) <<< (v2 &&& 31))))) = some (o0, o1) := h
    have z0 := Option.some.inj h
    obtain ⟨rfl, z1⟩ := Prod.mk.inj z0
    obtain rfl := z1
    exact hret _ _ _ _ hP hS dX2_takeSeat_69
  have L3 : ∀ (n3 : Nat), ∀ (v5 : Int32), it1 (m_X2_takeSeat_3 left_ sitting_ a1_size_ a1_subjectOf_ a1_columnOf_ v2 v3 v4) n3 v5 = some (o0, o1) → ∀ (H : Heap) (locs : List Loc) (ls : Array Slot), va_P (dC, dI) vwCl [(h0, .inr (2, [.ref h0_left, .ref h0_sitting, .ref h0_openColumns, .ref h0_wayFinder])), (h0_left, .inl (cyI, 16, .inl left_)), (h0_sitting, .inl (cyI, 16, .inl sitting_)), (h1, .inr (0, [.int a1_columnCount_, .int a1_roomCount_, .int a1_size_, .ref h1_barsOf, .ref h1_subjectOf, .ref h1_teacherOf, .ref h1_seatsOf, .ref h1_columnOf, .ref h1_columnsWith])), (h1_subjectOf, .inl (cyI, 16, .inl a1_subjectOf_)), (h1_columnOf, .inl (cyI, 16, .inl a1_columnOf_))] H → va_D A [(h0, .inr (2, [.ref h0_left, .ref h0_sitting, .ref h0_openColumns, .ref h0_wayFinder])), (h0_left, .inl (cyI, 16, .inl left_)), (h0_sitting, .inl (cyI, 16, .inl sitting_)), (h1, .inr (0, [.int a1_columnCount_, .int a1_roomCount_, .int a1_size_, .ref h1_barsOf, .ref h1_subjectOf, .ref h1_teacherOf, .ref h1_seatsOf, .ref h1_columnOf, .ref h1_columnsWith])), (h1_subjectOf, .inl (cyI, 16, .inl a1_subjectOf_)), (h1_columnOf, .inl (cyI, 16, .inl a1_columnOf_))] → va_S A s.heap H locs → lv_has ls 6 [(0, .ref h0), (1, .ref h1), (2, .int v2), (3, .int v3), (4, .int v4), (5, .int v5)] → W p l e rmX2_takeSeat s m args below meth c H locs 0 0 Q (F0 m 3 ls []) := by
    intro n3
    induction n3 with
    | zero => intro v5 h; exact absurd h (fun z => it1_z z)
    | succ n3 ih3 =>
      intro v5 h H locs ls hP hD hS hl
      have h : m_X2_takeSeat_3 left_ sitting_ a1_size_ a1_subjectOf_ a1_columnOf_ v2 v3 v4 (it1 (m_X2_takeSeat_3 left_ sitting_ a1_size_ a1_subjectOf_ a1_columnOf_ v2 v3 v4) n3) v5 = some (o0, o1) := h
      unfold m_X2_takeSeat_3 at h
      refine lv_iload hx hb dX2_takeSeat_3 (lv_at hl 5 rfl) ?_
      refine lv_aload_n hx hb dX2_takeSeat_5 rfl (lv_at hl 1 rfl) ?_
      refine va_getN (host := "OptionLattice") (D := (dC, dI)) (ci := 0) (v := .int a1_size_) (C := RX0) (T := TX0) (N := 9) hx hb hts hiX0 hown hK hP 3 rfl rfl 2 (by decide) (va_Nw.use rfl (hE.1 ("OptionLattice$Seating", 49, "OptionLattice$Plan", "size", "I") (List.mem_of_getElem? (i := 4) rfl))) (fun _ h9 => h9) rfl dX2_takeSeat_6 ?_
      refine lv_icmp_ge (tgt := 76) hx hb dX2_takeSeat_9 (by decide) (fun c_ => ?_) (fun c_ => ?_)
      · have h := (if_pos c_).symm.trans h
        have h : some (left_, sitting_) = some (o0, o1) := h
        have z0 := Option.some.inj h
        obtain ⟨rfl, z1⟩ := Prod.mk.inj z0
        obtain rfl := z1
        exact hret _ _ _ _ hP hS dX2_takeSeat_76
      · have h := (if_neg c_).symm.trans h
        refine lv_aload_n hx hb dX2_takeSeat_12 rfl (lv_at hl 1 rfl) ?_
        refine va_getN (host := "OptionLattice") (D := (dC, dI)) (ci := 0) (v := .ref h1_subjectOf) (C := RX0) (T := TX0) (N := 9) hx hb hts hiX0 hown hK hP 3 rfl rfl 4 (by decide) (va_Nw.use rfl (hE.1 ("OptionLattice$Seating", 73, "OptionLattice$Plan", "subjectOf", "[I") (List.mem_of_getElem? (i := 7) rfl))) (fun _ h9 => h9) rfl dX2_takeSeat_13 ?_
        refine lv_iload hx hb dX2_takeSeat_16 (lv_at hl 5 rfl) ?_
        obtain ⟨g_, h⟩ := gd_some h
        refine va_iald hx hb hK hP 4 1 rfl rfl (inb_in g_) dX2_takeSeat_18 ?_
        refine lv_iload_n hx hb dX2_takeSeat_19 rfl (lv_at hl 3 rfl) ?_
        refine lv_icmp_ne (tgt := 70) hx hb dX2_takeSeat_20 (by decide) (fun c_ => ?_) (fun c_ => ?_)
        · have h := (if_neg c_).symm.trans h
          obtain ⟨v5_1, e_v5_1⟩ : ∃ z : Int32, z = (v5 + 1) := ⟨_, rfl⟩
          have h := lt_use e_v5_1 h
          refine lv_iinc (v := v5_1) (lv' := [(5, .int v5_1), (0, .ref h0), (1, .ref h1), (2, .int v2), (3, .int v3), (4, .int v4)]) hx hb dX2_takeSeat_70 hl (k := 5) rfl (by rw [e_v5_1]; rfl) (by decide) rfl (fun ls hl => ?_)
          refine lv_goto (tgt := 3) hx hb dX2_takeSeat_73 (by decide) ?_
          exact ih3 v5_1 h _ _ _ hP hD hS (lv_sub hl [1, 2, 3, 4, 5, 0] rfl)
        · have h := (if_pos c_).symm.trans h
          refine lv_aload_n hx hb dX2_takeSeat_23 rfl (lv_at hl 1 rfl) ?_
          refine va_getN (host := "OptionLattice") (D := (dC, dI)) (ci := 0) (v := .ref h1_columnOf) (C := RX0) (T := TX0) (N := 9) hx hb hts hiX0 hown hK hP 3 rfl rfl 7 (by decide) (va_Nw.use rfl (hE.1 ("OptionLattice$Seating", 76, "OptionLattice$Plan", "columnOf", "[I") (List.mem_of_getElem? (i := 12) rfl))) (fun _ h9 => h9) rfl dX2_takeSeat_24 ?_
          refine lv_iload hx hb dX2_takeSeat_27 (lv_at hl 5 rfl) ?_
          obtain ⟨g_, h⟩ := gd_some h
          refine va_iald hx hb hK hP 5 1 rfl rfl (inb_in g_) dX2_takeSeat_29 ?_
          refine lv_iload hx hb dX2_takeSeat_30 (lv_at hl 4 rfl) ?_
          refine lv_icmp_ne (tgt := 70) hx hb dX2_takeSeat_32 (by decide) (fun c_ => ?_) (fun c_ => ?_)
          · have h := (if_neg c_).symm.trans h
            obtain ⟨v5_2, e_v5_2⟩ : ∃ z : Int32, z = (v5 + 1) := ⟨_, rfl⟩
            have h := lt_use e_v5_2 h
            refine lv_iinc (v := v5_2) (lv' := [(5, .int v5_2), (0, .ref h0), (1, .ref h1), (2, .int v2), (3, .int v3), (4, .int v4)]) hx hb dX2_takeSeat_70 hl (k := 5) rfl (by rw [e_v5_2]; rfl) (by decide) rfl (fun ls hl => ?_)
            refine lv_goto (tgt := 3) hx hb dX2_takeSeat_73 (by decide) ?_
            exact ih3 v5_2 h _ _ _ hP hD hS (lv_sub hl [1, 2, 3, 4, 5, 0] rfl)
          · have h := (if_pos c_).symm.trans h
            refine lv_aload_n hx hb dX2_takeSeat_35 rfl (lv_at hl 0 rfl) ?_
            refine va_get (D := (dC, dI)) (ci := 2) (v := .ref h0_left) (C := RX2) (T := TX2) (N := 4) hx hb hts hiX2 hown hK hP 0 rfl rfl 0 (by decide) (hts (.fieldLink RX2 9 "OptionLattice$Seating" "left" "[I") (by decide +kernel)) (fun _ h9 => h9) rfl dX2_takeSeat_36 ?_
            refine lv_iload hx hb dX2_takeSeat_39 (lv_at hl 5 rfl) ?_
            obtain ⟨g_, h⟩ := gd_some h
            refine va_iald hx hb hK hP 1 1 rfl rfl (inb_in g_) dX2_takeSeat_41 ?_
            refine lv_if_le (tgt := 70) hx hb dX2_takeSeat_42 (by decide) (fun c_ => ?_) (fun c_ => ?_)
            · have h := (if_pos c_).symm.trans h
              obtain ⟨v5_3, e_v5_3⟩ : ∃ z : Int32, z = (v5 + 1) := ⟨_, rfl⟩
              have h := lt_use e_v5_3 h
              refine lv_iinc (v := v5_3) (lv' := [(5, .int v5_3), (0, .ref h0), (1, .ref h1), (2, .int v2), (3, .int v3), (4, .int v4)]) hx hb dX2_takeSeat_70 hl (k := 5) rfl (by rw [e_v5_3]; rfl) (by decide) rfl (fun ls hl => ?_)
              refine lv_goto (tgt := 3) hx hb dX2_takeSeat_73 (by decide) ?_
              exact ih3 v5_3 h _ _ _ hP hD hS (lv_sub hl [1, 2, 3, 4, 5, 0] rfl)
            · have h := (if_neg c_).symm.trans h
              exact J45 v5 h _ _ _ hP hD hS (lv_sub hl [0, 2, 5] rfl)
  unfold m_X2_takeSeat at h
  refine lv_iconst (v := 0) hx hb dX2_takeSeat_0 (by decide) ?_
  refine lv_istore (lv' := [(5, .int 0), (0, .ref h0), (1, .ref h1), (2, .int v2), (3, .int v3), (4, .int v4)]) hx hb dX2_takeSeat_1 hl (by decide) rfl (fun ls hl => ?_)
  exact L3  1100 0 h _ _ _ hP hD hS (lv_sub hl [1, 2, 3, 4, 5, 0] rfl)

def m_X2_columnsLeft_5 (left_ : Nat → Int32) (a1_size_ : Int32) (a1_subjectOf_ : Nat → Int32) (a1_columnOf_ : Nat → Int32) (v2 : Int32) (rec5 : Int32 → Int32 → Option (Int32)) : Int32 → Int32 → Option (Int32) := fun v3 v4 =>
  (if a1_size_ ≤ v4 then some v3 else gd (inb v4 16) ((if (a1_subjectOf_ v4.toNatClampNeg) = v2 then gd (inb v4 16) ((if (a1_columnOf_ v4.toNatClampNeg) = (-1) then lt' (v4 + 1) (fun v4_2 => rec5 v3 v4_2) else gd (inb v4 16) ((if (left_ v4.toNatClampNeg) ≤ 0 then lt' (v4 + 1) (fun v4_3 => rec5 v3 v4_3) else gd (inb v4 16) (lt' (v3 ||| ((1 : Int32) <<< ((a1_columnOf_ v4.toNatClampNeg) &&& 31))) (fun v3_4 => lt' (v4 + 1) (fun v4_5 => rec5 v3_4 v4_5))))))) else lt' (v4 + 1) (fun v4_1 => rec5 v3 v4_1))))
def m_X2_columnsLeft (left_ : Nat → Int32) (a1_size_ : Int32) (a1_subjectOf_ : Nat → Int32) (a1_columnOf_ : Nat → Int32) (v2 : Int32) : Option (Int32) :=
  it2 (m_X2_columnsLeft_5 left_ a1_size_ a1_subjectOf_ a1_columnOf_ v2) 1100 0 0
abbrev rmX2_columnsLeft : Room := { frames := 0, cells := 0, slots := 0, locals := 0 }
set_option maxHeartbeats 4000000 in
set_option maxRecDepth 100000 in
theorem c_X2_columnsLeft (l : Launch) (dC : Nat → ClassId) (dI : Nat → Nat → Nat) (cyC cyI cyJ : ClassId) (h0 h0_left h0_sitting h0_openColumns h0_wayFinder h1 h1_barsOf h1_subjectOf h1_teacherOf h1_seatsOf h1_columnOf h1_columnsWith : Nat) (left_ : Nat → Int32) (a1_columnCount_ : Int32) (a1_roomCount_ : Int32) (a1_size_ : Int32) (a1_subjectOf_ : Nat → Int32) (a1_columnOf_ : Nat → Int32) (v2 : Int32) (rr : Int32) (h : m_X2_columnsLeft left_ a1_size_ a1_subjectOf_ a1_columnOf_ v2 = some rr) : uMi l yX2_columnsLeft wsX2_columnsLeft rmX2_columnsLeft (dC, dI) [(cyC, .char), (cyI, .int), (cyJ, .long)] [.ref h0, .ref h1, .int v2] [(h0, .inr (2, [.ref h0_left, .ref h0_sitting, .ref h0_openColumns, .ref h0_wayFinder])), (h0_left, .inl (cyI, 16, .inl left_)), (h1, .inr (0, [.int a1_columnCount_, .int a1_roomCount_, .int a1_size_, .ref h1_barsOf, .ref h1_subjectOf, .ref h1_teacherOf, .ref h1_seatsOf, .ref h1_columnOf, .ref h1_columnsWith])), (h1_subjectOf, .inl (cyI, 16, .inl a1_subjectOf_)), (h1_columnOf, .inl (cyI, 16, .inl a1_columnOf_))] [(h0, .inr (2, [.ref h0_left, .ref h0_sitting, .ref h0_openColumns, .ref h0_wayFinder])), (h0_left, .inl (cyI, 16, .inl left_)), (h1, .inr (0, [.int a1_columnCount_, .int a1_roomCount_, .int a1_size_, .ref h1_barsOf, .ref h1_subjectOf, .ref h1_teacherOf, .ref h1_seatsOf, .ref h1_columnOf, .ref h1_columnsWith])), (h1_subjectOf, .inl (cyI, 16, .inl a1_subjectOf_)), (h1_columnOf, .inl (cyI, 16, .inl a1_columnOf_))] rr := by
  refine uMi.of (cc := cX2_columnsLeft) (maxL := 5) (by decide) rfl (Nat.le_of_ble_eq_true rfl) (fun p e s m args below meth c A ls Q hx hb hml hown hts hA hP hK hD hE hS hl hret => ?_)
  have hown : s.vm.findClass RX2 = some m.cls := hown
  have hl : lv_has ls 5 [(0, .ref h0), (1, .ref h1), (2, .int v2)] := hl
  have hiX0 : ∀ w ∈ u_ws RX0 TX0 9, w ∈ wsX2_columnsLeft := fun _ h9 => List.mem_cons_of_mem _ (List.mem_append_left _ (List.mem_append_right _ h9))
  have hiX2 : ∀ w ∈ u_ws RX2 TX2 4, w ∈ wsX2_columnsLeft := fun _ h9 => List.mem_cons_of_mem _ (List.mem_append_right _ h9)
  have L5 : ∀ (n5 : Nat), ∀ (v3 : Int32), ∀ (v4 : Int32), it2 (m_X2_columnsLeft_5 left_ a1_size_ a1_subjectOf_ a1_columnOf_ v2) n5 v3 v4 = some rr → ∀ (H : Heap) (locs : List Loc) (ls : Array Slot), va_P (dC, dI) vwCl [(h0, .inr (2, [.ref h0_left, .ref h0_sitting, .ref h0_openColumns, .ref h0_wayFinder])), (h0_left, .inl (cyI, 16, .inl left_)), (h1, .inr (0, [.int a1_columnCount_, .int a1_roomCount_, .int a1_size_, .ref h1_barsOf, .ref h1_subjectOf, .ref h1_teacherOf, .ref h1_seatsOf, .ref h1_columnOf, .ref h1_columnsWith])), (h1_subjectOf, .inl (cyI, 16, .inl a1_subjectOf_)), (h1_columnOf, .inl (cyI, 16, .inl a1_columnOf_))] H → va_D A [(h0, .inr (2, [.ref h0_left, .ref h0_sitting, .ref h0_openColumns, .ref h0_wayFinder])), (h0_left, .inl (cyI, 16, .inl left_)), (h1, .inr (0, [.int a1_columnCount_, .int a1_roomCount_, .int a1_size_, .ref h1_barsOf, .ref h1_subjectOf, .ref h1_teacherOf, .ref h1_seatsOf, .ref h1_columnOf, .ref h1_columnsWith])), (h1_subjectOf, .inl (cyI, 16, .inl a1_subjectOf_)), (h1_columnOf, .inl (cyI, 16, .inl a1_columnOf_))] → va_S A s.heap H locs → lv_has ls 5 [(0, .ref h0), (1, .ref h1), (2, .int v2), (3, .int v3), (4, .int v4)] → W p l e rmX2_columnsLeft s m args below meth c H locs 0 0 Q (F0 m 5 ls []) := by
    intro n5
    induction n5 with
    | zero => intro v3 v4 h; exact absurd h (fun z => it2_z z)
    | succ n5 ih5 =>
      intro v3 v4 h H locs ls hP hD hS hl
      have h : m_X2_columnsLeft_5 left_ a1_size_ a1_subjectOf_ a1_columnOf_ v2 (it2 (m_X2_columnsLeft_5 left_ a1_size_ a1_subjectOf_ a1_columnOf_ v2) n5) v3 v4 = some rr := h
      unfold m_X2_columnsLeft_5 at h
      refine lv_iload hx hb dX2_columnsLeft_5 (lv_at hl 4 rfl) ?_
      refine lv_aload_n hx hb dX2_columnsLeft_7 rfl (lv_at hl 1 rfl) ?_
      refine va_getN (host := "OptionLattice") (D := (dC, dI)) (ci := 0) (v := .int a1_size_) (C := RX0) (T := TX0) (N := 9) hx hb hts hiX0 hown hK hP 2 rfl rfl 2 (by decide) (va_Nw.use rfl (hE.1 ("OptionLattice$Seating", 49, "OptionLattice$Plan", "size", "I") (List.mem_of_getElem? (i := 4) rfl))) (fun _ h9 => h9) rfl dX2_columnsLeft_8 ?_
      refine lv_icmp_ge (tgt := 64) hx hb dX2_columnsLeft_11 (by decide) (fun c_ => ?_) (fun c_ => ?_)
      · have h := (if_pos c_).symm.trans h
        refine lv_iload_n hx hb dX2_columnsLeft_64 rfl (lv_at hl 3 rfl) ?_
        have h : some v3 = some rr := h
        have z0 := Option.some.inj h
        obtain rfl := z0
        exact hret _ _ _ _ hP hS rfl dX2_columnsLeft_65
      · have h := (if_neg c_).symm.trans h
        refine lv_aload_n hx hb dX2_columnsLeft_14 rfl (lv_at hl 1 rfl) ?_
        refine va_getN (host := "OptionLattice") (D := (dC, dI)) (ci := 0) (v := .ref h1_subjectOf) (C := RX0) (T := TX0) (N := 9) hx hb hts hiX0 hown hK hP 2 rfl rfl 4 (by decide) (va_Nw.use rfl (hE.1 ("OptionLattice$Seating", 73, "OptionLattice$Plan", "subjectOf", "[I") (List.mem_of_getElem? (i := 7) rfl))) (fun _ h9 => h9) rfl dX2_columnsLeft_15 ?_
        refine lv_iload hx hb dX2_columnsLeft_18 (lv_at hl 4 rfl) ?_
        obtain ⟨g_, h⟩ := gd_some h
        refine va_iald hx hb hK hP 3 1 rfl rfl (inb_in g_) dX2_columnsLeft_20 ?_
        refine lv_iload_n hx hb dX2_columnsLeft_21 rfl (lv_at hl 2 rfl) ?_
        refine lv_icmp_ne (tgt := 58) hx hb dX2_columnsLeft_22 (by decide) (fun c_ => ?_) (fun c_ => ?_)
        · have h := (if_neg c_).symm.trans h
          obtain ⟨v4_1, e_v4_1⟩ : ∃ z : Int32, z = (v4 + 1) := ⟨_, rfl⟩
          have h := lt_use e_v4_1 h
          refine lv_iinc (v := v4_1) (lv' := [(4, .int v4_1), (0, .ref h0), (1, .ref h1), (2, .int v2), (3, .int v3)]) hx hb dX2_columnsLeft_58 hl (k := 4) rfl (by rw [e_v4_1]; rfl) (by decide) rfl (fun ls hl => ?_)
          refine lv_goto (tgt := 5) hx hb dX2_columnsLeft_61 (by decide) ?_
          exact ih5 v3 v4_1 h _ _ _ hP hD hS (lv_sub hl [1, 2, 3, 4, 0] rfl)
        · have h := (if_pos c_).symm.trans h
          refine lv_aload_n hx hb dX2_columnsLeft_25 rfl (lv_at hl 1 rfl) ?_
          refine va_getN (host := "OptionLattice") (D := (dC, dI)) (ci := 0) (v := .ref h1_columnOf) (C := RX0) (T := TX0) (N := 9) hx hb hts hiX0 hown hK hP 2 rfl rfl 7 (by decide) (va_Nw.use rfl (hE.1 ("OptionLattice$Seating", 76, "OptionLattice$Plan", "columnOf", "[I") (List.mem_of_getElem? (i := 12) rfl))) (fun _ h9 => h9) rfl dX2_columnsLeft_26 ?_
          refine lv_iload hx hb dX2_columnsLeft_29 (lv_at hl 4 rfl) ?_
          obtain ⟨g_, h⟩ := gd_some h
          refine va_iald hx hb hK hP 4 1 rfl rfl (inb_in g_) dX2_columnsLeft_31 ?_
          refine lv_iconst (v := (-1)) hx hb dX2_columnsLeft_32 (by decide) ?_
          refine lv_icmp_eq (tgt := 58) hx hb dX2_columnsLeft_33 (by decide) (fun c_ => ?_) (fun c_ => ?_)
          · have h := (if_pos c_).symm.trans h
            obtain ⟨v4_2, e_v4_2⟩ : ∃ z : Int32, z = (v4 + 1) := ⟨_, rfl⟩
            have h := lt_use e_v4_2 h
            refine lv_iinc (v := v4_2) (lv' := [(4, .int v4_2), (0, .ref h0), (1, .ref h1), (2, .int v2), (3, .int v3)]) hx hb dX2_columnsLeft_58 hl (k := 4) rfl (by rw [e_v4_2]; rfl) (by decide) rfl (fun ls hl => ?_)
            refine lv_goto (tgt := 5) hx hb dX2_columnsLeft_61 (by decide) ?_
            exact ih5 v3 v4_2 h _ _ _ hP hD hS (lv_sub hl [1, 2, 3, 4, 0] rfl)
          · have h := (if_neg c_).symm.trans h
            refine lv_aload_n hx hb dX2_columnsLeft_36 rfl (lv_at hl 0 rfl) ?_
            refine va_get (D := (dC, dI)) (ci := 2) (v := .ref h0_left) (C := RX2) (T := TX2) (N := 4) hx hb hts hiX2 hown hK hP 0 rfl rfl 0 (by decide) (hts (.fieldLink RX2 9 "OptionLattice$Seating" "left" "[I") (by decide +kernel)) (fun _ h9 => h9) rfl dX2_columnsLeft_37 ?_
            refine lv_iload hx hb dX2_columnsLeft_40 (lv_at hl 4 rfl) ?_
            obtain ⟨g_, h⟩ := gd_some h
            refine va_iald hx hb hK hP 1 1 rfl rfl (inb_in g_) dX2_columnsLeft_42 ?_
            refine lv_if_le (tgt := 58) hx hb dX2_columnsLeft_43 (by decide) (fun c_ => ?_) (fun c_ => ?_)
            · have h := (if_pos c_).symm.trans h
              obtain ⟨v4_3, e_v4_3⟩ : ∃ z : Int32, z = (v4 + 1) := ⟨_, rfl⟩
              have h := lt_use e_v4_3 h
              refine lv_iinc (v := v4_3) (lv' := [(4, .int v4_3), (0, .ref h0), (1, .ref h1), (2, .int v2), (3, .int v3)]) hx hb dX2_columnsLeft_58 hl (k := 4) rfl (by rw [e_v4_3]; rfl) (by decide) rfl (fun ls hl => ?_)
              refine lv_goto (tgt := 5) hx hb dX2_columnsLeft_61 (by decide) ?_
              exact ih5 v3 v4_3 h _ _ _ hP hD hS (lv_sub hl [1, 2, 3, 4, 0] rfl)
            · have h := (if_neg c_).symm.trans h
              refine lv_iload_n hx hb dX2_columnsLeft_46 rfl (lv_at hl 3 rfl) ?_
              refine lv_iconst (v := 1) hx hb dX2_columnsLeft_47 (by decide) ?_
              refine lv_aload_n hx hb dX2_columnsLeft_48 rfl (lv_at hl 1 rfl) ?_
              refine va_getN (host := "OptionLattice") (D := (dC, dI)) (ci := 0) (v := .ref h1_columnOf) (C := RX0) (T := TX0) (N := 9) hx hb hts hiX0 hown hK hP 2 rfl rfl 7 (by decide) (va_Nw.use rfl (hE.1 ("OptionLattice$Seating", 76, "OptionLattice$Plan", "columnOf", "[I") (List.mem_of_getElem? (i := 12) rfl))) (fun _ h9 => h9) rfl dX2_columnsLeft_49 ?_
              refine lv_iload hx hb dX2_columnsLeft_52 (lv_at hl 4 rfl) ?_
              obtain ⟨g_, h⟩ := gd_some h
              refine va_iald hx hb hK hP 4 1 rfl rfl (inb_in g_) dX2_columnsLeft_54 ?_
              refine lv_ishl hx hb dX2_columnsLeft_55 ?_
              refine lv_ior hx hb dX2_columnsLeft_56 ?_
              refine lv_topi (fun v3_4 e_v3_4 => ?_)
              have h := lt_use e_v3_4 h
              refine lv_istore_n (lv' := [(3, .int v3_4), (0, .ref h0), (1, .ref h1), (2, .int v2), (4, .int v4)]) hx hb dX2_columnsLeft_57 rfl hl (by decide) rfl (fun ls hl => ?_)
              obtain ⟨v4_5, e_v4_5⟩ : ∃ z : Int32, z = (v4 + 1) := ⟨_, rfl⟩
              have h := lt_use e_v4_5 h
              refine lv_iinc (v := v4_5) (lv' := [(4, .int v4_5), (3, .int v3_4), (0, .ref h0), (1, .ref h1), (2, .int v2)]) hx hb dX2_columnsLeft_58 hl (k := 4) rfl (by rw [e_v4_5]; rfl) (by decide) rfl (fun ls hl => ?_)
              refine lv_goto (tgt := 5) hx hb dX2_columnsLeft_61 (by decide) ?_
              exact ih5 v3_4 v4_5 h _ _ _ hP hD hS (lv_sub hl [2, 3, 4, 1, 0] rfl)
  unfold m_X2_columnsLeft at h
  refine lv_iconst (v := 0) hx hb dX2_columnsLeft_0 (by decide) ?_
  refine lv_istore_n (lv' := [(3, .int 0), (0, .ref h0), (1, .ref h1), (2, .int v2)]) hx hb dX2_columnsLeft_1 rfl hl (by decide) rfl (fun ls hl => ?_)
  refine lv_iconst (v := 0) hx hb dX2_columnsLeft_2 (by decide) ?_
  refine lv_istore (lv' := [(4, .int 0), (3, .int 0), (0, .ref h0), (1, .ref h1), (2, .int v2)]) hx hb dX2_columnsLeft_3 hl (by decide) rfl (fun ls hl => ?_)
  exact L5  1100 0 0 h _ _ _ hP hD hS (lv_sub hl [2, 3, 4, 1, 0] rfl)

def m_X2_seatOne_6 (wayFinder_first_ : Nat → Int32) (a1_size_ : Int32) (a1_subjectOf_ : Nat → Int32) (a1_columnOf_ : Nat → Int32) (v2 : Int32) (v3 : Int32) (rec6 : Int32 → Int32 → (Nat → Int32) → (Nat → Int32) → (Nat → Int32) → Option ((Nat → Int32) × (Nat → Int32) × (Nat → Int32))) : Int32 → Int32 → (Nat → Int32) → (Nat → Int32) → (Nat → Int32) → Option ((Nat → Int32) × (Nat → Int32) × (Nat → Int32)) := fun v4 v5 left_ sitting_ openColumns_ =>
  (if 10 ≤ v5 then some (left_, sitting_, openColumns_) else (if 6 ≤ v4 then some (left_, sitting_, openColumns_) else bd1 (m_X5_hasBit v3 v5) (fun r_1 => (if r_1 = 0 then lt' (v5 + 1) (fun v5_2 => rec6 v4 v5_2 left_ sitting_ openColumns_) else gd (inb v4 6) (bd2 (m_X2_takeSeat left_ sitting_ a1_size_ a1_subjectOf_ a1_columnOf_ v2 v5 (wayFinder_first_ v4.toNatClampNeg)) (fun left_3 sitting_4 => bd1 (m_X2_columnsLeft left_3 a1_size_ a1_subjectOf_ a1_columnOf_ v5) (fun r_5 => gd (inb v5 10) (lt' (v4 + 1) (fun v4_6 => lt' (v5 + 1) (fun v5_7 => rec6 v4_6 v5_7 left_3 sitting_4 (upd openColumns_ v5.toNatClampNeg r_5)))))))))))
def m_X2_seatOne (left_ : Nat → Int32) (sitting_ : Nat → Int32) (openColumns_ : Nat → Int32) (wayFinder_first_ : Nat → Int32) (a1_size_ : Int32) (a1_subjectOf_ : Nat → Int32) (a1_columnOf_ : Nat → Int32) (v2 : Int32) (v3 : Int32) : Option ((Nat → Int32) × (Nat → Int32) × (Nat → Int32)) :=
  it5 (m_X2_seatOne_6 wayFinder_first_ a1_size_ a1_subjectOf_ a1_columnOf_ v2 v3) 1100 0 0 left_ sitting_ openColumns_
abbrev rmX2_seatOne : Room := { frames := 1, cells := 0, slots := 0, locals := 25 }
set_option maxHeartbeats 4000000 in
set_option maxRecDepth 100000 in
theorem c_X2_seatOne (l : Launch) (dC : Nat → ClassId) (dI : Nat → Nat → Nat) (cyC cyI cyJ : ClassId) (h0 h0_left h0_sitting h0_openColumns h0_wayFinder h0_wayFinder_first h0_wayFinder_startsAt h0_wayFinder_tally h1 h1_barsOf h1_subjectOf h1_teacherOf h1_seatsOf h1_columnOf h1_columnsWith : Nat) (left_ : Nat → Int32) (sitting_ : Nat → Int32) (openColumns_ : Nat → Int32) (wayFinder_first_ : Nat → Int32) (a1_columnCount_ : Int32) (a1_roomCount_ : Int32) (a1_size_ : Int32) (a1_subjectOf_ : Nat → Int32) (a1_columnOf_ : Nat → Int32) (v2 : Int32) (v3 : Int32) (o0 : Nat → Int32) (o1 : Nat → Int32) (o2 : Nat → Int32) (h : m_X2_seatOne left_ sitting_ openColumns_ wayFinder_first_ a1_size_ a1_subjectOf_ a1_columnOf_ v2 v3 = some (o0, o1, o2)) : uMv l yX2_seatOne wsX2_seatOne rmX2_seatOne (dC, dI) [(cyC, .char), (cyI, .int), (cyJ, .long)] [.ref h0, .ref h1, .int v2, .int v3] [(h0, .inr (2, [.ref h0_left, .ref h0_sitting, .ref h0_openColumns, .ref h0_wayFinder])), (h0_left, .inl (cyI, 16, .inl left_)), (h0_sitting, .inl (cyI, 16, .inl sitting_)), (h0_openColumns, .inl (cyI, 10, .inl openColumns_)), (h0_wayFinder, .inr (4, [.ref h0_wayFinder_first, .ref h0_wayFinder_startsAt, .ref h0_wayFinder_tally])), (h0_wayFinder_first, .inl (cyI, 6, .inl wayFinder_first_)), (h1, .inr (0, [.int a1_columnCount_, .int a1_roomCount_, .int a1_size_, .ref h1_barsOf, .ref h1_subjectOf, .ref h1_teacherOf, .ref h1_seatsOf, .ref h1_columnOf, .ref h1_columnsWith])), (h1_subjectOf, .inl (cyI, 16, .inl a1_subjectOf_)), (h1_columnOf, .inl (cyI, 16, .inl a1_columnOf_))] [(h0, .inr (2, [.ref h0_left, .ref h0_sitting, .ref h0_openColumns, .ref h0_wayFinder])), (h0_left, .inl (cyI, 16, .inl o0)), (h0_sitting, .inl (cyI, 16, .inl o1)), (h0_openColumns, .inl (cyI, 10, .inl o2)), (h0_wayFinder, .inr (4, [.ref h0_wayFinder_first, .ref h0_wayFinder_startsAt, .ref h0_wayFinder_tally])), (h0_wayFinder_first, .inl (cyI, 6, .inl wayFinder_first_)), (h1, .inr (0, [.int a1_columnCount_, .int a1_roomCount_, .int a1_size_, .ref h1_barsOf, .ref h1_subjectOf, .ref h1_teacherOf, .ref h1_seatsOf, .ref h1_columnOf, .ref h1_columnsWith])), (h1_subjectOf, .inl (cyI, 16, .inl a1_subjectOf_)), (h1_columnOf, .inl (cyI, 16, .inl a1_columnOf_))] := by
  refine uMv.of (cc := cX2_seatOne) (maxL := 6) (by decide) rfl (Nat.le_of_ble_eq_true rfl) (fun p e s m args below meth c A ls Q hx hb hml hown hts hA hP hK hD hE hS hl hret => ?_)
  have hown : s.vm.findClass RX2 = some m.cls := hown
  have hl : lv_has ls 6 [(0, .ref h0), (1, .ref h1), (2, .int v2), (3, .int v3)] := hl
  have hiX2 : ∀ w ∈ u_ws RX2 TX2 4, w ∈ wsX2_seatOne := fun _ h9 => List.mem_cons_of_mem _ (List.mem_append_left _ (List.mem_append_left _ (List.mem_append_right _ h9)))
  have hiX4 : ∀ w ∈ u_ws RX4 TX4 3, w ∈ wsX2_seatOne := fun _ h9 => List.mem_cons_of_mem _ (List.mem_append_left _ (List.mem_append_right _ h9))
  have L6 : ∀ (n6 : Nat), ∀ (v4 : Int32), ∀ (v5 : Int32), ∀ (left_ : Nat → Int32), ∀ (sitting_ : Nat → Int32), ∀ (openColumns_ : Nat → Int32), it5 (m_X2_seatOne_6 wayFinder_first_ a1_size_ a1_subjectOf_ a1_columnOf_ v2 v3) n6 v4 v5 left_ sitting_ openColumns_ = some (o0, o1, o2) → ∀ (H : Heap) (locs : List Loc) (ls : Array Slot), va_P (dC, dI) vwCl [(h0, .inr (2, [.ref h0_left, .ref h0_sitting, .ref h0_openColumns, .ref h0_wayFinder])), (h0_left, .inl (cyI, 16, .inl left_)), (h0_sitting, .inl (cyI, 16, .inl sitting_)), (h0_openColumns, .inl (cyI, 10, .inl openColumns_)), (h0_wayFinder, .inr (4, [.ref h0_wayFinder_first, .ref h0_wayFinder_startsAt, .ref h0_wayFinder_tally])), (h0_wayFinder_first, .inl (cyI, 6, .inl wayFinder_first_)), (h1, .inr (0, [.int a1_columnCount_, .int a1_roomCount_, .int a1_size_, .ref h1_barsOf, .ref h1_subjectOf, .ref h1_teacherOf, .ref h1_seatsOf, .ref h1_columnOf, .ref h1_columnsWith])), (h1_subjectOf, .inl (cyI, 16, .inl a1_subjectOf_)), (h1_columnOf, .inl (cyI, 16, .inl a1_columnOf_))] H → va_D A [(h0, .inr (2, [.ref h0_left, .ref h0_sitting, .ref h0_openColumns, .ref h0_wayFinder])), (h0_left, .inl (cyI, 16, .inl left_)), (h0_sitting, .inl (cyI, 16, .inl sitting_)), (h0_openColumns, .inl (cyI, 10, .inl openColumns_)), (h0_wayFinder, .inr (4, [.ref h0_wayFinder_first, .ref h0_wayFinder_startsAt, .ref h0_wayFinder_tally])), (h0_wayFinder_first, .inl (cyI, 6, .inl wayFinder_first_)), (h1, .inr (0, [.int a1_columnCount_, .int a1_roomCount_, .int a1_size_, .ref h1_barsOf, .ref h1_subjectOf, .ref h1_teacherOf, .ref h1_seatsOf, .ref h1_columnOf, .ref h1_columnsWith])), (h1_subjectOf, .inl (cyI, 16, .inl a1_subjectOf_)), (h1_columnOf, .inl (cyI, 16, .inl a1_columnOf_))] → va_S A s.heap H locs → lv_has ls 6 [(0, .ref h0), (1, .ref h1), (2, .int v2), (3, .int v3), (4, .int v4), (5, .int v5)] → W p l e rmX2_seatOne s m args below meth c H locs 0 0 Q (F0 m 6 ls []) := by
    intro n6
    induction n6 with
    | zero => intro v4 v5 left_ sitting_ openColumns_ h; exact absurd h (fun z => it5_z z)
    | succ n6 ih6 =>
      intro v4 v5 left_ sitting_ openColumns_ h H locs ls hP hD hS hl
      have h : m_X2_seatOne_6 wayFinder_first_ a1_size_ a1_subjectOf_ a1_columnOf_ v2 v3 (it5 (m_X2_seatOne_6 wayFinder_first_ a1_size_ a1_subjectOf_ a1_columnOf_ v2 v3) n6) v4 v5 left_ sitting_ openColumns_ = some (o0, o1, o2) := h
      unfold m_X2_seatOne_6 at h
      refine lv_iload hx hb dX2_seatOne_6 (lv_at hl 5 rfl) ?_
      refine lv_bipush (v := 10) hx hb dX2_seatOne_8 (by decide) ?_
      refine lv_icmp_ge (tgt := 70) hx hb dX2_seatOne_10 (by decide) (fun c_ => ?_) (fun c_ => ?_)
      · have h := (if_pos c_).symm.trans h
        have h : some (left_, sitting_, openColumns_) = some (o0, o1, o2) := h
        have z0 := Option.some.inj h
        obtain ⟨rfl, z1⟩ := Prod.mk.inj z0
        obtain ⟨rfl, z2⟩ := Prod.mk.inj z1
        obtain rfl := z2
        exact hret _ _ _ _ hP hS dX2_seatOne_70
      · have h := (if_neg c_).symm.trans h
        refine lv_iload hx hb dX2_seatOne_13 (lv_at hl 4 rfl) ?_
        refine lv_bipush (v := 6) hx hb dX2_seatOne_15 (by decide) ?_
        refine lv_icmp_ge (tgt := 70) hx hb dX2_seatOne_17 (by decide) (fun c_ => ?_) (fun c_ => ?_)
        · have h := (if_pos c_).symm.trans h
          have h : some (left_, sitting_, openColumns_) = some (o0, o1, o2) := h
          have z0 := Option.some.inj h
          obtain ⟨rfl, z1⟩ := Prod.mk.inj z0
          obtain ⟨rfl, z2⟩ := Prod.mk.inj z1
          obtain rfl := z2
          exact hret _ _ _ _ hP hS dX2_seatOne_70
        · have h := (if_neg c_).symm.trans h
          refine lv_iload_n hx hb dX2_seatOne_20 rfl (lv_at hl 3 rfl) ?_
          refine lv_iload hx hb dX2_seatOne_21 (lv_at hl 5 rfl) ?_
          obtain ⟨r_1, hq, h⟩ := bd1_some h
          refine uN_i (As := [.int v3, .int v5]) (rest := []) ⟨hx, hb, hml, hown, hts⟩ (c_X5_hasBit l dC dI cyC cyI cyJ v3 v5 r_1 hq) ⟨va_cnB 2 hts gX2_seatOne_X5_hasBit_n58 rfl rfl rfl (hE.2.1 ("OptionLattice$Seating", 58, ⟨"OptionLattice", "hasBit", "(II)Z"⟩) (List.mem_of_getElem? (i := 11) rfl)) (hts (.initialized RX5) (by decide +kernel)) (by decide +kernel) ⟨Nat.le_of_ble_eq_true rfl, Nat.le_of_ble_eq_true rfl⟩, (hts (.static yX5_hasBit) (by decide +kernel)), trivial⟩ hK hE hA hP hD hS [] rfl rfl rfl rfl hl.1 rfl (Nat.le_of_ble_eq_true rfl) ⟨Nat.zero_le _, Nat.zero_le _⟩ dX2_seatOne_23 (fun H locs hP hD hS => ?_)
          have hP : va_P (dC, dI) vwCl [(h0, .inr (2, [.ref h0_left, .ref h0_sitting, .ref h0_openColumns, .ref h0_wayFinder])), (h0_left, .inl (cyI, 16, .inl left_)), (h0_sitting, .inl (cyI, 16, .inl sitting_)), (h0_openColumns, .inl (cyI, 10, .inl openColumns_)), (h0_wayFinder, .inr (4, [.ref h0_wayFinder_first, .ref h0_wayFinder_startsAt, .ref h0_wayFinder_tally])), (h0_wayFinder_first, .inl (cyI, 6, .inl wayFinder_first_)), (h1, .inr (0, [.int a1_columnCount_, .int a1_roomCount_, .int a1_size_, .ref h1_barsOf, .ref h1_subjectOf, .ref h1_teacherOf, .ref h1_seatsOf, .ref h1_columnOf, .ref h1_columnsWith])), (h1_subjectOf, .inl (cyI, 16, .inl a1_subjectOf_)), (h1_columnOf, .inl (cyI, 16, .inl a1_columnOf_))] H := hP
          have hD : va_D A [(h0, .inr (2, [.ref h0_left, .ref h0_sitting, .ref h0_openColumns, .ref h0_wayFinder])), (h0_left, .inl (cyI, 16, .inl left_)), (h0_sitting, .inl (cyI, 16, .inl sitting_)), (h0_openColumns, .inl (cyI, 10, .inl openColumns_)), (h0_wayFinder, .inr (4, [.ref h0_wayFinder_first, .ref h0_wayFinder_startsAt, .ref h0_wayFinder_tally])), (h0_wayFinder_first, .inl (cyI, 6, .inl wayFinder_first_)), (h1, .inr (0, [.int a1_columnCount_, .int a1_roomCount_, .int a1_size_, .ref h1_barsOf, .ref h1_subjectOf, .ref h1_teacherOf, .ref h1_seatsOf, .ref h1_columnOf, .ref h1_columnsWith])), (h1_subjectOf, .inl (cyI, 16, .inl a1_subjectOf_)), (h1_columnOf, .inl (cyI, 16, .inl a1_columnOf_))] := hD
          refine lv_if_eq (tgt := 64) hx hb dX2_seatOne_26 (by decide) (fun c_ => ?_) (fun c_ => ?_)
          · have h := (if_pos c_).symm.trans h
            obtain ⟨v5_2, e_v5_2⟩ : ∃ z : Int32, z = (v5 + 1) := ⟨_, rfl⟩
            have h := lt_use e_v5_2 h
            refine lv_iinc (v := v5_2) (lv' := [(5, .int v5_2), (0, .ref h0), (1, .ref h1), (2, .int v2), (3, .int v3), (4, .int v4)]) hx hb dX2_seatOne_64 hl (k := 5) rfl (by rw [e_v5_2]; rfl) (by decide) rfl (fun ls hl => ?_)
            refine lv_goto (tgt := 6) hx hb dX2_seatOne_67 (by decide) ?_
            exact ih6 v4 v5_2 left_ sitting_ openColumns_ h _ _ _ hP hD hS (lv_sub hl [1, 2, 3, 4, 5, 0] rfl)
          · have h := (if_neg c_).symm.trans h
            refine lv_aload_n hx hb dX2_seatOne_29 rfl (lv_at hl 0 rfl) ?_
            refine lv_aload_n hx hb dX2_seatOne_30 rfl (lv_at hl 1 rfl) ?_
            refine lv_iload_n hx hb dX2_seatOne_31 rfl (lv_at hl 2 rfl) ?_
            refine lv_iload hx hb dX2_seatOne_32 (lv_at hl 5 rfl) ?_
            refine lv_aload_n hx hb dX2_seatOne_34 rfl (lv_at hl 0 rfl) ?_
            refine va_get (D := (dC, dI)) (ci := 2) (v := .ref h0_wayFinder) (C := RX2) (T := TX2) (N := 4) hx hb hts hiX2 hown hK hP 0 rfl rfl 3 (by decide) (hts (.fieldLink RX2 24 "OptionLattice$Seating" "wayFinder" "LOptionLattice$Ways;") (by decide +kernel)) (fun _ h9 => h9) rfl dX2_seatOne_35 ?_
            refine va_getN (host := "OptionLattice") (D := (dC, dI)) (ci := 4) (v := .ref h0_wayFinder_first) (C := RX4) (T := TX4) (N := 3) hx hb hts hiX4 hown hK hP 4 rfl rfl 0 (by decide) (va_Nw.use rfl (hE.1 ("OptionLattice$Seating", 62, "OptionLattice$Ways", "first", "[I") (List.mem_of_getElem? (i := 21) rfl))) (fun _ h9 => h9) rfl dX2_seatOne_38 ?_
            refine lv_iload hx hb dX2_seatOne_41 (lv_at hl 4 rfl) ?_
            obtain ⟨g_, h⟩ := gd_some h
            refine va_iald hx hb hK hP 5 1 rfl rfl (inb_in g_) dX2_seatOne_43 ?_
            obtain ⟨left_3, sitting_4, hq, h⟩ := bd2_some h
            refine uV_v (b := h0) (As := [.ref h1, .int v2, .int v5, .int (wayFinder_first_ v4.toNatClampNeg)]) (rest := []) ⟨hx, hb, hml, hown, hts⟩ (c_X2_takeSeat l dC dI cyC cyI cyJ h0 h0_left h0_sitting h0_openColumns h0_wayFinder h1 h1_barsOf h1_subjectOf h1_teacherOf h1_seatsOf h1_columnOf h1_columnsWith left_ sitting_ a1_columnCount_ a1_roomCount_ a1_size_ a1_subjectOf_ a1_columnOf_ v2 v5 (wayFinder_first_ v4.toNatClampNeg) left_3 sitting_4 hq) (cwV 4 hts gX2_seatOne_X2_takeSeat rfl rfl rfl (by decide +kernel) ⟨Nat.le_of_ble_eq_true rfl, Nat.le_of_ble_eq_true rfl⟩) hK hE hA hP hD hS [0, 1, 2, 6, 7, 8] rfl rfl rfl 2 0 rfl rfl rfl hl.1 rfl (Nat.le_of_ble_eq_true rfl) ⟨Nat.zero_le _, Nat.zero_le _⟩ dX2_seatOne_44 (fun H locs hP hD hS => ?_)
            have hP : va_P (dC, dI) vwCl [(h0, .inr (2, [.ref h0_left, .ref h0_sitting, .ref h0_openColumns, .ref h0_wayFinder])), (h0_left, .inl (cyI, 16, .inl left_3)), (h0_sitting, .inl (cyI, 16, .inl sitting_4)), (h0_openColumns, .inl (cyI, 10, .inl openColumns_)), (h0_wayFinder, .inr (4, [.ref h0_wayFinder_first, .ref h0_wayFinder_startsAt, .ref h0_wayFinder_tally])), (h0_wayFinder_first, .inl (cyI, 6, .inl wayFinder_first_)), (h1, .inr (0, [.int a1_columnCount_, .int a1_roomCount_, .int a1_size_, .ref h1_barsOf, .ref h1_subjectOf, .ref h1_teacherOf, .ref h1_seatsOf, .ref h1_columnOf, .ref h1_columnsWith])), (h1_subjectOf, .inl (cyI, 16, .inl a1_subjectOf_)), (h1_columnOf, .inl (cyI, 16, .inl a1_columnOf_))] H := hP
            have hD : va_D A [(h0, .inr (2, [.ref h0_left, .ref h0_sitting, .ref h0_openColumns, .ref h0_wayFinder])), (h0_left, .inl (cyI, 16, .inl left_3)), (h0_sitting, .inl (cyI, 16, .inl sitting_4)), (h0_openColumns, .inl (cyI, 10, .inl openColumns_)), (h0_wayFinder, .inr (4, [.ref h0_wayFinder_first, .ref h0_wayFinder_startsAt, .ref h0_wayFinder_tally])), (h0_wayFinder_first, .inl (cyI, 6, .inl wayFinder_first_)), (h1, .inr (0, [.int a1_columnCount_, .int a1_roomCount_, .int a1_size_, .ref h1_barsOf, .ref h1_subjectOf, .ref h1_teacherOf, .ref h1_seatsOf, .ref h1_columnOf, .ref h1_columnsWith])), (h1_subjectOf, .inl (cyI, 16, .inl a1_subjectOf_)), (h1_columnOf, .inl (cyI, 16, .inl a1_columnOf_))] := hD
            refine lv_aload_n hx hb dX2_seatOne_47 rfl (lv_at hl 0 rfl) ?_
            refine va_get (D := (dC, dI)) (ci := 2) (v := .ref h0_openColumns) (C := RX2) (T := TX2) (N := 4) hx hb hts hiX2 hown hK hP 0 rfl rfl 2 (by decide) (hts (.fieldLink RX2 18 "OptionLattice$Seating" "openColumns" "[I") (by decide +kernel)) (fun _ h9 => h9) rfl dX2_seatOne_48 ?_
            refine lv_iload hx hb dX2_seatOne_51 (lv_at hl 5 rfl) ?_
            refine lv_aload_n hx hb dX2_seatOne_53 rfl (lv_at hl 0 rfl) ?_
            refine lv_aload_n hx hb dX2_seatOne_54 rfl (lv_at hl 1 rfl) ?_
            refine lv_iload hx hb dX2_seatOne_55 (lv_at hl 5 rfl) ?_
            obtain ⟨r_5, hq, h⟩ := bd1_some h
            refine uV_i (b := h0) (As := [.ref h1, .int v5]) (rest := [.int v5, .ref h0_openColumns]) ⟨hx, hb, hml, hown, hts⟩ (c_X2_columnsLeft l dC dI cyC cyI cyJ h0 h0_left h0_sitting h0_openColumns h0_wayFinder h1 h1_barsOf h1_subjectOf h1_teacherOf h1_seatsOf h1_columnOf h1_columnsWith left_3 a1_columnCount_ a1_roomCount_ a1_size_ a1_subjectOf_ a1_columnOf_ v5 r_5 hq) (cwV 2 hts gX2_seatOne_X2_columnsLeft rfl rfl rfl (by decide +kernel) ⟨Nat.le_of_ble_eq_true rfl, Nat.le_of_ble_eq_true rfl⟩) hK hE hA hP hD hS [0, 1, 6, 7, 8] rfl rfl rfl 2 0 rfl rfl rfl hl.1 rfl (Nat.le_of_ble_eq_true rfl) ⟨Nat.zero_le _, Nat.zero_le _⟩ dX2_seatOne_57 (fun H locs hP hD hS => ?_)
            have hP : va_P (dC, dI) vwCl [(h0, .inr (2, [.ref h0_left, .ref h0_sitting, .ref h0_openColumns, .ref h0_wayFinder])), (h0_left, .inl (cyI, 16, .inl left_3)), (h0_sitting, .inl (cyI, 16, .inl sitting_4)), (h0_openColumns, .inl (cyI, 10, .inl openColumns_)), (h0_wayFinder, .inr (4, [.ref h0_wayFinder_first, .ref h0_wayFinder_startsAt, .ref h0_wayFinder_tally])), (h0_wayFinder_first, .inl (cyI, 6, .inl wayFinder_first_)), (h1, .inr (0, [.int a1_columnCount_, .int a1_roomCount_, .int a1_size_, .ref h1_barsOf, .ref h1_subjectOf, .ref h1_teacherOf, .ref h1_seatsOf, .ref h1_columnOf, .ref h1_columnsWith])), (h1_subjectOf, .inl (cyI, 16, .inl a1_subjectOf_)), (h1_columnOf, .inl (cyI, 16, .inl a1_columnOf_))] H := hP
            have hD : va_D A [(h0, .inr (2, [.ref h0_left, .ref h0_sitting, .ref h0_openColumns, .ref h0_wayFinder])), (h0_left, .inl (cyI, 16, .inl left_3)), (h0_sitting, .inl (cyI, 16, .inl sitting_4)), (h0_openColumns, .inl (cyI, 10, .inl openColumns_)), (h0_wayFinder, .inr (4, [.ref h0_wayFinder_first, .ref h0_wayFinder_startsAt, .ref h0_wayFinder_tally])), (h0_wayFinder_first, .inl (cyI, 6, .inl wayFinder_first_)), (h1, .inr (0, [.int a1_columnCount_, .int a1_roomCount_, .int a1_size_, .ref h1_barsOf, .ref h1_subjectOf, .ref h1_teacherOf, .ref h1_seatsOf, .ref h1_columnOf, .ref h1_columnsWith])), (h1_subjectOf, .inl (cyI, 16, .inl a1_subjectOf_)), (h1_columnOf, .inl (cyI, 16, .inl a1_columnOf_))] := hD
            obtain ⟨g_, h⟩ := gd_some h
            refine va_iast hx hb hK hP hD hS 3 1 rfl rfl (inb_in g_) dX2_seatOne_60 (fun H locs hP hD hS => ?_)
            have hP : va_P (dC, dI) vwCl [(h0, .inr (2, [.ref h0_left, .ref h0_sitting, .ref h0_openColumns, .ref h0_wayFinder])), (h0_left, .inl (cyI, 16, .inl left_3)), (h0_sitting, .inl (cyI, 16, .inl sitting_4)), (h0_openColumns, .inl (cyI, 10, .inl (upd openColumns_ v5.toNatClampNeg r_5))), (h0_wayFinder, .inr (4, [.ref h0_wayFinder_first, .ref h0_wayFinder_startsAt, .ref h0_wayFinder_tally])), (h0_wayFinder_first, .inl (cyI, 6, .inl wayFinder_first_)), (h1, .inr (0, [.int a1_columnCount_, .int a1_roomCount_, .int a1_size_, .ref h1_barsOf, .ref h1_subjectOf, .ref h1_teacherOf, .ref h1_seatsOf, .ref h1_columnOf, .ref h1_columnsWith])), (h1_subjectOf, .inl (cyI, 16, .inl a1_subjectOf_)), (h1_columnOf, .inl (cyI, 16, .inl a1_columnOf_))] H := hP
            have hD : va_D A [(h0, .inr (2, [.ref h0_left, .ref h0_sitting, .ref h0_openColumns, .ref h0_wayFinder])), (h0_left, .inl (cyI, 16, .inl left_3)), (h0_sitting, .inl (cyI, 16, .inl sitting_4)), (h0_openColumns, .inl (cyI, 10, .inl (upd openColumns_ v5.toNatClampNeg r_5))), (h0_wayFinder, .inr (4, [.ref h0_wayFinder_first, .ref h0_wayFinder_startsAt, .ref h0_wayFinder_tally])), (h0_wayFinder_first, .inl (cyI, 6, .inl wayFinder_first_)), (h1, .inr (0, [.int a1_columnCount_, .int a1_roomCount_, .int a1_size_, .ref h1_barsOf, .ref h1_subjectOf, .ref h1_teacherOf, .ref h1_seatsOf, .ref h1_columnOf, .ref h1_columnsWith])), (h1_subjectOf, .inl (cyI, 16, .inl a1_subjectOf_)), (h1_columnOf, .inl (cyI, 16, .inl a1_columnOf_))] := hD
            obtain ⟨v4_6, e_v4_6⟩ : ∃ z : Int32, z = (v4 + 1) := ⟨_, rfl⟩
            have h := lt_use e_v4_6 h
            refine lv_iinc (v := v4_6) (lv' := [(4, .int v4_6), (0, .ref h0), (1, .ref h1), (2, .int v2), (3, .int v3), (5, .int v5)]) hx hb dX2_seatOne_61 hl (k := 4) rfl (by rw [e_v4_6]; rfl) (by decide) rfl (fun ls hl => ?_)
            obtain ⟨v5_7, e_v5_7⟩ : ∃ z : Int32, z = (v5 + 1) := ⟨_, rfl⟩
            have h := lt_use e_v5_7 h
            refine lv_iinc (v := v5_7) (lv' := [(5, .int v5_7), (4, .int v4_6), (0, .ref h0), (1, .ref h1), (2, .int v2), (3, .int v3)]) hx hb dX2_seatOne_64 hl (k := 5) rfl (by rw [e_v5_7]; rfl) (by decide) rfl (fun ls hl => ?_)
            refine lv_goto (tgt := 6) hx hb dX2_seatOne_67 (by decide) ?_
            exact ih6 v4_6 v5_7 left_3 sitting_4 (upd openColumns_ v5.toNatClampNeg r_5) h _ _ _ hP hD hS (lv_sub hl [2, 3, 4, 5, 1, 0] rfl)
  unfold m_X2_seatOne at h
  refine lv_iconst (v := 0) hx hb dX2_seatOne_0 (by decide) ?_
  refine lv_istore (lv' := [(4, .int 0), (0, .ref h0), (1, .ref h1), (2, .int v2), (3, .int v3)]) hx hb dX2_seatOne_1 hl (by decide) rfl (fun ls hl => ?_)
  refine lv_iconst (v := 0) hx hb dX2_seatOne_3 (by decide) ?_
  refine lv_istore (lv' := [(5, .int 0), (4, .int 0), (0, .ref h0), (1, .ref h1), (2, .int v2), (3, .int v3)]) hx hb dX2_seatOne_4 hl (by decide) rfl (fun ls hl => ?_)
  exact L6  1100 0 0 left_ sitting_ openColumns_ h _ _ _ hP hD hS (lv_sub hl [2, 3, 4, 5, 1, 0] rfl)
