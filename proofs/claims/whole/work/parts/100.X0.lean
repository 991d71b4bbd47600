def m_X0_has (size_ : Int32) (v1 : Int32) : Option (Int32) :=
  (if v1 < 0 then some 0 else (if size_ ≤ v1 then some 0 else some 1))
abbrev rmX0_has : Room := { frames := 0, cells := 0, slots := 0, locals := 0 }
set_option maxHeartbeats 4000000 in
set_option maxRecDepth 100000 in
theorem c_X0_has (l : Launch) (dC : Nat → ClassId) (dI : Nat → Nat → Nat) (cyC cyI cyJ : ClassId) (h0 h0_barsOf h0_subjectOf h0_teacherOf h0_seatsOf h0_columnOf h0_columnsWith : Nat) (columnCount_ : Int32) (roomCount_ : Int32) (size_ : Int32) (v1 : Int32) (rr : Int32) (h : m_X0_has size_ v1 = some rr) : uMi l yX0_has wsX0_has rmX0_has (dC, dI) [(cyC, .char), (cyI, .int), (cyJ, .long)] [.ref h0, .int v1] [(h0, .inr (0, [.int columnCount_, .int roomCount_, .int size_, .ref h0_barsOf, .ref h0_subjectOf, .ref h0_teacherOf, .ref h0_seatsOf, .ref h0_columnOf, .ref h0_columnsWith]))] [(h0, .inr (0, [.int columnCount_, .int roomCount_, .int size_, .ref h0_barsOf, .ref h0_subjectOf, .ref h0_teacherOf, .ref h0_seatsOf, .ref h0_columnOf, .ref h0_columnsWith]))] rr := by
  refine uMi.of (cc := cX0_has) (maxL := 2) (by decide) rfl (Nat.le_of_ble_eq_true rfl) (fun p e s m args below meth c A ls Q hx hb hml hown hts hA hP hK hD hE hS hl hret => ?_)
  have hown : s.vm.findClass RX0 = some m.cls := hown
  have hl : lv_has ls 2 [(0, .ref h0), (1, .int v1)] := hl
  have hiX0 : ∀ w ∈ u_ws RX0 TX0 9, w ∈ wsX0_has := fun _ h9 => List.mem_cons_of_mem _ (List.mem_append_right _ h9)
  unfold m_X0_has at h
  refine lv_iload_n hx hb dX0_has_0 rfl (lv_at hl 1 rfl) ?_
  refine lv_if_lt (tgt := 16) hx hb dX0_has_1 (by decide) (fun c_ => ?_) (fun c_ => ?_)
  · have h := (if_pos c_).symm.trans h
    refine lv_iconst (v := 0) hx hb dX0_has_16 (by decide) ?_
    have h : some 0 = some rr := h
    have z0 := Option.some.inj h
    obtain rfl := z0
    exact hret _ _ _ _ hP hS rfl dX0_has_17
  · have h := (if_neg c_).symm.trans h
    refine lv_iload_n hx hb dX0_has_4 rfl (lv_at hl 1 rfl) ?_
    refine lv_aload_n hx hb dX0_has_5 rfl (lv_at hl 0 rfl) ?_
    refine va_get (D := (dC, dI)) (ci := 0) (v := .int size_) (C := RX0) (T := TX0) (N := 9) hx hb hts hiX0 hown hK hP 0 rfl rfl 2 (by decide) (hts (.fieldLink RX0 18 "OptionLattice$Plan" "size" "I") (by decide +kernel)) (fun _ h9 => h9) rfl dX0_has_6 ?_
    refine lv_icmp_ge (tgt := 16) hx hb dX0_has_9 (by decide) (fun c_ => ?_) (fun c_ => ?_)
    · have h := (if_pos c_).symm.trans h
      refine lv_iconst (v := 0) hx hb dX0_has_16 (by decide) ?_
      have h : some 0 = some rr := h
      have z0 := Option.some.inj h
      obtain rfl := z0
      exact hret _ _ _ _ hP hS rfl dX0_has_17
    · have h := (if_neg c_).symm.trans h
      refine lv_iconst (v := 1) hx hb dX0_has_12 (by decide) ?_
      refine lv_goto (tgt := 17) hx hb dX0_has_13 (by decide) ?_
      have h : some 1 = some rr := h
      have z0 := Option.some.inj h
      obtain rfl := z0
      exact hret _ _ _ _ hP hS rfl dX0_has_17

def m_X0_hasColumn (columnCount_ : Int32) (v1 : Int32) : Option (Int32) :=
  (if v1 < 0 then some 0 else (if columnCount_ ≤ v1 then some 0 else some 1))
abbrev rmX0_hasColumn : Room := { frames := 0, cells := 0, slots := 0, locals := 0 }
set_option maxHeartbeats 4000000 in
set_option maxRecDepth 100000 in
theorem c_X0_hasColumn (l : Launch) (dC : Nat → ClassId) (dI : Nat → Nat → Nat) (cyC cyI cyJ : ClassId) (h0 h0_barsOf h0_subjectOf h0_teacherOf h0_seatsOf h0_columnOf h0_columnsWith : Nat) (columnCount_ : Int32) (roomCount_ : Int32) (size_ : Int32) (v1 : Int32) (rr : Int32) (h : m_X0_hasColumn columnCount_ v1 = some rr) : uMi l yX0_hasColumn wsX0_hasColumn rmX0_hasColumn (dC, dI) [(cyC, .char), (cyI, .int), (cyJ, .long)] [.ref h0, .int v1] [(h0, .inr (0, [.int columnCount_, .int roomCount_, .int size_, .ref h0_barsOf, .ref h0_subjectOf, .ref h0_teacherOf, .ref h0_seatsOf, .ref h0_columnOf, .ref h0_columnsWith]))] [(h0, .inr (0, [.int columnCount_, .int roomCount_, .int size_, .ref h0_barsOf, .ref h0_subjectOf, .ref h0_teacherOf, .ref h0_seatsOf, .ref h0_columnOf, .ref h0_columnsWith]))] rr := by
  refine uMi.of (cc := cX0_hasColumn) (maxL := 2) (by decide) rfl (Nat.le_of_ble_eq_true rfl) (fun p e s m args below meth c A ls Q hx hb hml hown hts hA hP hK hD hE hS hl hret => ?_)
  have hown : s.vm.findClass RX0 = some m.cls := hown
  have hl : lv_has ls 2 [(0, .ref h0), (1, .int v1)] := hl
  have hiX0 : ∀ w ∈ u_ws RX0 TX0 9, w ∈ wsX0_hasColumn := fun _ h9 => List.mem_cons_of_mem _ (List.mem_append_right _ h9)
  unfold m_X0_hasColumn at h
  refine lv_iload_n hx hb dX0_hasColumn_0 rfl (lv_at hl 1 rfl) ?_
  refine lv_if_lt (tgt := 16) hx hb dX0_hasColumn_1 (by decide) (fun c_ => ?_) (fun c_ => ?_)
  · have h := (if_pos c_).symm.trans h
    refine lv_iconst (v := 0) hx hb dX0_hasColumn_16 (by decide) ?_
    have h : some 0 = some rr := h
    have z0 := Option.some.inj h
    obtain rfl := z0
    exact hret _ _ _ _ hP hS rfl dX0_hasColumn_17
  · have h := (if_neg c_).symm.trans h
    refine lv_iload_n hx hb dX0_hasColumn_4 rfl (lv_at hl 1 rfl) ?_
    refine lv_aload_n hx hb dX0_hasColumn_5 rfl (lv_at hl 0 rfl) ?_
    refine va_get (D := (dC, dI)) (ci := 0) (v := .int columnCount_) (C := RX0) (T := TX0) (N := 9) hx hb hts hiX0 hown hK hP 0 rfl rfl 0 (by decide) (hts (.fieldLink RX0 9 "OptionLattice$Plan" "columnCount" "I") (by decide +kernel)) (fun _ h9 => h9) rfl dX0_hasColumn_6 ?_
    refine lv_icmp_ge (tgt := 16) hx hb dX0_hasColumn_9 (by decide) (fun c_ => ?_) (fun c_ => ?_)
    · have h := (if_pos c_).symm.trans h
      refine lv_iconst (v := 0) hx hb dX0_hasColumn_16 (by decide) ?_
      have h : some 0 = some rr := h
      have z0 := Option.some.inj h
      obtain rfl := z0
      exact hret _ _ _ _ hP hS rfl dX0_hasColumn_17
    · have h := (if_neg c_).symm.trans h
      refine lv_iconst (v := 1) hx hb dX0_hasColumn_12 (by decide) ?_
      refine lv_goto (tgt := 17) hx hb dX0_hasColumn_13 (by decide) ?_
      have h : some 1 = some rr := h
      have z0 := Option.some.inj h
      obtain rfl := z0
      exact hret _ _ _ _ hP hS rfl dX0_hasColumn_17

def m_X0_become (columnCount_ : Int32) (roomCount_ : Int32) (size_ : Int32) (barsOf_ : Nat → Int32) (subjectOf_ : Nat → Int32) (teacherOf_ : Nat → Int32) (seatsOf_ : Nat → Int32) (columnOf_ : Nat → Int32) (columnsWith_ : Nat → Int32) (a1_columnCount_ : Int32) (a1_roomCount_ : Int32) (a1_size_ : Int32) (a1_barsOf_ : Nat → Int32) (a1_subjectOf_ : Nat → Int32) (a1_teacherOf_ : Nat → Int32) (a1_seatsOf_ : Nat → Int32) (a1_columnOf_ : Nat → Int32) (a1_columnsWith_ : Nat → Int32) : Option (Int32 × Int32 × Int32 × (Nat → Int32) × (Nat → Int32) × (Nat → Int32) × (Nat → Int32) × (Nat → Int32) × (Nat → Int32)) :=
  some (a1_columnCount_, a1_roomCount_, a1_size_, (va_cpy a1_barsOf_ barsOf_ (0 : Int32).toNatClampNeg (0 : Int32).toNatClampNeg (10 : Int32).toNatClampNeg), (va_cpy a1_subjectOf_ subjectOf_ (0 : Int32).toNatClampNeg (0 : Int32).toNatClampNeg (16 : Int32).toNatClampNeg), (va_cpy a1_teacherOf_ teacherOf_ (0 : Int32).toNatClampNeg (0 : Int32).toNatClampNeg (16 : Int32).toNatClampNeg), (va_cpy a1_seatsOf_ seatsOf_ (0 : Int32).toNatClampNeg (0 : Int32).toNatClampNeg (16 : Int32).toNatClampNeg), (va_cpy a1_columnOf_ columnOf_ (0 : Int32).toNatClampNeg (0 : Int32).toNatClampNeg (16 : Int32).toNatClampNeg), (va_cpy a1_columnsWith_ columnsWith_ (0 : Int32).toNatClampNeg (0 : Int32).toNatClampNeg (10 : Int32).toNatClampNeg))
abbrev rmX0_become : Room := { frames := 1, cells := 0, slots := 0, locals := 60 }
set_option maxHeartbeats 4000000 in
set_option maxRecDepth 100000 in
theorem c_X0_become (l : Launch) (dC : Nat → ClassId) (dI : Nat → Nat → Nat) (cyC cyI cyJ : ClassId) (h0 h0_barsOf h0_subjectOf h0_teacherOf h0_seatsOf h0_columnOf h0_columnsWith h1 h1_barsOf h1_subjectOf h1_teacherOf h1_seatsOf h1_columnOf h1_columnsWith : Nat) (columnCount_ : Int32) (roomCount_ : Int32) (size_ : Int32) (barsOf_ : Nat → Int32) (subjectOf_ : Nat → Int32) (teacherOf_ : Nat → Int32) (seatsOf_ : Nat → Int32) (columnOf_ : Nat → Int32) (columnsWith_ : Nat → Int32) (a1_columnCount_ : Int32) (a1_roomCount_ : Int32) (a1_size_ : Int32) (a1_barsOf_ : Nat → Int32) (a1_subjectOf_ : Nat → Int32) (a1_teacherOf_ : Nat → Int32) (a1_seatsOf_ : Nat → Int32) (a1_columnOf_ : Nat → Int32) (a1_columnsWith_ : Nat → Int32) (o0 : Int32) (o1 : Int32) (o2 : Int32) (o3 : Nat → Int32) (o4 : Nat → Int32) (o5 : Nat → Int32) (o6 : Nat → Int32) (o7 : Nat → Int32) (o8 : Nat → Int32) (h : m_X0_become columnCount_ roomCount_ size_ barsOf_ subjectOf_ teacherOf_ seatsOf_ columnOf_ columnsWith_ a1_columnCount_ a1_roomCount_ a1_size_ a1_barsOf_ a1_subjectOf_ a1_teacherOf_ a1_seatsOf_ a1_columnOf_ a1_columnsWith_ = some (o0, o1, o2, o3, o4, o5, o6, o7, o8)) : uMv l yX0_become wsX0_become rmX0_become (dC, dI) [(cyC, .char), (cyI, .int), (cyJ, .long)] [.ref h0, .ref h1] [(h0, .inr (0, [.int columnCount_, .int roomCount_, .int size_, .ref h0_barsOf, .ref h0_subjectOf, .ref h0_teacherOf, .ref h0_seatsOf, .ref h0_columnOf, .ref h0_columnsWith])), (h0_barsOf, .inl (cyI, 10, .inl barsOf_)), (h0_subjectOf, .inl (cyI, 16, .inl subjectOf_)), (h0_teacherOf, .inl (cyI, 16, .inl teacherOf_)), (h0_seatsOf, .inl (cyI, 16, .inl seatsOf_)), (h0_columnOf, .inl (cyI, 16, .inl columnOf_)), (h0_columnsWith, .inl (cyI, 10, .inl columnsWith_)), (h1, .inr (0, [.int a1_columnCount_, .int a1_roomCount_, .int a1_size_, .ref h1_barsOf, .ref h1_subjectOf, .ref h1_teacherOf, .ref h1_seatsOf, .ref h1_columnOf, .ref h1_columnsWith])), (h1_barsOf, .inl (cyI, 10, .inl a1_barsOf_)), (h1_subjectOf, .inl (cyI, 16, .inl a1_subjectOf_)), (h1_teacherOf, .inl (cyI, 16, .inl a1_teacherOf_)), (h1_seatsOf, .inl (cyI, 16, .inl a1_seatsOf_)), (h1_columnOf, .inl (cyI, 16, .inl a1_columnOf_)), (h1_columnsWith, .inl (cyI, 10, .inl a1_columnsWith_))] [(h0, .inr (0, [.int o0, .int o1, .int o2, .ref h0_barsOf, .ref h0_subjectOf, .ref h0_teacherOf, .ref h0_seatsOf, .ref h0_columnOf, .ref h0_columnsWith])), (h0_barsOf, .inl (cyI, 10, .inl o3)), (h0_subjectOf, .inl (cyI, 16, .inl o4)), (h0_teacherOf, .inl (cyI, 16, .inl o5)), (h0_seatsOf, .inl (cyI, 16, .inl o6)), (h0_columnOf, .inl (cyI, 16, .inl o7)), (h0_columnsWith, .inl (cyI, 10, .inl o8)), (h1, .inr (0, [.int a1_columnCount_, .int a1_roomCount_, .int a1_size_, .ref h1_barsOf, .ref h1_subjectOf, .ref h1_teacherOf, .ref h1_seatsOf, .ref h1_columnOf, .ref h1_columnsWith])), (h1_barsOf, .inl (cyI, 10, .inl a1_barsOf_)), (h1_subjectOf, .inl (cyI, 16, .inl a1_subjectOf_)), (h1_teacherOf, .inl (cyI, 16, .inl a1_teacherOf_)), (h1_seatsOf, .inl (cyI, 16, .inl a1_seatsOf_)), (h1_columnOf, .inl (cyI, 16, .inl a1_columnOf_)), (h1_columnsWith, .inl (cyI, 10, .inl a1_columnsWith_))] := by
  refine uMv.of (cc := cX0_become) (maxL := 2) (by decide) rfl (Nat.le_of_ble_eq_true rfl) (fun p e s m args below meth c A ls Q hx hb hml hown hts hA hP hK hD hE hS hl hret => ?_)
  have hown : s.vm.findClass RX0 = some m.cls := hown
  have hl : lv_has ls 2 [(0, .ref h0), (1, .ref h1)] := hl
  have hiX0 : ∀ w ∈ u_ws RX0 TX0 9, w ∈ wsX0_become := fun _ h9 => List.mem_cons_of_mem _ (List.mem_append_right _ h9)
  unfold m_X0_become at h
  refine lv_aload_n hx hb dX0_become_0 rfl (lv_at hl 0 rfl) ?_
  refine lv_aload_n hx hb dX0_become_1 rfl (lv_at hl 1 rfl) ?_
  refine va_get (D := (dC, dI)) (ci := 0) (v := .int a1_columnCount_) (C := RX0) (T := TX0) (N := 9) hx hb hts hiX0 hown hK hP 7 rfl rfl 0 (by decide) (hts (.fieldLink RX0 9 "OptionLattice$Plan" "columnCount" "I") (by decide +kernel)) (fun _ h9 => h9) rfl dX0_become_2 ?_
  refine va_put (D := (dC, dI)) (ci := 0) (v := .int a1_columnCount_) (ty := .int) (C := RX0) (T := TX0) (N := 9) hx hb hts hiX0 tyX0 tyX0_ok nmX0 hown hK hP hD hS 0 rfl rfl 0 (by decide) (hts (.fieldLink RX0 9 "OptionLattice$Plan" "columnCount" "I") (by decide +kernel)) (fun _ h9 => h9) rfl (by decide +kernel) rfl rfl (Nat.le_of_ble_eq_true rfl) dX0_become_5 (fun H locs hP hD hS => ?_)
  have hP : va_P (dC, dI) vwCl [(h0, .inr (0, [.int a1_columnCount_, .int roomCount_, .int size_, .ref h0_barsOf, .ref h0_subjectOf, .ref h0_teacherOf, .ref h0_seatsOf, .ref h0_columnOf, .ref h0_columnsWith])), (h0_barsOf, .inl (cyI, 10, .inl barsOf_)), (h0_subjectOf, .inl (cyI, 16, .inl subjectOf_)), (h0_teacherOf, .inl (cyI, 16, .inl teacherOf_)), (h0_seatsOf, .inl (cyI, 16, .inl seatsOf_)), (h0_columnOf, .inl (cyI, 16, .inl columnOf_)), (h0_columnsWith, .inl (cyI, 10, .inl columnsWith_)), (h1, .inr (0, [.int a1_columnCount_, .int a1_roomCount_, .int a1_size_, .ref h1_barsOf, .ref h1_subjectOf, .ref h1_teacherOf, .ref h1_seatsOf, .ref h1_columnOf, .ref h1_columnsWith])), (h1_barsOf, .inl (cyI, 10, .inl a1_barsOf_)), (h1_subjectOf, .inl (cyI, 16, .inl a1_subjectOf_)), (h1_teacherOf, .inl (cyI, 16, .inl a1_teacherOf_)), (h1_seatsOf, .inl (cyI, 16, .inl a1_seatsOf_)), (h1_columnOf, .inl (cyI, 16, .inl a1_columnOf_)), (h1_columnsWith, .inl (cyI, 10, .inl a1_columnsWith_))] H := hP
  have hD : va_D A [(h0, .inr (0, [.int a1_columnCount_, .int roomCount_, .int size_, .ref h0_barsOf, .ref h0_subjectOf, .ref h0_teacherOf, .ref h0_seatsOf, .ref h0_columnOf, .ref h0_columnsWith])), (h0_barsOf, .inl (cyI, 10, .inl barsOf_)), (h0_subjectOf, .inl (cyI, 16, .inl subjectOf_)), (h0_teacherOf, .inl (cyI, 16, .inl teacherOf_)), (h0_seatsOf, .inl (cyI, 16, .inl seatsOf_)), (h0_columnOf, .inl (cyI, 16, .inl columnOf_)), (h0_columnsWith, .inl (cyI, 10, .inl columnsWith_)), (h1, .inr (0, [.int a1_columnCount_, .int a1_roomCount_, .int a1_size_, .ref h1_barsOf, .ref h1_subjectOf, .ref h1_teacherOf, .ref h1_seatsOf, .ref h1_columnOf, .ref h1_columnsWith])), (h1_barsOf, .inl (cyI, 10, .inl a1_barsOf_)), (h1_subjectOf, .inl (cyI, 16, .inl a1_subjectOf_)), (h1_teacherOf, .inl (cyI, 16, .inl a1_teacherOf_)), (h1_seatsOf, .inl (cyI, 16, .inl a1_seatsOf_)), (h1_columnOf, .inl (cyI, 16, .inl a1_columnOf_)), (h1_columnsWith, .inl (cyI, 10, .inl a1_columnsWith_))] := hD
  refine lv_aload_n hx hb dX0_become_8 rfl (lv_at hl 0 rfl) ?_
  refine lv_aload_n hx hb dX0_become_9 rfl (lv_at hl 1 rfl) ?_
  refine va_get (D := (dC, dI)) (ci := 0) (v := .int a1_roomCount_) (C := RX0) (T := TX0) (N := 9) hx hb hts hiX0 hown hK hP 7 rfl rfl 1 (by decide) (hts (.fieldLink RX0 15 "OptionLattice$Plan" "roomCount" "I") (by decide +kernel)) (fun _ h9 => h9) rfl dX0_become_10 ?_
  refine va_put (D := (dC, dI)) (ci := 0) (v := .int a1_roomCount_) (ty := .int) (C := RX0) (T := TX0) (N := 9) hx hb hts hiX0 tyX0 tyX0_ok nmX0 hown hK hP hD hS 0 rfl rfl 1 (by decide) (hts (.fieldLink RX0 15 "OptionLattice$Plan" "roomCount" "I") (by decide +kernel)) (fun _ h9 => h9) rfl (by decide +kernel) rfl rfl (Nat.le_of_ble_eq_true rfl) dX0_become_13 (fun H locs hP hD hS => ?_)
  have hP : va_P (dC, dI) vwCl [(h0, .inr (0, [.int a1_columnCount_, .int a1_roomCount_, .int size_, .ref h0_barsOf, .ref h0_subjectOf, .ref h0_teacherOf, .ref h0_seatsOf, .ref h0_columnOf, .ref h0_columnsWith])), (h0_barsOf, .inl (cyI, 10, .inl barsOf_)), (h0_subjectOf, .inl (cyI, 16, .inl subjectOf_)), (h0_teacherOf, .inl (cyI, 16, .inl teacherOf_)), (h0_seatsOf, .inl (cyI, 16, .inl seatsOf_)), (h0_columnOf, .inl (cyI, 16, .inl columnOf_)), (h0_columnsWith, .inl (cyI, 10, .inl columnsWith_)), (h1, .inr (0, [.int a1_columnCount_, .int a1_roomCount_, .int a1_size_, .ref h1_barsOf, .ref h1_subjectOf, .ref h1_teacherOf, .ref h1_seatsOf, .ref h1_columnOf, .ref h1_columnsWith])), (h1_barsOf, .inl (cyI, 10, .inl a1_barsOf_)), (h1_subjectOf, .inl (cyI, 16, .inl a1_subjectOf_)), (h1_teacherOf, .inl (cyI, 16, .inl a1_teacherOf_)), (h1_seatsOf, .inl (cyI, 16, .inl a1_seatsOf_)), (h1_columnOf, .inl (cyI, 16, .inl a1_columnOf_)), (h1_columnsWith, .inl (cyI, 10, .inl a1_columnsWith_))] H := hP
  have hD : va_D A [(h0, .inr (0, [.int a1_columnCount_, .int a1_roomCount_, .int size_, .ref h0_barsOf, .ref h0_subjectOf, .ref h0_teacherOf, .ref h0_seatsOf, .ref h0_columnOf, .ref h0_columnsWith])), (h0_barsOf, .inl (cyI, 10, .inl barsOf_)), (h0_subjectOf, .inl (cyI, 16, .inl subjectOf_)), (h0_teacherOf, .inl (cyI, 16, .inl teacherOf_)), (h0_seatsOf, .inl (cyI, 16, .inl seatsOf_)), (h0_columnOf, .inl (cyI, 16, .inl columnOf_)), (h0_columnsWith, .inl (cyI, 10, .inl columnsWith_)), (h1, .inr (0, [.int a1_columnCount_, .int a1_roomCount_, .int a1_size_, .ref h1_barsOf, .ref h1_subjectOf, .ref h1_teacherOf, .ref h1_seatsOf, .ref h1_columnOf, .ref h1_columnsWith])), (h1_barsOf, .inl (cyI, 10, .inl a1_barsOf_)), (h1_subjectOf, .inl (cyI, 16, .inl a1_subjectOf_)), (h1_teacherOf, .inl (cyI, 16, .inl a1_teacherOf_)), (h1_seatsOf, .inl (cyI, 16, .inl a1_seatsOf_)), (h1_columnOf, .inl (cyI, 16, .inl a1_columnOf_)), (h1_columnsWith, .inl (cyI, 10, .inl a1_columnsWith_))] := hD
  refine lv_aload_n hx hb dX0_become_16 rfl (lv_at hl 0 rfl) ?_
  refine lv_aload_n hx hb dX0_become_17 rfl (lv_at hl 1 rfl) ?_
  refine va_get (D := (dC, dI)) (ci := 0) (v := .int a1_size_) (C := RX0) (T := TX0) (N := 9) hx hb hts hiX0 hown hK hP 7 rfl rfl 2 (by decide) (hts (.fieldLink RX0 18 "OptionLattice$Plan" "size" "I") (by decide +kernel)) (fun _ h9 => h9) rfl dX0_become_18 ?_
  refine va_put (D := (dC, dI)) (ci := 0) (v := .int a1_size_) (ty := .int) (C := RX0) (T := TX0) (N := 9) hx hb hts hiX0 tyX0 tyX0_ok nmX0 hown hK hP hD hS 0 rfl rfl 2 (by decide) (hts (.fieldLink RX0 18 "OptionLattice$Plan" "size" "I") (by decide +kernel)) (fun _ h9 => h9) rfl (by decide +kernel) rfl rfl (Nat.le_of_ble_eq_true rfl) dX0_become_21 (fun H locs hP hD hS => ?_)
  have hP : va_P (dC, dI) vwCl [(h0, .inr (0, [.int a1_columnCount_, .int a1_roomCount_, .int a1_size_, .ref h0_barsOf, .ref h0_subjectOf, .ref h0_teacherOf, .ref h0_seatsOf, .ref h0_columnOf, .ref h0_columnsWith])), (h0_barsOf, .inl (cyI, 10, .inl barsOf_)), (h0_subjectOf, .inl (cyI, 16, .inl subjectOf_)), (h0_teacherOf, .inl (cyI, 16, .inl teacherOf_)), (h0_seatsOf, .inl (cyI, 16, .inl seatsOf_)), (h0_columnOf, .inl (cyI, 16, .inl columnOf_)), (h0_columnsWith, .inl (cyI, 10, .inl columnsWith_)), (h1, .inr (0, [.int a1_columnCount_, .int a1_roomCount_, .int a1_size_, .ref h1_barsOf, .ref h1_subjectOf, .ref h1_teacherOf, .ref h1_seatsOf, .ref h1_columnOf, .ref h1_columnsWith])), (h1_barsOf, .inl (cyI, 10, .inl a1_barsOf_)), (h1_subjectOf, .inl (cyI, 16, .inl a1_subjectOf_)), (h1_teacherOf, .inl (cyI, 16, .inl a1_teacherOf_)), (h1_seatsOf, .inl (cyI, 16, .inl a1_seatsOf_)), (h1_columnOf, .inl (cyI, 16, .inl a1_columnOf_)), (h1_columnsWith, .inl (cyI, 10, .inl a1_columnsWith_))] H := hP
  have hD : va_D A [(h0, .inr (0, [.int a1_columnCount_, .int a1_roomCount_, .int a1_size_, .ref h0_barsOf, .ref h0_subjectOf, .ref h0_teacherOf, .ref h0_seatsOf, .ref h0_columnOf, .ref h0_columnsWith])), (h0_barsOf, .inl (cyI, 10, .inl barsOf_)), (h0_subjectOf, .inl (cyI, 16, .inl subjectOf_)), (h0_teacherOf, .inl (cyI, 16, .inl teacherOf_)), (h0_seatsOf, .inl (cyI, 16, .inl seatsOf_)), (h0_columnOf, .inl (cyI, 16, .inl columnOf_)), (h0_columnsWith, .inl (cyI, 10, .inl columnsWith_)), (h1, .inr (0, [.int a1_columnCount_, .int a1_roomCount_, .int a1_size_, .ref h1_barsOf, .ref h1_subjectOf, .ref h1_teacherOf, .ref h1_seatsOf, .ref h1_columnOf, .ref h1_columnsWith])), (h1_barsOf, .inl (cyI, 10, .inl a1_barsOf_)), (h1_subjectOf, .inl (cyI, 16, .inl a1_subjectOf_)), (h1_teacherOf, .inl (cyI, 16, .inl a1_teacherOf_)), (h1_seatsOf, .inl (cyI, 16, .inl a1_seatsOf_)), (h1_columnOf, .inl (cyI, 16, .inl a1_columnOf_)), (h1_columnsWith, .inl (cyI, 10, .inl a1_columnsWith_))] := hD
  refine lv_aload_n hx hb dX0_become_24 rfl (lv_at hl 1 rfl) ?_
  refine va_get (D := (dC, dI)) (ci := 0) (v := .ref h1_barsOf) (C := RX0) (T := TX0) (N := 9) hx hb hts hiX0 hown hK hP 7 rfl rfl 3 (by decide) (hts (.fieldLink RX0 21 "OptionLattice$Plan" "barsOf" "[I") (by decide +kernel)) (fun _ h9 => h9) rfl dX0_become_25 ?_
  refine lv_iconst (v := 0) hx hb dX0_become_28 (by decide) ?_
  refine lv_aload_n hx hb dX0_become_29 rfl (lv_at hl 0 rfl) ?_
  refine va_get (D := (dC, dI)) (ci := 0) (v := .ref h0_barsOf) (C := RX0) (T := TX0) (N := 9) hx hb hts hiX0 hown hK hP 0 rfl rfl 3 (by decide) (hts (.fieldLink RX0 21 "OptionLattice$Plan" "barsOf" "[I") (by decide +kernel)) (fun _ h9 => h9) rfl dX0_become_30 ?_
  refine lv_iconst (v := 0) hx hb dX0_become_33 (by decide) ?_
  refine lv_bipush (v := 10) hx hb dX0_become_34 (by decide) ?_
  refine va_copyi hx hb (hml.trans hl.1.symm) hown (hts (.methodLink RX0 40 arraycopyName) (by decide +kernel)) (hts (.native arraycopyName) (by decide +kernel)) (hts (.static arraycopyName) (by decide +kernel)) (hts (.initialized "java/lang/System") (by decide +kernel)) hK hP hD hS 8 1 1 1 rfl rfl rfl rfl rfl (by decide) (by decide) (by decide) (by decide) (by decide) (fun _ _ => rfl) (Nat.le_of_ble_eq_true rfl) (by decide) dX0_become_36 (fun H locs hP hD hS => ?_)
  have hP : va_P (dC, dI) vwCl [(h0, .inr (0, [.int a1_columnCount_, .int a1_roomCount_, .int a1_size_, .ref h0_barsOf, .ref h0_subjectOf, .ref h0_teacherOf, .ref h0_seatsOf, .ref h0_columnOf, .ref h0_columnsWith])), (h0_barsOf, .inl (cyI, 10, .inl (va_cpy a1_barsOf_ barsOf_ (0 : Int32).toNatClampNeg (0 : Int32).toNatClampNeg (10 : Int32).toNatClampNeg))), (h0_subjectOf, .inl (cyI, 16, .inl subjectOf_)), (h0_teacherOf, .inl (cyI, 16, .inl teacherOf_)), (h0_seatsOf, .inl (cyI, 16, .inl seatsOf_)), (h0_columnOf, .inl (cyI, 16, .inl columnOf_)), (h0_columnsWith, .inl (cyI, 10, .inl columnsWith_)), (h1, .inr (0, [.int a1_columnCount_, .int a1_roomCount_, .int a1_size_, .ref h1_barsOf, .ref h1_subjectOf, .ref h1_teacherOf, .ref h1_seatsOf, .ref h1_columnOf, .ref h1_columnsWith])), (h1_barsOf, .inl (cyI, 10, .inl a1_barsOf_)), (h1_subjectOf, .inl (cyI, 16, .inl a1_subjectOf_)), (h1_teacherOf, .inl (cyI, 16, .inl a1_teacherOf_)), (h1_seatsOf, .inl (cyI, 16, .inl a1_seatsOf_)), (h1_columnOf, .inl (cyI, 16, .inl a1_columnOf_)), (h1_columnsWith, .inl (cyI, 10, .inl a1_columnsWith_))] H := hP
  have hD : va_D A [(h0, .inr (0, [.int a1_columnCount_, .int a1_roomCount_, .int a1_size_, .ref h0_barsOf, .ref h0_subjectOf, .ref h0_teacherOf, .ref h0_seatsOf, .ref h0_columnOf, .ref h0_columnsWith])), (h0_barsOf, .inl (cyI, 10, .inl (va_cpy a1_barsOf_ barsOf_ (0 : Int32).toNatClampNeg (0 : Int32).toNatClampNeg (10 : Int32).toNatClampNeg))), (h0_subjectOf, .inl (cyI, 16, .inl subjectOf_)), (h0_teacherOf, .inl (cyI, 16, .inl teacherOf_)), (h0_seatsOf, .inl (cyI, 16, .inl seatsOf_)), (h0_columnOf, .inl (cyI, 16, .inl columnOf_)), (h0_columnsWith, .inl (cyI, 10, .inl columnsWith_)), (h1, .inr (0, [.int a1_columnCount_, .int a1_roomCount_, .int a1_size_, .ref h1_barsOf, .ref h1_subjectOf, .ref h1_teacherOf, .ref h1_seatsOf, .ref h1_columnOf, .ref h1_columnsWith])), (h1_barsOf, .inl (cyI, 10, .inl a1_barsOf_)), (h1_subjectOf, .inl (cyI, 16, .inl a1_subjectOf_)), (h1_teacherOf, .inl (cyI, 16, .inl a1_teacherOf_)), (h1_seatsOf, .inl (cyI, 16, .inl a1_seatsOf_)), (h1_columnOf, .inl (cyI, 16, .inl a1_columnOf_)), (h1_columnsWith, .inl (cyI, 10, .inl a1_columnsWith_))] := hD
  refine lv_aload_n hx hb dX0_become_39 rfl (lv_at hl 1 rfl) ?_
  refine va_get (D := (dC, dI)) (ci := 0) (v := .ref h1_subjectOf) (C := RX0) (T := TX0) (N := 9) hx hb hts hiX0 hown hK hP 7 rfl rfl 4 (by decide) (hts (.fieldLink RX0 25 "OptionLattice$Plan" "subjectOf" "[I") (by decide +kernel)) (fun _ h9 => h9) rfl dX0_become_40 ?_
  refine lv_iconst (v := 0) hx hb dX0_become_43 (by decide) ?_
  refine lv_aload_n hx hb dX0_become_44 rfl (lv_at hl 0 rfl) ?_
  refine va_get (D := (dC, dI)) (ci := 0) (v := .ref h0_subjectOf) (C := RX0) (T := TX0) (N := 9) hx hb hts hiX0 hown hK hP 0 rfl rfl 4 (by decide) (hts (.fieldLink RX0 25 "OptionLattice$Plan" "subjectOf" "[I") (by decide +kernel)) (fun _ h9 => h9) rfl dX0_become_45 ?_
  refine lv_iconst (v := 0) hx hb dX0_become_48 (by decide) ?_
  refine lv_bipush (v := 16) hx hb dX0_become_49 (by decide) ?_
  refine va_copyi hx hb (hml.trans hl.1.symm) hown (hts (.methodLink RX0 40 arraycopyName) (by decide +kernel)) (hts (.native arraycopyName) (by decide +kernel)) (hts (.static arraycopyName) (by decide +kernel)) (hts (.initialized "java/lang/System") (by decide +kernel)) hK hP hD hS 9 2 1 1 rfl rfl rfl rfl rfl (by decide) (by decide) (by decide) (by decide) (by decide) (fun _ _ => rfl) (Nat.le_of_ble_eq_true rfl) (by decide) dX0_become_51 (fun H locs hP hD hS => ?_)
  have hP : va_P (dC, dI) vwCl [(h0, .inr (0, [.int a1_columnCount_, .int a1_roomCount_, .int a1_size_, .ref h0_barsOf, .ref h0_subjectOf, .ref h0_teacherOf, .ref h0_seatsOf, .ref h0_columnOf, .ref h0_columnsWith])), (h0_barsOf, .inl (cyI, 10, .inl (va_cpy a1_barsOf_ barsOf_ (0 : Int32).toNatClampNeg (0 : Int32).toNatClampNeg (10 : Int32).toNatClampNeg))), (h0_subjectOf, .inl (cyI, 16, .inl (va_cpy a1_subjectOf_ subjectOf_ (0 : Int32).toNatClampNeg (0 : Int32).toNatClampNeg (16 : Int32).toNatClampNeg))), (h0_teacherOf, .inl (cyI, 16, .inl teacherOf_)), (h0_seatsOf, .inl (cyI, 16, .inl seatsOf_)), (h0_columnOf, .inl (cyI, 16, .inl columnOf_)), (h0_columnsWith, .inl (cyI, 10, .inl columnsWith_)), (h1, .inr (0, [.int a1_columnCount_, .int a1_roomCount_, .int a1_size_, .ref h1_barsOf, .ref h1_subjectOf, .ref h1_teacherOf, .ref h1_seatsOf, .ref h1_columnOf, .ref h1_columnsWith])), (h1_barsOf, .inl (cyI, 10, .inl a1_barsOf_)), (h1_subjectOf, .inl (cyI, 16, .inl a1_subjectOf_)), (h1_teacherOf, .inl (cyI, 16, .inl a1_teacherOf_)), (h1_seatsOf, .inl (cyI, 16, .inl a1_seatsOf_)), (h1_columnOf, .inl (cyI, 16, .inl a1_columnOf_)), (h1_columnsWith, .inl (cyI, 10, .inl a1_columnsWith_))] H := hP
  have hD : va_D A [(h0, .inr (0, [.int a1_columnCount_, .int a1_roomCount_, .int a1_size_, .ref h0_barsOf, .ref h0_subjectOf, .ref h0_teacherOf, .ref h0_seatsOf, .ref h0_columnOf, .ref h0_columnsWith])), (h0_barsOf, .inl (cyI, 10, .inl (va_cpy a1_barsOf_ barsOf_ (0 : Int32).toNatClampNeg (0 : Int32).toNatClampNeg (10 : Int32).toNatClampNeg))), (h0_subjectOf, .inl (cyI, 16, .inl (va_cpy a1_subjectOf_ subjectOf_ (0 : Int32).toNatClampNeg (0 : Int32).toNatClampNeg (16 : Int32).toNatClampNeg))), (h0_teacherOf, .inl (cyI, 16, .inl teacherOf_)), (h0_seatsOf, .inl (cyI, 16, .inl seatsOf_)), (h0_columnOf, .inl (cyI, 16, .inl columnOf_)), (h0_columnsWith, .inl (cyI, 10, .inl columnsWith_)), (h1, .inr (0, [.int a1_columnCount_, .int a1_roomCount_, .int a1_size_, .ref h1_barsOf, .ref h1_subjectOf, .ref h1_teacherOf, .ref h1_seatsOf, .ref h1_columnOf, .ref h1_columnsWith])), (h1_barsOf, .inl (cyI, 10, .inl a1_barsOf_)), (h1_subjectOf, .inl (cyI, 16, .inl a1_subjectOf_)), (h1_teacherOf, .inl (cyI, 16, .inl a1_teacherOf_)), (h1_seatsOf, .inl (cyI, 16, .inl a1_seatsOf_)), (h1_columnOf, .inl (cyI, 16, .inl a1_columnOf_)), (h1_columnsWith, .inl (cyI, 10, .inl a1_columnsWith_))] := hD
  refine lv_aload_n hx hb dX0_become_54 rfl (lv_at hl 1 rfl) ?_
  refine va_get (D := (dC, dI)) (ci := 0) (v := .ref h1_teacherOf) (C := RX0) (T := TX0) (N := 9) hx hb hts hiX0 hown hK hP 7 rfl rfl 5 (by decide) (hts (.fieldLink RX0 28 "OptionLattice$Plan" "teacherOf" "[I") (by decide +kernel)) (fun _ h9 => h9) rfl dX0_become_55 ?_
  refine lv_iconst (v := 0) hx hb dX0_become_58 (by decide) ?_
  refine lv_aload_n hx hb dX0_become_59 rfl (lv_at hl 0 rfl) ?_
  refine va_get (D := (dC, dI)) (ci := 0) (v := .ref h0_teacherOf) (C := RX0) (T := TX0) (N := 9) hx hb hts hiX0 hown hK hP 0 rfl rfl 5 (by decide) (hts (.fieldLink RX0 28 "OptionLattice$Plan" "teacherOf" "[I") (by decide +kernel)) (fun _ h9 => h9) rfl dX0_become_60 ?_
  refine lv_iconst (v := 0) hx hb dX0_become_63 (by decide) ?_
  refine lv_bipush (v := 16) hx hb dX0_become_64 (by decide) ?_
  refine va_copyi hx hb (hml.trans hl.1.symm) hown (hts (.methodLink RX0 40 arraycopyName) (by decide +kernel)) (hts (.native arraycopyName) (by decide +kernel)) (hts (.static arraycopyName) (by decide +kernel)) (hts (.initialized "java/lang/System") (by decide +kernel)) hK hP hD hS 10 3 1 1 rfl rfl rfl rfl rfl (by decide) (by decide) (by decide) (by decide) (by decide) (fun _ _ => rfl) (Nat.le_of_ble_eq_true rfl) (by decide) dX0_become_66 (fun H locs hP hD hS => ?_)
  have hP : va_P (dC, dI) vwCl [(h0, .inr (0, [.int a1_columnCount_, .int a1_roomCount_, .int a1_size_, .ref h0_barsOf, .ref h0_subjectOf, .ref h0_teacherOf, .ref h0_seatsOf, .ref h0_columnOf, .ref h0_columnsWith])), (h0_barsOf, .inl (cyI, 10, .inl (va_cpy a1_barsOf_ barsOf_ (0 : Int32).toNatClampNeg (0 : Int32).toNatClampNeg (10 : Int32).toNatClampNeg))), (h0_subjectOf, .inl (cyI, 16, .inl (va_cpy a1_subjectOf_ subjectOf_ (0 : Int32).toNatClampNeg (0 : Int32).toNatClampNeg (16 : Int32).toNatClampNeg))), (h0_teacherOf, .inl (cyI, 16, .inl (va_cpy a1_teacherOf_ teacherOf_ (0 : Int32).toNatClampNeg (0 : Int32).toNatClampNeg (16 : Int32).toNatClampNeg))), (h0_seatsOf, .inl (cyI, 16, .inl seatsOf_)), (h0_columnOf, .inl (cyI, 16, .inl columnOf_)), (h0_columnsWith, .inl (cyI, 10, .inl columnsWith_)), (h1, .inr (0, [.int a1_columnCount_, .int a1_roomCount_, .int a1_size_, .ref h1_barsOf, .ref h1_subjectOf, .ref h1_teacherOf, .ref h1_seatsOf, .ref h1_columnOf, .ref h1_columnsWith])), (h1_barsOf, .inl (cyI, 10, .inl a1_barsOf_)), (h1_subjectOf, .inl (cyI, 16, .inl a1_subjectOf_)), (h1_teacherOf, .inl (cyI, 16, .inl a1_teacherOf_)), (h1_seatsOf, .inl (cyI, 16, .inl a1_seatsOf_)), (h1_columnOf, .inl (cyI, 16, .inl a1_columnOf_)), (h1_columnsWith, .inl (cyI, 10, .inl a1_columnsWith_))] H := hP
  have hD : va_D A [(h0, .inr (0, [.int a1_columnCount_, .int a1_roomCount_, .int a1_size_, .ref h0_barsOf, .ref h0_subjectOf, .ref h0_teacherOf, .ref h0_seatsOf, .ref h0_columnOf, .ref h0_columnsWith])), (h0_barsOf, .inl (cyI, 10, .inl (va_cpy a1_barsOf_ barsOf_ (0 : Int32).toNatClampNeg (0 : Int32).toNatClampNeg (10 : Int32).toNatClampNeg))), (h0_subjectOf, .inl (cyI, 16, .inl (va_cpy a1_subjectOf_ subjectOf_ (0 : Int32).toNatClampNeg (0 : Int32).toNatClampNeg (16 : Int32).toNatClampNeg))), (h0_teacherOf, .inl (cyI, 16, .inl (va_cpy a1_teacherOf_ teacherOf_ (0 : Int32).toNatClampNeg (0 : Int32).toNatClampNeg (16 : Int32).toNatClampNeg))), (h0_seatsOf, .inl (cyI, 16, .inl seatsOf_)), (h0_columnOf, .inl (cyI, 16, .inl columnOf_)), (h0_columnsWith, .inl (cyI, 10, .inl columnsWith_)), (h1, .inr (0, [.int a1_columnCount_, .int a1_roomCount_, .int a1_size_, .ref h1_barsOf, .ref h1_subjectOf, .ref h1_teacherOf, .ref h1_seatsOf, .ref h1_columnOf, .ref h1_columnsWith])), (h1_barsOf, .inl (cyI, 10, .inl a1_barsOf_)), (h1_subjectOf, .inl (cyI, 16, .inl a1_subjectOf_)), (h1_teacherOf, .inl (cyI, 16, .inl a1_teacherOf_)), (h1_seatsOf, .inl (cyI, 16, .inl a1_seatsOf_)), (h1_columnOf, .inl (cyI, 16, .inl a1_columnOf_)), (h1_columnsWith, .inl (cyI, 10, .inl a1_columnsWith_))] := hD
  refine lv_aload_n hx hb dX0_become_69 rfl (lv_at hl 1 rfl) ?_
  refine va_get (D := (dC, dI)) (ci := 0) (v := .ref h1_seatsOf) (C := RX0) (T := TX0) (N := 9) hx hb hts hiX0 hown hK hP 7 rfl rfl 6 (by decide) (hts (.fieldLink RX0 31 "OptionLattice$Plan" "seatsOf" "[I") (by decide +kernel)) (fun _ h9 => h9) rfl dX0_become_70 ?_
  refine lv_iconst (v := 0) hx hb dX0_become_73 (by decide) ?_
  refine lv_aload_n hx hb dX0_become_74 rfl (lv_at hl 0 rfl) ?_
  refine va_get (D := (dC, dI)) (ci := 0) (v := .ref h0_seatsOf) (C := RX0) (T := TX0) (N := 9) hx hb hts hiX0 hown hK hP 0 rfl rfl 6 (by decide) (hts (.fieldLink RX0 31 "OptionLattice$Plan" "seatsOf" "[I") (by decide +kernel)) (fun _ h9 => h9) rfl dX0_become_75 ?_
  refine lv_iconst (v := 0) hx hb dX0_become_78 (by decide) ?_
  refine lv_bipush (v := 16) hx hb dX0_become_79 (by decide) ?_
  refine va_copyi hx hb (hml.trans hl.1.symm) hown (hts (.methodLink RX0 40 arraycopyName) (by decide +kernel)) (hts (.native arraycopyName) (by decide +kernel)) (hts (.static arraycopyName) (by decide +kernel)) (hts (.initialized "java/lang/System") (by decide +kernel)) hK hP hD hS 11 4 1 1 rfl rfl rfl rfl rfl (by decide) (by decide) (by decide) (by decide) (by decide) (fun _ _ => rfl) (Nat.le_of_ble_eq_true rfl) (by decide) dX0_become_81 (fun H locs hP hD hS => ?_)
  have hP : va_P (dC, dI) vwCl [(h0, .inr (0, [.int a1_columnCount_, .int a1_roomCount_, .int a1_size_, .ref h0_barsOf, .ref h0_subjectOf, .ref h0_teacherOf, .ref h0_seatsOf, .ref h0_columnOf, .ref h0_columnsWith])), (h0_barsOf, .inl (cyI, 10, .inl (va_cpy a1_barsOf_ barsOf_ (0 : Int32).toNatClampNeg (0 : Int32).toNatClampNeg (10 : Int32).toNatClampNeg))), (h0_subjectOf, .inl (cyI, 16, .inl (va_cpy a1_subjectOf_ subjectOf_ (0 : Int32).toNatClampNeg (0 : Int32).toNatClampNeg (16 : Int32).toNatClampNeg))), (h0_teacherOf, .inl (cyI, 16, .inl (va_cpy a1_teacherOf_ teacherOf_ (0 : Int32).toNatClampNeg (0 : Int32).toNatClampNeg (16 : Int32).toNatClampNeg))), (h0_seatsOf, .inl (cyI, 16, .inl (va_cpy a1_seatsOf_ seatsOf_ (0 : Int32).toNatClampNeg (0 : Int32).toNatClampNeg (16 : Int32).toNatClampNeg))), (h0_columnOf, .inl (cyI, 16, .inl columnOf_)), (h0_columnsWith, .inl (cyI, 10, .inl columnsWith_)), (h1, .inr (0, [.int a1_columnCount_, .int a1_roomCount_, .int a1_size_, .ref h1_barsOf, .ref h1_subjectOf, .ref h1_teacherOf, .ref h1_seatsOf, .ref h1_columnOf, .ref h1_columnsWith])), (h1_barsOf, .inl (cyI, 10, .inl a1_barsOf_)), (h1_subjectOf, .inl (cyI, 16, .inl a1_subjectOf_)), (h1_teacherOf, .inl (cyI, 16, .inl a1_teacherOf_)), (h1_seatsOf, .inl (cyI, 16, .inl a1_seatsOf_)), (h1_columnOf, .inl (cyI, 16, .inl a1_columnOf_)), (h1_columnsWith, .inl (cyI, 10, .inl a1_columnsWith_))] H := hP
  have hD : va_D A [(h0, .inr (0, [.int a1_columnCount_, .int a1_roomCount_, .int a1_size_, .ref h0_barsOf, .ref h0_subjectOf, .ref h0_teacherOf, .ref h0_seatsOf, .ref h0_columnOf, .ref h0_columnsWith])), (h0_barsOf, .inl (cyI, 10, .inl (va_cpy a1_barsOf_ barsOf_ (0 : Int32).toNatClampNeg (0 : Int32).toNatClampNeg (10 : Int32).toNatClampNeg))), (h0_subjectOf, .inl (cyI, 16, .inl (va_cpy a1_subjectOf_ subjectOf_ (0 : Int32).toNatClampNeg (0 : Int32).toNatClampNeg (16 : Int32).toNatClampNeg))), (h0_teacherOf, .inl (cyI, 16, .inl (va_cpy a1_teacherOf_ teacherOf_ (0 : Int32).toNatClampNeg (0 : Int32).toNatClampNeg (16 : Int32).toNatClampNeg))), (h0_seatsOf, .inl (cyI, 16, .inl (va_cpy a1_seatsOf_ seatsOf_ (0 : Int32).toNatClampNeg (0 : Int32).toNatClampNeg (16 : Int32).toNatClampNeg))), (h0_columnOf, .inl (cyI, 16, .inl columnOf_)), (h0_columnsWith, .inl (cyI, 10, .inl columnsWith_)), (h1, .inr (0, [.int a1_columnCount_, .int a1_roomCount_, .int a1_size_, .ref h1_barsOf, .ref h1_subjectOf, .ref h1_teacherOf, .ref h1_seatsOf, .ref h1_columnOf, .ref h1_columnsWith])), (h1_barsOf, .inl (cyI, 10, .inl a1_barsOf_)), (h1_subjectOf, .inl (cyI, 16, .inl a1_subjectOf_)), (h1_teacherOf, .inl (cyI, 16, .inl a1_teacherOf_)), (h1_seatsOf, .inl (cyI, 16, .inl a1_seatsOf_)), (h1_columnOf, .inl (cyI, 16, .inl a1_columnOf_)), (h1_columnsWith, .inl (cyI, 10, .inl a1_columnsWith_))] := hD
  refine lv_aload_n hx hb dX0_become_84 rfl (lv_at hl 1 rfl) ?_
  refine va_get (D := (dC, dI)) (ci := 0) (v := .ref h1_columnOf) (C := RX0) (T := TX0) (N := 9) hx hb hts hiX0 hown hK hP 7 rfl rfl 7 (by decide) (hts (.fieldLink RX0 34 "OptionLattice$Plan" "columnOf" "[I") (by decide +kernel)) (fun _ h9 => h9) rfl dX0_become_85 ?_
  refine lv_iconst (v := 0) hx hb dX0_become_88 (by decide) ?_
  refine lv_aload_n hx hb dX0_become_89 rfl (lv_at hl 0 rfl) ?_
  refine va_get (D := (dC, dI)) (ci := 0) (v := .ref h0_columnOf) (C := RX0) (T := TX0) (N := 9) hx hb hts hiX0 hown hK hP 0 rfl rfl 7 (by decide) (hts (.fieldLink RX0 34 "OptionLattice$Plan" "columnOf" "[I") (by decide +kernel)) (fun _ h9 => h9) rfl dX0_become_90 ?_
  refine lv_iconst (v := 0) hx hb dX0_become_93 (by decide) ?_
  refine lv_bipush (v := 16) hx hb dX0_become_94 (by decide) ?_
  refine va_copyi hx hb (hml.trans hl.1.symm) hown (hts (.methodLink RX0 40 arraycopyName) (by decide +kernel)) (hts (.native arraycopyName) (by decide +kernel)) (hts (.static arraycopyName) (by decide +kernel)) (hts (.initialized "java/lang/System") (by decide +kernel)) hK hP hD hS 12 5 1 1 rfl rfl rfl rfl rfl (by decide) (by decide) (by decide) (by decide) (by decide) (fun _ _ => rfl) (Nat.le_of_ble_eq_true rfl) (by decide) dX0_become_96 (fun H locs hP hD hS => ?_)
  have hP : va_P (dC, dI) vwCl [(h0, .inr (0, [.int a1_columnCount_, .int a1_roomCount_, .int a1_size_, .ref h0_barsOf, .ref h0_subjectOf, .ref h0_teacherOf, .ref h0_seatsOf, .ref h0_columnOf, .ref h0_columnsWith])), (h0_barsOf, .inl (cyI, 10, .inl (va_cpy a1_barsOf_ barsOf_ (0 : Int32).toNatClampNeg (0 : Int32).toNatClampNeg (10 : Int32).toNatClampNeg))), (h0_subjectOf, .inl (cyI, 16, .inl (va_cpy a1_subjectOf_ subjectOf_ (0 : Int32).toNatClampNeg (0 : Int32).toNatClampNeg (16 : Int32).toNatClampNeg))), (h0_teacherOf, .inl (cyI, 16, .inl (va_cpy a1_teacherOf_ teacherOf_ (0 : Int32).toNatClampNeg (0 : Int32).toNatClampNeg (16 : Int32).toNatClampNeg))), (h0_seatsOf, .inl (cyI, 16, .inl (va_cpy a1_seatsOf_ seatsOf_ (0 : Int32).toNatClampNeg (0 : Int32).toNatClampNeg (16 : Int32).toNatClampNeg))), (h0_columnOf, .inl (cyI, 16, .inl (va_cpy a1_columnOf_ columnOf_ (0 : Int32).toNatClampNeg (0 : Int32).toNatClampNeg (16 : Int32).toNatClampNeg))), (h0_columnsWith, .inl (cyI, 10, .inl columnsWith_)), (h1, .inr (0, [.int a1_columnCount_, .int a1_roomCount_, .int a1_size_, .ref h1_barsOf, .ref h1_subjectOf, .ref h1_teacherOf, .ref h1_seatsOf, .ref h1_columnOf, .ref h1_columnsWith])), (h1_barsOf, .inl (cyI, 10, .inl a1_barsOf_)), (h1_subjectOf, .inl (cyI, 16, .inl a1_subjectOf_)), (h1_teacherOf, .inl (cyI, 16, .inl a1_teacherOf_)), (h1_seatsOf, .inl (cyI, 16, .inl a1_seatsOf_)), (h1_columnOf, .inl (cyI, 16, .inl a1_columnOf_)), (h1_columnsWith, .inl (cyI, 10, .inl a1_columnsWith_))] H := hP
  have hD : va_D A [(h0, .inr (0, [.int a1_columnCount_, .int a1_roomCount_, .int a1_size_, .ref h0_barsOf, .ref h0_subjectOf, .ref h0_teacherOf, .ref h0_seatsOf, .ref h0_columnOf, .ref h0_columnsWith])), (h0_barsOf, .inl (cyI, 10, .inl (va_cpy a1_barsOf_ barsOf_ (0 : Int32).toNatClampNeg (0 : Int32).toNatClampNeg (10 : Int32).toNatClampNeg))), (h0_subjectOf, .inl (cyI, 16, .inl (va_cpy a1_subjectOf_ subjectOf_ (0 : Int32).toNatClampNeg (0 : Int32).toNatClampNeg (16 : Int32).toNatClampNeg))), (h0_teacherOf, .inl (cyI, 16, .inl (va_cpy a1_teacherOf_ teacherOf_ (0 : Int32).toNatClampNeg (0 : Int32).toNatClampNeg (16 : Int32).toNatClampNeg))), (h0_seatsOf, .inl (cyI, 16, .inl (va_cpy a1_seatsOf_ seatsOf_ (0 : Int32).toNatClampNeg (0 : Int32).toNatClampNeg (16 : Int32).toNatClampNeg))), (h0_columnOf, .inl (cyI, 16, .inl (va_cpy a1_columnOf_ columnOf_ (0 : Int32).toNatClampNeg (0 : Int32).toNatClampNeg (16 : Int32).toNatClampNeg))), (h0_columnsWith, .inl (cyI, 10, .inl columnsWith_)), (h1, .inr (0, [.int a1_columnCount_, .int a1_roomCount_, .int a1_size_, .ref h1_barsOf, .ref h1_subjectOf, .ref h1_teacherOf, .ref h1_seatsOf, .ref h1_columnOf, .ref h1_columnsWith])), (h1_barsOf, .inl (cyI, 10, .inl a1_barsOf_)), (h1_subjectOf, .inl (cyI, 16, .inl a1_subjectOf_)), (h1_teacherOf, .inl (cyI, 16, .inl a1_teacherOf_)), (h1_seatsOf, .inl (cyI, 16, .inl a1_seatsOf_)), (h1_columnOf, .inl (cyI, 16, .inl a1_columnOf_)), (h1_columnsWith, .inl (cyI, 10, .inl a1_columnsWith_))] := hD
  refine lv_aload_n hx hb dX0_become_99 rfl (lv_at hl 1 rfl) ?_
  refine va_get (D := (dC, dI)) (ci := 0) (v := .ref h1_columnsWith) (C := RX0) (T := TX0) (N := 9) hx hb hts hiX0 hown hK hP 7 rfl rfl 8 (by decide) (hts (.fieldLink RX0 37 "OptionLattice$Plan" "columnsWith" "[I") (by decide +kernel)) (fun _ h9 => h9) rfl dX0_become_100 ?_
  refine lv_iconst (v := 0) hx hb dX0_become_103 (by decide) ?_
  refine lv_aload_n hx hb dX0_become_104 rfl (lv_at hl 0 rfl) ?_
  refine va_get (D := (dC, dI)) (ci := 0) (v := .ref h0_columnsWith) (C := RX0) (T := TX0) (N := 9) hx hb hts hiX0 hown hK hP 0 rfl rfl 8 (by decide) (hts (.fieldLink RX0 37 "OptionLattice$Plan" "columnsWith" "[I") (by decide +kernel)) (fun _ h9 => h9) rfl dX0_become_105 ?_
  refine lv_iconst (v := 0) hx hb dX0_become_108 (by decide) ?_
  refine lv_bipush (v := 10) hx hb dX0_become_109 (by decide) ?_
  refine va_copyi hx hb (hml.trans hl.1.symm) hown (hts (.methodLink RX0 40 arraycopyName) (by decide +kernel)) (hts (.native arraycopyName) (by decide +kernel)) (hts (.static arraycopyName) (by decide +kernel)) (hts (.initialized "java/lang/System") (by decide +kernel)) hK hP hD hS 13 6 1 1 rfl rfl rfl rfl rfl (by decide) (by decide) (by decide) (by decide) (by decide) (fun _ _ => rfl) (Nat.le_of_ble_eq_true rfl) (by decide) dX0_become_111 (fun H locs hP hD hS => ?_)
  have hP : va_P (dC, dI) vwCl [(h0, .inr (0, [.int a1_columnCount_, .int a1_roomCount_, .int a1_size_, .ref h0_barsOf, .ref h0_subjectOf, .ref h0_teacherOf, .ref h0_seatsOf, .ref h0_columnOf, .ref h0_columnsWith])), (h0_barsOf, .inl (cyI, 10, .inl (va_cpy a1_barsOf_ barsOf_ (0 : Int32).toNatClampNeg (0 : Int32).toNatClampNeg (10 : Int32).toNatClampNeg))), (h0_subjectOf, .inl (cyI, 16, .inl (va_cpy a1_subjectOf_ subjectOf_ (0 : Int32).toNatClampNeg (0 : Int32).toNatClampNeg (16 : Int32).toNatClampNeg))), (h0_teacherOf, .inl (cyI, 16, .inl (va_cpy a1_teacherOf_ teacherOf_ (0 : Int32).toNatClampNeg (0 : Int32).toNatClampNeg (16 : Int32).toNatClampNeg))), (h0_seatsOf, .inl (cyI, 16, .inl (va_cpy a1_seatsOf_ seatsOf_ (0 : Int32).toNatClampNeg (0 : Int32).toNatClampNeg (16 : Int32).toNatClampNeg))), (h0_columnOf, .inl (cyI, 16, .inl (va_cpy a1_columnOf_ columnOf_ (0 : Int32).toNatClampNeg (0 : Int32).toNatClampNeg (16 : Int32).toNatClampNeg))), (h0_columnsWith, .inl (cyI, 10, .inl (va_cpy a1_columnsWith_ columnsWith_ (0 : Int32).toNatClampNeg (0 : Int32).toNatClampNeg (10 : Int32).toNatClampNeg))), (h1, .inr (0, [.int a1_columnCount_, .int a1_roomCount_, .int a1_size_, .ref h1_barsOf, .ref h1_subjectOf, .ref h1_teacherOf, .ref h1_seatsOf, .ref h1_columnOf, .ref h1_columnsWith])), (h1_barsOf, .inl (cyI, 10, .inl a1_barsOf_)), (h1_subjectOf, .inl (cyI, 16, .inl a1_subjectOf_)), (h1_teacherOf, .inl (cyI, 16, .inl a1_teacherOf_)), (h1_seatsOf, .inl (cyI, 16, .inl a1_seatsOf_)), (h1_columnOf, .inl (cyI, 16, .inl a1_columnOf_)), (h1_columnsWith, .inl (cyI, 10, .inl a1_columnsWith_))] H := hP
  have hD : va_D A [(h0, .inr (0, [.int a1_columnCount_, .int a1_roomCount_, .int a1_size_, .ref h0_barsOf, .ref h0_subjectOf, .ref h0_teacherOf, .ref h0_seatsOf, .ref h0_columnOf, .ref h0_columnsWith])), (h0_barsOf, .inl (cyI, 10, .inl (va_cpy a1_barsOf_ barsOf_ (0 : Int32).toNatClampNeg (0 : Int32).toNatClampNeg (10 : Int32).toNatClampNeg))), (h0_subjectOf, .inl (cyI, 16, .inl (va_cpy a1_subjectOf_ subjectOf_ (0 : Int32).toNatClampNeg (0 : Int32).toNatClampNeg (16 : Int32).toNatClampNeg))), (h0_teacherOf, .inl (cyI, 16, .inl (va_cpy a1_teacherOf_ teacherOf_ (0 : Int32).toNatClampNeg (0 : Int32).toNatClampNeg (16 : Int32).toNatClampNeg))), (h0_seatsOf, .inl (cyI, 16, .inl (va_cpy a1_seatsOf_ seatsOf_ (0 : Int32).toNatClampNeg (0 : Int32).toNatClampNeg (16 : Int32).toNatClampNeg))), (h0_columnOf, .inl (cyI, 16, .inl (va_cpy a1_columnOf_ columnOf_ (0 : Int32).toNatClampNeg (0 : Int32).toNatClampNeg (16 : Int32).toNatClampNeg))), (h0_columnsWith, .inl (cyI, 10, .inl (va_cpy a1_columnsWith_ columnsWith_ (0 : Int32).toNatClampNeg (0 : Int32).toNatClampNeg (10 : Int32).toNatClampNeg))), (h1, .inr (0, [.int a1_columnCount_, .int a1_roomCount_, .int a1_size_, .ref h1_barsOf, .ref h1_subjectOf, .ref h1_teacherOf, .ref h1_seatsOf, .ref h1_columnOf, .ref h1_columnsWith])), (h1_barsOf, .inl (cyI, 10, .inl a1_barsOf_)), (h1_subjectOf, .inl (cyI, 16, .inl a1_subjectOf_)), (h1_teacherOf, .inl (cyI, 16, .inl a1_teacherOf_)), (h1_seatsOf, .inl (cyI, 16, .inl a1_seatsOf_)), (h1_columnOf, .inl (cyI, 16, .inl a1_columnOf_)), (h1_columnsWith, .inl (cyI, 10, .inl a1_columnsWith_))] := hD
  have h : some (a1_columnCount_, a1_roomCount_, a1_size_, (va_cpy a1_barsOf_ barsOf_ (0 : Int32).toNatClampNeg (0 : Int32).toNatClampNeg (10 : Int32).toNatClampNeg), (va_cpy a1_subjectOf_ subjectOf_ (0 : Int32).toNatClampNeg (0 : Int32).toNatClampNeg (16 : Int32).toNatClampNeg), (va_cpy a1_teacherOf_ teacherOf_ (0 : Int32).toNatClampNeg (0 : Int32).toNatClampNeg (16 : Int32).toNatClampNeg), (va_cpy a1_seatsOf_ seatsOf_ (0 : Int32).toNatClampNeg (0 : Int32).toNatClampNeg (16 : Int32).toNatClampNeg), (va_cpy a1_columnOf_ columnOf_ (0 : Int32).toNatClampNeg (0 : Int32).toNatClampNeg (16 : Int32).toNatClampNeg), (va_cpy a1_columnsWith_ columnsWith_ (0 : Int32).toNatClampNeg (0 : Int32).toNatClampNeg (10 : Int32).toNatClampNeg)) = some (o0, o1, o2, o3, o4, o5, o6, o7, o8) := h
  have z0 := Option.some.inj h
  obtain ⟨rfl, z1⟩ := Prod.mk.inj z0
  obtain ⟨rfl, z2⟩ := Prod.mk.inj z1
  obtain ⟨rfl, z3⟩ := Prod.mk.inj z2
  obtain ⟨rfl, z4⟩ := Prod.mk.inj z3
  obtain ⟨rfl, z5⟩ := Prod.mk.inj z4
  obtain ⟨rfl, z6⟩ := Prod.mk.inj z5
  obtain ⟨rfl, z7⟩ := Prod.mk.inj z6
  obtain ⟨rfl, z8⟩ := Prod.mk.inj z7
  obtain rfl := z8
  exact hret _ _ _ _ hP hS dX0_become_114

def m_X0_columnsWithout_5 (size_ : Int32) (subjectOf_ : Nat → Int32) (columnOf_ : Nat → Int32) (v1 : Int32) (v2 : Int32) (rec5 : Int32 → Int32 → Option (Int32)) : Int32 → Int32 → Option (Int32) := fun v3 v4 =>
  (if size_ ≤ v4 then some v3 else (if v4 = v2 then lt' (v4 + 1) (fun v4_1 => rec5 v3 v4_1) else gd (inb v4 16) ((if (subjectOf_ v4.toNatClampNeg) = v1 then gd (inb v4 16) ((if (columnOf_ v4.toNatClampNeg) = (-1) then lt' (v4 + 1) (fun v4_3 => rec5 v3 v4_3) else gd (inb v4 16) (lt' (v3 ||| ((1 : Int32) <<< ((columnOf_ v4.toNatClampNeg) &&& 31))) (fun v3_4 => lt' (v4 + 1) (fun v4_5 => rec5 v3_4 v4_5))))) else lt' (v4 + 1) (fun v4_2 => rec5 v3 v4_2)))))
def m_X0_columnsWithout (size_ : Int32) (subjectOf_ : Nat → Int32) (columnOf_ : Nat → Int32) (v1 : Int32) (v2 : Int32) : Option (Int32) :=
  it2 (m_X0_columnsWithout_5 size_ subjectOf_ columnOf_ v1 v2) 1100 0 0
abbrev rmX0_columnsWithout : Room := { frames := 0, cells := 0, slots := 0, locals := 0 }
set_option maxHeartbeats 4000000 in
set_option maxRecDepth 100000 in
theorem c_X0_columnsWithout (l : Launch) (dC : Nat → ClassId) (dI : Nat → Nat → Nat) (cyC cyI cyJ : ClassId) (h0 h0_barsOf h0_subjectOf h0_teacherOf h0_seatsOf h0_columnOf h0_columnsWith : Nat) (columnCount_ : Int32) (roomCount_ : Int32) (size_ : Int32) (subjectOf_ : Nat → Int32) (columnOf_ : Nat → Int32) (v1 : Int32) (v2 : Int32) (rr : Int32) (h : m_X0_columnsWithout size_ subjectOf_ columnOf_ v1 v2 = some rr) : uMi l yX0_columnsWithout wsX0_columnsWithout rmX0_columnsWithout (dC, dI) [(cyC, .char), (cyI, .int), (cyJ, .long)] [.ref h0, .int v1, .int v2] [(h0, .inr (0, [.int columnCount_, .int roomCount_, .int size_, .ref h0_barsOf, .ref h0_subjectOf, .ref h0_teacherOf, .ref h0_seatsOf, .ref h0_columnOf, .ref h0_columnsWith])), (h0_subjectOf, .inl (cyI, 16, .inl subjectOf_)), (h0_columnOf, .inl (cyI, 16, .inl columnOf_))] [(h0, .inr (0, [.int columnCount_, .int roomCount_, .int size_, .ref h0_barsOf, .ref h0_subjectOf, .ref h0_teacherOf, .ref h0_seatsOf, .ref h0_columnOf, .ref h0_columnsWith])), (h0_subjectOf, .inl (cyI, 16, .inl subjectOf_)), (h0_columnOf, .inl (cyI, 16, .inl columnOf_))] rr := by
  refine uMi.of (cc := cX0_columnsWithout) (maxL := 5) (by decide) rfl (Nat.le_of_ble_eq_true rfl) (fun p e s m args below meth c A ls Q hx hb hml hown hts hA hP hK hD hE hS hl hret => ?_)
  have hown : s.vm.findClass RX0 = some m.cls := hown
  have hl : lv_has ls 5 [(0, .ref h0), (1, .int v1), (2, .int v2)] := hl
  have hiX0 : ∀ w ∈ u_ws RX0 TX0 9, w ∈ wsX0_columnsWithout := fun _ h9 => List.mem_cons_of_mem _ (List.mem_append_right _ h9)
  have L5 : ∀ (n5 : Nat), ∀ (v3 : Int32), ∀ (v4 : Int32), it2 (m_X0_columnsWithout_5 size_ subjectOf_ columnOf_ v1 v2) n5 v3 v4 = some rr → ∀ (H : Heap) (locs : List Loc) (ls : Array Slot), va_P (dC, dI) vwCl [(h0, .inr (0, [.int columnCount_, .int roomCount_, .int size_, .ref h0_barsOf, .ref h0_subjectOf, .ref h0_teacherOf, .ref h0_seatsOf, .ref h0_columnOf, .ref h0_columnsWith])), (h0_subjectOf, .inl (cyI, 16, .inl subjectOf_)), (h0_columnOf, .inl (cyI, 16, .inl columnOf_))] H → va_D A [(h0, .inr (0, [.int columnCount_, .int roomCount_, .int size_, .ref h0_barsOf, .ref h0_subjectOf, .ref h0_teacherOf, .ref h0_seatsOf, .ref h0_columnOf, .ref h0_columnsWith])), (h0_subjectOf, .inl (cyI, 16, .inl subjectOf_)), (h0_columnOf, .inl (cyI, 16, .inl columnOf_))] → va_S A s.heap H locs → lv_has ls 5 [(0, .ref h0), (1, .int v1), (2, .int v2), (3, .int v3), (4, .int v4)] → W p l e rmX0_columnsWithout s m args below meth c H locs 0 0 Q (F0 m 5 ls []) := by
    intro n5
    induction n5 with
    | zero => intro v3 v4 h; exact absurd h (fun z => it2_z z)
    | succ n5 ih5 =>
      intro v3 v4 h H locs ls hP hD hS hl
      have h : m_X0_columnsWithout_5 size_ subjectOf_ columnOf_ v1 v2 (it2 (m_X0_columnsWithout_5 size_ subjectOf_ columnOf_ v1 v2) n5) v3 v4 = some rr := h
      unfold m_X0_columnsWithout_5 at h
      refine lv_iload hx hb dX0_columnsWithout_5 (lv_at hl 4 rfl) ?_
      refine lv_aload_n hx hb dX0_columnsWithout_7 rfl (lv_at hl 0 rfl) ?_
      refine va_get (D := (dC, dI)) (ci := 0) (v := .int size_) (C := RX0) (T := TX0) (N := 9) hx hb hts hiX0 hown hK hP 0 rfl rfl 2 (by decide) (hts (.fieldLink RX0 18 "OptionLattice$Plan" "size" "I") (by decide +kernel)) (fun _ h9 => h9) rfl dX0_columnsWithout_8 ?_
      refine lv_icmp_ge (tgt := 60) hx hb dX0_columnsWithout_11 (by decide) (fun c_ => ?_) (fun c_ => ?_)
      · have h := (if_pos c_).symm.trans h
        refine lv_iload_n hx hb dX0_columnsWithout_60 rfl (lv_at hl 3 rfl) ?_
        have h : some v3 = some rr := h
        have z0 := Option.some.inj h
        obtain rfl := z0
        exact hret _ _ _ _ hP hS rfl dX0_columnsWithout_61
      · have h := (if_neg c_).symm.trans h
        refine lv_iload hx hb dX0_columnsWithout_14 (lv_at hl 4 rfl) ?_
        refine lv_iload_n hx hb dX0_columnsWithout_16 rfl (lv_at hl 2 rfl) ?_
        refine lv_icmp_eq (tgt := 54) hx hb dX0_columnsWithout_17 (by decide) (fun c_ => ?_) (fun c_ => ?_)
        · have h := (if_pos c_).symm.trans h
          obtain ⟨v4_1, e_v4_1⟩ : ∃ z : Int32, z = (v4 + 1) := ⟨_, rfl⟩
          have h := lt_use e_v4_1 h
          refine lv_iinc (v := v4_1) (lv' := [(4, .int v4_1), (0, .ref h0), (1, .int v1), (2, .int v2), (3, .int v3)]) hx hb dX0_columnsWithout_54 hl (k := 4) rfl (by rw [e_v4_1]; rfl) (by decide) rfl (fun ls hl => ?_)
          refine lv_goto (tgt := 5) hx hb dX0_columnsWithout_57 (by decide) ?_
          exact ih5 v3 v4_1 h _ _ _ hP hD hS (lv_sub hl [1, 2, 3, 4, 0] rfl)
        · have h := (if_neg c_).symm.trans h
          refine lv_aload_n hx hb dX0_columnsWithout_20 rfl (lv_at hl 0 rfl) ?_
          refine va_get (D := (dC, dI)) (ci := 0) (v := .ref h0_subjectOf) (C := RX0) (T := TX0) (N := 9) hx hb hts hiX0 hown hK hP 0 rfl rfl 4 (by decide) (hts (.fieldLink RX0 25 "OptionLattice$Plan" "subjectOf" "[I") (by decide +kernel)) (fun _ h9 => h9) rfl dX0_columnsWithout_21 ?_
          refine lv_iload hx hb dX0_columnsWithout_24 (lv_at hl 4 rfl) ?_
          obtain ⟨g_, h⟩ := gd_some h
          refine va_iald hx hb hK hP 1 1 rfl rfl (inb_in g_) dX0_columnsWithout_26 ?_
          refine lv_iload_n hx hb dX0_columnsWithout_27 rfl (lv_at hl 1 rfl) ?_
          refine lv_icmp_ne (tgt := 54) hx hb dX0_columnsWithout_28 (by decide) (fun c_ => ?_) (fun c_ => ?_)
          · have h := (if_neg c_).symm.trans h
            obtain ⟨v4_2, e_v4_2⟩ : ∃ z : Int32, z = (v4 + 1) := ⟨_, rfl⟩
            have h := lt_use e_v4_2 h
            refine lv_iinc (v := v4_2) (lv' := [(4, .int v4_2), (0, .ref h0), (1, .int v1), (2, .int v2), (3, .int v3)]) hx hb dX0_columnsWithout_54 hl (k := 4) rfl (by rw [e_v4_2]; rfl) (by decide) rfl (fun ls hl => ?_)
            refine lv_goto (tgt := 5) hx hb dX0_columnsWithout_57 (by decide) ?_
            exact ih5 v3 v4_2 h _ _ _ hP hD hS (lv_sub hl [1, 2, 3, 4, 0] rfl)
          · have h := (if_pos c_).symm.trans h
            refine lv_aload_n hx hb dX0_columnsWithout_31 rfl (lv_at hl 0 rfl) ?_
            refine va_get (D := (dC, dI)) (ci := 0) (v := .ref h0_columnOf) (C := RX0) (T := TX0) (N := 9) hx hb hts hiX0 hown hK hP 0 rfl rfl 7 (by decide) (hts (.fieldLink RX0 34 "OptionLattice$Plan" "columnOf" "[I") (by decide +kernel)) (fun _ h9 => h9) rfl dX0_columnsWithout_32 ?_
            refine lv_iload hx hb dX0_columnsWithout_35 (lv_at hl 4 rfl) ?_
            obtain ⟨g_, h⟩ := gd_some h
            refine va_iald hx hb hK hP 2 1 rfl rfl (inb_in g_) dX0_columnsWithout_37 ?_
            refine lv_iconst (v := (-1)) hx hb dX0_columnsWithout_38 (by decide) ?_
            refine lv_icmp_eq (tgt := 54) hx hb dX0_columnsWithout_39 (by decide) (fun c_ => ?_) (fun c_ => ?_)
            · have h := (if_pos c_).symm.trans h
              obtain ⟨v4_3, e_v4_3⟩ : ∃ z : Int32, z = (v4 + 1) := ⟨_, rfl⟩
              have h := lt_use e_v4_3 h
              refine lv_iinc (v := v4_3) (lv' := [(4, .int v4_3), (0, .ref h0), (1, .int v1), (2, .int v2), (3, .int v3)]) hx hb dX0_columnsWithout_54 hl (k := 4) rfl (by rw [e_v4_3]; rfl) (by decide) rfl (fun ls hl => ?_)
              refine lv_goto (tgt := 5) hx hb dX0_columnsWithout_57 (by decide) ?_
              exact ih5 v3 v4_3 h _ _ _ hP hD hS (lv_sub hl [1, 2, 3, 4, 0] rfl)
            · have h := (if_neg c_).symm.trans h
              refine lv_iload_n hx hb dX0_columnsWithout_42 rfl (lv_at hl 3 rfl) ?_
              refine lv_iconst (v := 1) hx hb dX0_columnsWithout_43 (by decide) ?_
              refine lv_aload_n hx hb dX0_columnsWithout_44 rfl (lv_at hl 0 rfl) ?_
              refine va_get (D := (dC, dI)) (ci := 0) (v := .ref h0_columnOf) (C := RX0) (T := TX0) (N := 9) hx hb hts hiX0 hown hK hP 0 rfl rfl 7 (by decide) (hts (.fieldLink RX0 34 "OptionLattice$Plan" "columnOf" "[I") (by decide +kernel)) (fun _ h9 => h9) rfl dX0_columnsWithout_45 ?_
              refine lv_iload hx hb dX0_columnsWithout_48 (lv_at hl 4 rfl) ?_
              obtain ⟨g_, h⟩ := gd_some h
              refine va_iald hx hb hK hP 2 1 rfl rfl (inb_in g_) dX0_columnsWithout_50 ?_
              refine lv_ishl hx hb dX0_columnsWithout_51 ?_
              refine lv_ior hx hb dX0_columnsWithout_52 ?_
              refine lv_topi (fun v3_4 e_v3_4 => ?_)
              have h := lt_use e_v3_4 h
              refine lv_istore_n (lv' := [(3, .int v3_4), (0, .ref h0), (1, .int v1), (2, .int v2), (4, .int v4)]) hx hb dX0_columnsWithout_53 rfl hl (by decide) rfl (fun ls hl => ?_)
              obtain ⟨v4_5, e_v4_5⟩ : ∃ z : Int32, z = (v4 + 1) := ⟨_, rfl⟩
              have h := lt_use e_v4_5 h
              refine lv_iinc (v := v4_5) (lv' := [(4, .int v4_5), (3, .int v3_4), (0, .ref h0), (1, .int v1), (2, .int v2)]) hx hb dX0_columnsWithout_54 hl (k := 4) rfl (by rw [e_v4_5]; rfl) (by decide) rfl (fun ls hl => ?_)
              refine lv_goto (tgt := 5) hx hb dX0_columnsWithout_57 (by decide) ?_
              exact ih5 v3_4 v4_5 h _ _ _ hP hD hS (lv_sub hl [2, 3, 4, 1, 0] rfl)
  unfold m_X0_columnsWithout at h
  refine lv_iconst (v := 0) hx hb dX0_columnsWithout_0 (by decide) ?_
  refine lv_istore_n (lv' := [(3, .int 0), (0, .ref h0), (1, .int v1), (2, .int v2)]) hx hb dX0_columnsWithout_1 rfl hl (by decide) rfl (fun ls hl => ?_)
  refine lv_iconst (v := 0) hx hb dX0_columnsWithout_2 (by decide) ?_
  refine lv_istore (lv' := [(4, .int 0), (3, .int 0), (0, .ref h0), (1, .int v1), (2, .int v2)]) hx hb dX0_columnsWithout_3 hl (by decide) rfl (fun ls hl => ?_)
  exact L5  1100 0 0 h _ _ _ hP hD hS (lv_sub hl [2, 3, 4, 1, 0] rfl)

def m_X0_noteColumnsOf (size_ : Int32) (subjectOf_ : Nat → Int32) (columnOf_ : Nat → Int32) (columnsWith_ : Nat → Int32) (v1 : Int32) : Option ((Nat → Int32)) :=
  bd1 (m_X0_columnsWithout size_ subjectOf_ columnOf_ v1 (-1)) (fun r_1 => gd (inb v1 10) (some (upd columnsWith_ v1.toNatClampNeg r_1)))
abbrev rmX0_noteColumnsOf : Room := { frames := 1, cells := 0, slots := 0, locals := 24 }
set_option maxHeartbeats 4000000 in
set_option maxRecDepth 100000 in
theorem c_X0_noteColumnsOf (l : Launch) (dC : Nat → ClassId) (dI : Nat → Nat → Nat) (cyC cyI cyJ : ClassId) (h0 h0_barsOf h0_subjectOf h0_teacherOf h0_seatsOf h0_columnOf h0_columnsWith : Nat) (columnCount_ : Int32) (roomCount_ : Int32) (size_ : Int32) (subjectOf_ : Nat → Int32) (columnOf_ : Nat → Int32) (columnsWith_ : Nat → Int32) (v1 : Int32) (o0 : Nat → Int32) (h : m_X0_noteColumnsOf size_ subjectOf_ columnOf_ columnsWith_ v1 = some o0) : uMv l yX0_noteColumnsOf wsX0_noteColumnsOf rmX0_noteColumnsOf (dC, dI) [(cyC, .char), (cyI, .int), (cyJ, .long)] [.ref h0, .int v1] [(h0, .inr (0, [.int columnCount_, .int roomCount_, .int size_, .ref h0_barsOf, .ref h0_subjectOf, .ref h0_teacherOf, .ref h0_seatsOf, .ref h0_columnOf, .ref h0_columnsWith])), (h0_subjectOf, .inl (cyI, 16, .inl subjectOf_)), (h0_columnOf, .inl (cyI, 16, .inl columnOf_)), (h0_columnsWith, .inl (cyI, 10, .inl columnsWith_))] [(h0, .inr (0, [.int columnCount_, .int roomCount_, .int size_, .ref h0_barsOf, .ref h0_subjectOf, .ref h0_teacherOf, .ref h0_seatsOf, .ref h0_columnOf, .ref h0_columnsWith])), (h0_subjectOf, .inl (cyI, 16, .inl subjectOf_)), (h0_columnOf, .inl (cyI, 16, .inl columnOf_)), (h0_columnsWith, .inl (cyI, 10, .inl o0))] := by
  refine uMv.of (cc := cX0_noteColumnsOf) (maxL := 2) (by decide) rfl (Nat.le_of_ble_eq_true rfl) (fun p e s m args below meth c A ls Q hx hb hml hown hts hA hP hK hD hE hS hl hret => ?_)
  have hown : s.vm.findClass RX0 = some m.cls := hown
  have hl : lv_has ls 2 [(0, .ref h0), (1, .int v1)] := hl
  have hiX0 : ∀ w ∈ u_ws RX0 TX0 9, w ∈ wsX0_noteColumnsOf := fun _ h9 => List.mem_cons_of_mem _ (List.mem_append_right _ h9)
  unfold m_X0_noteColumnsOf at h
  refine lv_aload_n hx hb dX0_noteColumnsOf_0 rfl (lv_at hl 0 rfl) ?_
  refine va_get (D := (dC, dI)) (ci := 0) (v := .ref h0_columnsWith) (C := RX0) (T := TX0) (N := 9) hx hb hts hiX0 hown hK hP 0 rfl rfl 8 (by decide) (hts (.fieldLink RX0 37 "OptionLattice$Plan" "columnsWith" "[I") (by decide +kernel)) (fun _ h9 => h9) rfl dX0_noteColumnsOf_1 ?_
  refine lv_iload_n hx hb dX0_noteColumnsOf_4 rfl (lv_at hl 1 rfl) ?_
  refine lv_aload_n hx hb dX0_noteColumnsOf_5 rfl (lv_at hl 0 rfl) ?_
  refine lv_iload_n hx hb dX0_noteColumnsOf_6 rfl (lv_at hl 1 rfl) ?_
  refine lv_iconst (v := (-1)) hx hb dX0_noteColumnsOf_7 (by decide) ?_
  obtain ⟨r_1, hq, h⟩ := bd1_some h
  refine uV_i (b := h0) (As := [.int v1, .int (-1)]) (rest := [.int v1, .ref h0_columnsWith]) ⟨hx, hb, hml, hown, hts⟩ (c_X0_columnsWithout l dC dI cyC cyI cyJ h0 h0_barsOf h0_subjectOf h0_teacherOf h0_seatsOf h0_columnOf h0_columnsWith columnCount_ roomCount_ size_ subjectOf_ columnOf_ v1 (-1) r_1 hq) (cwV 2 hts gX0_noteColumnsOf_X0_columnsWithout rfl rfl rfl (by decide +kernel) ⟨Nat.le_of_ble_eq_true rfl, Nat.le_of_ble_eq_true rfl⟩) hK hE hA hP hD hS [0, 1, 2] rfl rfl rfl 0 0 rfl rfl rfl hl.1 rfl (Nat.le_of_ble_eq_true rfl) ⟨Nat.zero_le _, Nat.zero_le _⟩ dX0_noteColumnsOf_8 (fun H locs hP hD hS => ?_)
  have hP : va_P (dC, dI) vwCl [(h0, .inr (0, [.int columnCount_, .int roomCount_, .int size_, .ref h0_barsOf, .ref h0_subjectOf, .ref h0_teacherOf, .ref h0_seatsOf, .ref h0_columnOf, .ref h0_columnsWith])), (h0_subjectOf, .inl (cyI, 16, .inl subjectOf_)), (h0_columnOf, .inl (cyI, 16, .inl columnOf_)), (h0_columnsWith, .inl (cyI, 10, .inl columnsWith_))] H := hP
  have hD : va_D A [(h0, .inr (0, [.int columnCount_, .int roomCount_, .int size_, .ref h0_barsOf, .ref h0_subjectOf, .ref h0_teacherOf, .ref h0_seatsOf, .ref h0_columnOf, .ref h0_columnsWith])), (h0_subjectOf, .inl (cyI, 16, .inl subjectOf_)), (h0_columnOf, .inl (cyI, 16, .inl columnOf_)), (h0_columnsWith, .inl (cyI, 10, .inl columnsWith_))] := hD
  obtain ⟨g_, h⟩ := gd_some h
  refine va_iast hx hb hK hP hD hS 3 1 rfl rfl (inb_in g_) dX0_noteColumnsOf_11 (fun H locs hP hD hS => ?_)
  have hP : va_P (dC, dI) vwCl [(h0, .inr (0, [.int columnCount_, .int roomCount_, .int size_, .ref h0_barsOf, .ref h0_subjectOf, .ref h0_teacherOf, .ref h0_seatsOf, .ref h0_columnOf, .ref h0_columnsWith])), (h0_subjectOf, .inl (cyI, 16, .inl subjectOf_)), (h0_columnOf, .inl (cyI, 16, .inl columnOf_)), (h0_columnsWith, .inl (cyI, 10, .inl (upd columnsWith_ v1.toNatClampNeg r_1)))] H := hP
  have hD : va_D A [(h0, .inr (0, [.int columnCount_, .int roomCount_, .int size_, .ref h0_barsOf, .ref h0_subjectOf, .ref h0_teacherOf, .ref h0_seatsOf, .ref h0_columnOf, .ref h0_columnsWith])), (h0_subjectOf, .inl (cyI, 16, .inl subjectOf_)), (h0_columnOf, .inl (cyI, 16, .inl columnOf_)), (h0_columnsWith, .inl (cyI, 10, .inl (upd columnsWith_ v1.toNatClampNeg r_1)))] := hD
  have h : some (upd columnsWith_ v1.toNatClampNeg r_1) = some o0 := h
  have z0 := Option.some.inj h
  obtain rfl := z0
  exact hret _ _ _ _ hP hS dX0_noteColumnsOf_12

def m_X0_add (size_ : Int32) (subjectOf_ : Nat → Int32) (teacherOf_ : Nat → Int32) (seatsOf_ : Nat → Int32) (columnOf_ : Nat → Int32) (columnsWith_ : Nat → Int32) (v1 : Int32) (v2 : Int32) (v3 : Int32) (v4 : Int32) : Option (Int32 × (Nat → Int32) × (Nat → Int32) × (Nat → Int32) × (Nat → Int32) × (Nat → Int32)) :=
  (if 16 ≤ size_ then some (size_, subjectOf_, teacherOf_, seatsOf_, columnOf_, columnsWith_) else gd (inb size_ 16) (gd (inb size_ 16) (gd (inb size_ 16) (gd (inb size_ 16) (lt' (size_ + 1) (fun w_1 => bd1 (m_X0_noteColumnsOf w_1 (upd subjectOf_ size_.toNatClampNeg v1) (upd columnOf_ size_.toNatClampNeg v4) columnsWith_ v1) (fun columnsWith_2 => some (w_1, (upd subjectOf_ size_.toNatClampNeg v1), (upd teacherOf_ size_.toNatClampNeg v2), (upd seatsOf_ size_.toNatClampNeg v3), (upd columnOf_ size_.toNatClampNeg v4), columnsWith_2))))))))
abbrev rmX0_add : Room := { frames := 2, cells := 0, slots := 0, locals := 45 }
set_option maxHeartbeats 4000000 in
set_option maxRecDepth 100000 in
theorem c_X0_add (l : Launch) (dC : Nat → ClassId) (dI : Nat → Nat → Nat) (cyC cyI cyJ : ClassId) (h0 h0_barsOf h0_subjectOf h0_teacherOf h0_seatsOf h0_columnOf h0_columnsWith : Nat) (columnCount_ : Int32) (roomCount_ : Int32) (size_ : Int32) (subjectOf_ : Nat → Int32) (teacherOf_ : Nat → Int32) (seatsOf_ : Nat → Int32) (columnOf_ : Nat → Int32) (columnsWith_ : Nat → Int32) (v1 : Int32) (v2 : Int32) (v3 : Int32) (v4 : Int32) (o0 : Int32) (o1 : Nat → Int32) (o2 : Nat → Int32) (o3 : Nat → Int32) (o4 : Nat → Int32) (o5 : Nat → Int32) (h : m_X0_add size_ subjectOf_ teacherOf_ seatsOf_ columnOf_ columnsWith_ v1 v2 v3 v4 = some (o0, o1, o2, o3, o4, o5)) : uMv l yX0_add wsX0_add rmX0_add (dC, dI) [(cyC, .char), (cyI, .int), (cyJ, .long)] [.ref h0, .int v1, .int v2, .int v3, .int v4] [(h0, .inr (0, [.int columnCount_, .int roomCount_, .int size_, .ref h0_barsOf, .ref h0_subjectOf, .ref h0_teacherOf, .ref h0_seatsOf, .ref h0_columnOf, .ref h0_columnsWith])), (h0_subjectOf, .inl (cyI, 16, .inl subjectOf_)), (h0_teacherOf, .inl (cyI, 16, .inl teacherOf_)), (h0_seatsOf, .inl (cyI, 16, .inl seatsOf_)), (h0_columnOf, .inl (cyI, 16, .inl columnOf_)), (h0_columnsWith, .inl (cyI, 10, .inl columnsWith_))] [(h0, .inr (0, [.int columnCount_, .int roomCount_, .int o0, .ref h0_barsOf, .ref h0_subjectOf, .ref h0_teacherOf, .ref h0_seatsOf, .ref h0_columnOf, .ref h0_columnsWith])), (h0_subjectOf, .inl (cyI, 16, .inl o1)), (h0_teacherOf, .inl (cyI, 16, .inl o2)), (h0_seatsOf, .inl (cyI, 16, .inl o3)), (h0_columnOf, .inl (cyI, 16, .inl o4)), (h0_columnsWith, .inl (cyI, 10, .inl o5))] := by
  refine uMv.of (cc := cX0_add) (maxL := 5) (by decide) rfl (Nat.le_of_ble_eq_true rfl) (fun p e s m args below meth c A ls Q hx hb hml hown hts hA hP hK hD hE hS hl hret => ?_)
  have hown : s.vm.findClass RX0 = some m.cls := hown
  have hl : lv_has ls 5 [(0, .ref h0), (1, .int v1), (2, .int v2), (3, .int v3), (4, .int v4)] := hl
  have hiX0 : ∀ w ∈ u_ws RX0 TX0 9, w ∈ wsX0_add := fun _ h9 => List.mem_cons_of_mem _ (List.mem_append_right _ h9)
  unfold m_X0_add at h
  refine lv_aload_n hx hb dX0_add_0 rfl (lv_at hl 0 rfl) ?_
  refine va_get (D := (dC, dI)) (ci := 0) (v := .int size_) (C := RX0) (T := TX0) (N := 9) hx hb hts hiX0 hown hK hP 0 rfl rfl 2 (by decide) (hts (.fieldLink RX0 18 "OptionLattice$Plan" "size" "I") (by decide +kernel)) (fun _ h9 => h9) rfl dX0_add_1 ?_
  refine lv_bipush (v := 16) hx hb dX0_add_4 (by decide) ?_
  refine lv_icmp_ge (tgt := 65) hx hb dX0_add_6 (by decide) (fun c_ => ?_) (fun c_ => ?_)
  · have h := (if_pos c_).symm.trans h
    have h : some (size_, subjectOf_, teacherOf_, seatsOf_, columnOf_, columnsWith_) = some (o0, o1, o2, o3, o4, o5) := h
    have z0 := Option.some.inj h
    obtain ⟨rfl, z1⟩ := Prod.mk.inj z0
    obtain ⟨rfl, z2⟩ := Prod.mk.inj z1
    obtain ⟨rfl, z3⟩ := Prod.mk.inj z2
    obtain ⟨rfl, z4⟩ := Prod.mk.inj z3
    obtain ⟨rfl, z5⟩ := Prod.mk.inj z4
    obtain rfl := z5
    exact hret _ _ _ _ hP hS dX0_add_65
  · have h := (if_neg c_).symm.trans h
    refine lv_aload_n hx hb dX0_add_9 rfl (lv_at hl 0 rfl) ?_
    refine va_get (D := (dC, dI)) (ci := 0) (v := .ref h0_subjectOf) (C := RX0) (T := TX0) (N := 9) hx hb hts hiX0 hown hK hP 0 rfl rfl 4 (by decide) (hts (.fieldLink RX0 25 "OptionLattice$Plan" "subjectOf" "[I") (by decide +kernel)) (fun _ h9 => h9) rfl dX0_add_10 ?_
    refine lv_aload_n hx hb dX0_add_13 rfl (lv_at hl 0 rfl) ?_
    refine va_get (D := (dC, dI)) (ci := 0) (v := .int size_) (C := RX0) (T := TX0) (N := 9) hx hb hts hiX0 hown hK hP 0 rfl rfl 2 (by decide) (hts (.fieldLink RX0 18 "OptionLattice$Plan" "size" "I") (by decide +kernel)) (fun _ h9 => h9) rfl dX0_add_14 ?_
    refine lv_iload_n hx hb dX0_add_17 rfl (lv_at hl 1 rfl) ?_
    obtain ⟨g_, h⟩ := gd_some h
    refine va_iast hx hb hK hP hD hS 1 1 rfl rfl (inb_in g_) dX0_add_18 (fun H locs hP hD hS => ?_)
    have hP : va_P (dC, dI) vwCl [(h0, .inr (0, [.int columnCount_, .int roomCount_, .int size_, .ref h0_barsOf, .ref h0_subjectOf, .ref h0_teacherOf, .ref h0_seatsOf, .ref h0_columnOf, .ref h0_columnsWith])), (h0_subjectOf, .inl (cyI, 16, .inl (upd subjectOf_ size_.toNatClampNeg v1))), (h0_teacherOf, .inl (cyI, 16, .inl teacherOf_)), (h0_seatsOf, .inl (cyI, 16, .inl seatsOf_)), (h0_columnOf, .inl (cyI, 16, .inl columnOf_)), (h0_columnsWith, .inl (cyI, 10, .inl columnsWith_))] H := hP
    have hD : va_D A [(h0, .inr (0, [.int columnCount_, .int roomCount_, .int size_, .ref h0_barsOf, .ref h0_subjectOf, .ref h0_teacherOf, .ref h0_seatsOf, .ref h0_columnOf, .ref h0_columnsWith])), (h0_subjectOf, .inl (cyI, 16, .inl (upd subjectOf_ size_.toNatClampNeg v1))), (h0_teacherOf, .inl (cyI, 16, .inl teacherOf_)), (h0_seatsOf, .inl (cyI, 16, .inl seatsOf_)), (h0_columnOf, .inl (cyI, 16, .inl columnOf_)), (h0_columnsWith, .inl (cyI, 10, .inl columnsWith_))] := hD
    refine lv_aload_n hx hb dX0_add_19 rfl (lv_at hl 0 rfl) ?_
    refine va_get (D := (dC, dI)) (ci := 0) (v := .ref h0_teacherOf) (C := RX0) (T := TX0) (N := 9) hx hb hts hiX0 hown hK hP 0 rfl rfl 5 (by decide) (hts (.fieldLink RX0 28 "OptionLattice$Plan" "teacherOf" "[I") (by decide +kernel)) (fun _ h9 => h9) rfl dX0_add_20 ?_
    refine lv_aload_n hx hb dX0_add_23 rfl (lv_at hl 0 rfl) ?_
    refine va_get (D := (dC, dI)) (ci := 0) (v := .int size_) (C := RX0) (T := TX0) (N := 9) hx hb hts hiX0 hown hK hP 0 rfl rfl 2 (by decide) (hts (.fieldLink RX0 18 "OptionLattice$Plan" "size" "I") (by decide +kernel)) (fun _ h9 => h9) rfl dX0_add_24 ?_
    refine lv_iload_n hx hb dX0_add_27 rfl (lv_at hl 2 rfl) ?_
    obtain ⟨g_, h⟩ := gd_some h
    refine va_iast hx hb hK hP hD hS 2 1 rfl rfl (inb_in g_) dX0_add_28 (fun H locs hP hD hS => ?_)
    have hP : va_P (dC, dI) vwCl [(h0, .inr (0, [.int columnCount_, .int roomCount_, .int size_, .ref h0_barsOf, .ref h0_subjectOf, .ref h0_teacherOf, .ref h0_seatsOf, .ref h0_columnOf, .ref h0_columnsWith])), (h0_subjectOf, .inl (cyI, 16, .inl (upd subjectOf_ size_.toNatClampNeg v1))), (h0_teacherOf, .inl (cyI, 16, .inl (upd teacherOf_ size_.toNatClampNeg v2))), (h0_seatsOf, .inl (cyI, 16, .inl seatsOf_)), (h0_columnOf, .inl (cyI, 16, .inl columnOf_)), (h0_columnsWith, .inl (cyI, 10, .inl columnsWith_))] H := hP
    have hD : va_D A [(h0, .inr (0, [.int columnCount_, .int roomCount_, .int size_, .ref h0_barsOf, .ref h0_subjectOf, .ref h0_teacherOf, .ref h0_seatsOf, .ref h0_columnOf, .ref h0_columnsWith])), (h0_subjectOf, .inl (cyI, 16, .inl (upd subjectOf_ size_.toNatClampNeg v1))), (h0_teacherOf, .inl (cyI, 16, .inl (upd teacherOf_ size_.toNatClampNeg v2))), (h0_seatsOf, .inl (cyI, 16, .inl seatsOf_)), (h0_columnOf, .inl (cyI, 16, .inl columnOf_)), (h0_columnsWith, .inl (cyI, 10, .inl columnsWith_))] := hD
    refine lv_aload_n hx hb dX0_add_29 rfl (lv_at hl 0 rfl) ?_
    refine va_get (D := (dC, dI)) (ci := 0) (v := .ref h0_seatsOf) (C := RX0) (T := TX0) (N := 9) hx hb hts hiX0 hown hK hP 0 rfl rfl 6 (by decide) (hts (.fieldLink RX0 31 "OptionLattice$Plan" "seatsOf" "[I") (by decide +kernel)) (fun _ h9 => h9) rfl dX0_add_30 ?_
    refine lv_aload_n hx hb dX0_add_33 rfl (lv_at hl 0 rfl) ?_
    refine va_get (D := (dC, dI)) (ci := 0) (v := .int size_) (C := RX0) (T := TX0) (N := 9) hx hb hts hiX0 hown hK hP 0 rfl rfl 2 (by decide) (hts (.fieldLink RX0 18 "OptionLattice$Plan" "size" "I") (by decide +kernel)) (fun _ h9 => h9) rfl dX0_add_34 ?_
    refine lv_iload_n hx hb dX0_add_37 rfl (lv_at hl 3 rfl) ?_
    obtain ⟨g_, h⟩ := gd_some h
    refine va_iast hx hb hK hP hD hS 3 1 rfl rfl (inb_in g_) dX0_add_38 (fun H locs hP hD hS => ?_)
    have hP : va_P (dC, dI) vwCl [(h0, .inr (0, [.int columnCount_, .int roomCount_, .int size_, .ref h0_barsOf, .ref h0_subjectOf, .ref h0_teacherOf, .ref h0_seatsOf, .ref h0_columnOf, .ref h0_columnsWith])), (h0_subjectOf, .inl (cyI, 16, .inl (upd subjectOf_ size_.toNatClampNeg v1))), (h0_teacherOf, .inl (cyI, 16, .inl (upd teacherOf_ size_.toNatClampNeg v2))), (h0_seatsOf, .inl (cyI, 16, .inl (upd seatsOf_ size_.toNatClampNeg v3))), (h0_columnOf, .inl (cyI, 16, .inl columnOf_)), (h0_columnsWith, .inl (cyI, 10, .inl columnsWith_))] H := hP
    have hD : va_D A [(h0, .inr (0, [.int columnCount_, .int roomCount_, .int size_, .ref h0_barsOf, .ref h0_subjectOf, .ref h0_teacherOf, .ref h0_seatsOf, .ref h0_columnOf, .ref h0_columnsWith])), (h0_subjectOf, .inl (cyI, 16, .inl (upd subjectOf_ size_.toNatClampNeg v1))), (h0_teacherOf, .inl (cyI, 16, .inl (upd teacherOf_ size_.toNatClampNeg v2))), (h0_seatsOf, .inl (cyI, 16, .inl (upd seatsOf_ size_.toNatClampNeg v3))), (h0_columnOf, .inl (cyI, 16, .inl columnOf_)), (h0_columnsWith, .inl (cyI, 10, .inl columnsWith_))] := hD
    refine lv_aload_n hx hb dX0_add_39 rfl (lv_at hl 0 rfl) ?_
    refine va_get (D := (dC, dI)) (ci := 0) (v := .ref h0_columnOf) (C := RX0) (T := TX0) (N := 9) hx hb hts hiX0 hown hK hP 0 rfl rfl 7 (by decide) (hts (.fieldLink RX0 34 "OptionLattice$Plan" "columnOf" "[I") (by decide +kernel)) (fun _ h9 => h9) rfl dX0_add_40 ?_
    refine lv_aload_n hx hb dX0_add_43 rfl (lv_at hl 0 rfl) ?_
    refine va_get (D := (dC, dI)) (ci := 0) (v := .int size_) (C := RX0) (T := TX0) (N := 9) hx hb hts hiX0 hown hK hP 0 rfl rfl 2 (by decide) (hts (.fieldLink RX0 18 "OptionLattice$Plan" "size" "I") (by decide +kernel)) (fun _ h9 => h9) rfl dX0_add_44 ?_
    refine lv_iload hx hb dX0_add_47 (lv_at hl 4 rfl) ?_
    obtain ⟨g_, h⟩ := gd_some h
    refine va_iast hx hb hK hP hD hS 4 1 rfl rfl (inb_in g_) dX0_add_49 (fun H locs hP hD hS => ?_)
    have hP : va_P (dC, dI) vwCl [(h0, .inr (0, [.int columnCount_, .int roomCount_, .int size_, .ref h0_barsOf, .ref h0_subjectOf, .ref h0_teacherOf, .ref h0_seatsOf, .ref h0_columnOf, .ref h0_columnsWith])), (h0_subjectOf, .inl (cyI, 16, .inl (upd subjectOf_ size_.toNatClampNeg v1))), (h0_teacherOf, .inl (cyI, 16, .inl (upd teacherOf_ size_.toNatClampNeg v2))), (h0_seatsOf, .inl (cyI, 16, .inl (upd seatsOf_ size_.toNatClampNeg v3))), (h0_columnOf, .inl (cyI, 16, .inl (upd columnOf_ size_.toNatClampNeg v4))), (h0_columnsWith, .inl (cyI, 10, .inl columnsWith_))] H := hP
    have hD : va_D A [(h0, .inr (0, [.int columnCount_, .int roomCount_, .int size_, .ref h0_barsOf, .ref h0_subjectOf, .ref h0_teacherOf, .ref h0_seatsOf, .ref h0_columnOf, .ref h0_columnsWith])), (h0_subjectOf, .inl (cyI, 16, .inl (upd subjectOf_ size_.toNatClampNeg v1))), (h0_teacherOf, .inl (cyI, 16, .inl (upd teacherOf_ size_.toNatClampNeg v2))), (h0_seatsOf, .inl (cyI, 16, .inl (upd seatsOf_ size_.toNatClampNeg v3))), (h0_columnOf, .inl (cyI, 16, .inl (upd columnOf_ size_.toNatClampNeg v4))), (h0_columnsWith, .inl (cyI, 10, .inl columnsWith_))] := hD
    refine lv_aload_n hx hb dX0_add_50 rfl (lv_at hl 0 rfl) ?_
    refine lv_dup hx hb dX0_add_51 rfl ?_
    refine va_get (D := (dC, dI)) (ci := 0) (v := .int size_) (C := RX0) (T := TX0) (N := 9) hx hb hts hiX0 hown hK hP 0 rfl rfl 2 (by decide) (hts (.fieldLink RX0 18 "OptionLattice$Plan" "size" "I") (by decide +kernel)) (fun _ h9 => h9) rfl dX0_add_52 ?_
    refine lv_iconst (v := 1) hx hb dX0_add_55 (by decide) ?_
    refine lv_iadd hx hb dX0_add_56 ?_
    refine lv_topi (fun w_1 e_w_1 => ?_)
    have h := lt_use e_w_1 h
    refine va_put (D := (dC, dI)) (ci := 0) (v := .int w_1) (ty := .int) (C := RX0) (T := TX0) (N := 9) hx hb hts hiX0 tyX0 tyX0_ok nmX0 hown hK hP hD hS 0 rfl rfl 2 (by decide) (hts (.fieldLink RX0 18 "OptionLattice$Plan" "size" "I") (by decide +kernel)) (fun _ h9 => h9) rfl (by decide +kernel) rfl rfl (Nat.le_of_ble_eq_true rfl) dX0_add_57 (fun H locs hP hD hS => ?_)
    have hP : va_P (dC, dI) vwCl [(h0, .inr (0, [.int columnCount_, .int roomCount_, .int w_1, .ref h0_barsOf, .ref h0_subjectOf, .ref h0_teacherOf, .ref h0_seatsOf, .ref h0_columnOf, .ref h0_columnsWith])), (h0_subjectOf, .inl (cyI, 16, .inl (upd subjectOf_ size_.toNatClampNeg v1))), (h0_teacherOf, .inl (cyI, 16, .inl (upd teacherOf_ size_.toNatClampNeg v2))), (h0_seatsOf, .inl (cyI, 16, .inl (upd seatsOf_ size_.toNatClampNeg v3))), (h0_columnOf, .inl (cyI, 16, .inl (upd columnOf_ size_.toNatClampNeg v4))), (h0_columnsWith, .inl (cyI, 10, .inl columnsWith_))] H := hP
    have hD : va_D A [(h0, .inr (0, [.int columnCount_, .int roomCount_, .int w_1, .ref h0_barsOf, .ref h0_subjectOf, .ref h0_teacherOf, .ref h0_seatsOf, .ref h0_columnOf, .ref h0_columnsWith])), (h0_subjectOf, .inl (cyI, 16, .inl (upd subjectOf_ size_.toNatClampNeg v1))), (h0_teacherOf, .inl (cyI, 16, .inl (upd teacherOf_ size_.toNatClampNeg v2))), (h0_seatsOf, .inl (cyI, 16, .inl (upd seatsOf_ size_.toNatClampNeg v3))), (h0_columnOf, .inl (cyI, 16, .inl (upd columnOf_ size_.toNatClampNeg v4))), (h0_columnsWith, .inl (cyI, 10, .inl columnsWith_))] := hD
    refine lv_aload_n hx hb dX0_add_60 rfl (lv_at hl 0 rfl) ?_
    refine lv_iload_n hx hb dX0_add_61 rfl (lv_at hl 1 rfl) ?_
    obtain ⟨columnsWith_2, hq, h⟩ := bd1_some h
    refine uV_v (b := h0) (As := [.int v1]) (rest := []) ⟨hx, hb, hml, hown, hts⟩ (c_X0_noteColumnsOf l dC dI cyC cyI cyJ h0 h0_barsOf h0_subjectOf h0_teacherOf h0_seatsOf h0_columnOf h0_columnsWith columnCount_ roomCount_ w_1 (upd subjectOf_ size_.toNatClampNeg v1) (upd columnOf_ size_.toNatClampNeg v4) columnsWith_ v1 columnsWith_2 hq) (cwV 1 hts gX0_add_X0_noteColumnsOf rfl rfl rfl (by decide +kernel) ⟨Nat.le_of_ble_eq_true rfl, Nat.le_of_ble_eq_true rfl⟩) hK hE hA hP hD hS [0, 1, 4, 5] rfl rfl rfl 0 0 rfl rfl rfl hl.1 rfl (Nat.le_of_ble_eq_true rfl) ⟨Nat.zero_le _, Nat.zero_le _⟩ dX0_add_62 (fun H locs hP hD hS => ?_)
    have hP : va_P (dC, dI) vwCl [(h0, .inr (0, [.int columnCount_, .int roomCount_, .int w_1, .ref h0_barsOf, .ref h0_subjectOf, .ref h0_teacherOf, .ref h0_seatsOf, .ref h0_columnOf, .ref h0_columnsWith])), (h0_subjectOf, .inl (cyI, 16, .inl (upd subjectOf_ size_.toNatClampNeg v1))), (h0_teacherOf, .inl (cyI, 16, .inl (upd teacherOf_ size_.toNatClampNeg v2))), (h0_seatsOf, .inl (cyI, 16, .inl (upd seatsOf_ size_.toNatClampNeg v3))), (h0_columnOf, .inl (cyI, 16, .inl (upd columnOf_ size_.toNatClampNeg v4))), (h0_columnsWith, .inl (cyI, 10, .inl columnsWith_2))] H := hP
    have hD : va_D A [(h0, .inr (0, [.int columnCount_, .int roomCount_, .int w_1, .ref h0_barsOf, .ref h0_subjectOf, .ref h0_teacherOf, .ref h0_seatsOf, .ref h0_columnOf, .ref h0_columnsWith])), (h0_subjectOf, .inl (cyI, 16, .inl (upd subjectOf_ size_.toNatClampNeg v1))), (h0_teacherOf, .inl (cyI, 16, .inl (upd teacherOf_ size_.toNatClampNeg v2))), (h0_seatsOf, .inl (cyI, 16, .inl (upd seatsOf_ size_.toNatClampNeg v3))), (h0_columnOf, .inl (cyI, 16, .inl (upd columnOf_ size_.toNatClampNeg v4))), (h0_columnsWith, .inl (cyI, 10, .inl columnsWith_2))] := hD
    have h : some (w_1, (upd subjectOf_ size_.toNatClampNeg v1), (upd teacherOf_ size_.toNatClampNeg v2), (upd seatsOf_ size_.toNatClampNeg v3), (upd columnOf_ size_.toNatClampNeg v4), columnsWith_2) = some (o0, o1, o2, o3, o4, o5) := h
    have z0 := Option.some.inj h
    obtain ⟨rfl, z1⟩ := Prod.mk.inj z0
    obtain ⟨rfl, z2⟩ := Prod.mk.inj z1
    obtain ⟨rfl, z3⟩ := Prod.mk.inj z2
    obtain ⟨rfl, z4⟩ := Prod.mk.inj z3
    obtain ⟨rfl, z5⟩ := Prod.mk.inj z4
    obtain rfl := z5
    exact hret _ _ _ _ hP hS dX0_add_65

def m_X0_remove_89 (size_ : Int32) (subjectOf_ : Nat → Int32) (teacherOf_ : Nat → Int32) (seatsOf_ : Nat → Int32) (columnOf_ : Nat → Int32) (columnsWith_ : Nat → Int32) (v2 : Int32) : Option (Int32 × (Nat → Int32) × (Nat → Int32) × (Nat → Int32) × (Nat → Int32) × (Nat → Int32)) :=
  bd1 (m_X0_noteColumnsOf size_ subjectOf_ columnOf_ columnsWith_ v2) (fun columnsWith_1 => some (size_, subjectOf_, teacherOf_, seatsOf_, columnOf_, columnsWith_1))
def m_X0_remove_19 (size_ : Int32) (columnsWith_ : Nat → Int32) (v2 : Int32) (rec19 : Int32 → (Nat → Int32) → (Nat → Int32) → (Nat → Int32) → (Nat → Int32) → Option (Int32 × (Nat → Int32) × (Nat → Int32) × (Nat → Int32) × (Nat → Int32) × (Nat → Int32))) : Int32 → (Nat → Int32) → (Nat → Int32) → (Nat → Int32) → (Nat → Int32) → Option (Int32 × (Nat → Int32) × (Nat → Int32) × (Nat → Int32) × (Nat → Int32) × (Nat → Int32)) := fun v3 subjectOf_ teacherOf_ seatsOf_ columnOf_ =>
  (if size_ ≤ v3 then m_X0_remove_89 size_ subjectOf_ teacherOf_ seatsOf_ columnOf_ columnsWith_ v2 else gd (inb (v3 + 1) 16) (gd (inb v3 16) (gd (inb (v3 + 1) 16) (gd (inb v3 16) (gd (inb (v3 + 1) 16) (gd (inb v3 16) (gd (inb (v3 + 1) 16) (gd (inb v3 16) (lt' (v3 + 1) (fun v3_2 => rec19 v3_2 (upd subjectOf_ v3.toNatClampNeg (subjectOf_ ((v3 + 1)).toNatClampNeg)) (upd teacherOf_ v3.toNatClampNeg (teacherOf_ ((v3 + 1)).toNatClampNeg)) (upd seatsOf_ v3.toNatClampNeg (seatsOf_ ((v3 + 1)).toNatClampNeg)) (upd columnOf_ v3.toNatClampNeg (columnOf_ ((v3 + 1)).toNatClampNeg))))))))))))
def m_X0_remove (size_ : Int32) (subjectOf_ : Nat → Int32) (teacherOf_ : Nat → Int32) (seatsOf_ : Nat → Int32) (columnOf_ : Nat → Int32) (columnsWith_ : Nat → Int32) (v1 : Int32) : Option (Int32 × (Nat → Int32) × (Nat → Int32) × (Nat → Int32) × (Nat → Int32) × (Nat → Int32)) :=
  gd (inb v1 16) (lt' (subjectOf_ v1.toNatClampNeg) (fun v2_3 => lt' (size_ - 1) (fun w_4 => it5 (m_X0_remove_19 w_4 columnsWith_ v2_3) 1100 v1 subjectOf_ teacherOf_ seatsOf_ columnOf_)))
abbrev rmX0_remove : Room := { frames := 2, cells := 0, slots := 0, locals := 45 }
set_option maxHeartbeats 4000000 in
set_option maxRecDepth 100000 in
theorem c_X0_remove (l : Launch) (dC : Nat → ClassId) (dI : Nat → Nat → Nat) (cyC cyI cyJ : ClassId) (h0 h0_barsOf h0_subjectOf h0_teacherOf h0_seatsOf h0_columnOf h0_columnsWith : Nat) (columnCount_ : Int32) (roomCount_ : Int32) (size_ : Int32) (subjectOf_ : Nat → Int32) (teacherOf_ : Nat → Int32) (seatsOf_ : Nat → Int32) (columnOf_ : Nat → Int32) (columnsWith_ : Nat → Int32) (v1 : Int32) (o0 : Int32) (o1 : Nat → Int32) (o2 : Nat → Int32) (o3 : Nat → Int32) (o4 : Nat → Int32) (o5 : Nat → Int32) (h : m_X0_remove size_ subjectOf_ teacherOf_ seatsOf_ columnOf_ columnsWith_ v1 = some (o0, o1, o2, o3, o4, o5)) : uMv l yX0_remove wsX0_remove rmX0_remove (dC, dI) [(cyC, .char), (cyI, .int), (cyJ, .long)] [.ref h0, .int v1] [(h0, .inr (0, [.int columnCount_, .int roomCount_, .int size_, .ref h0_barsOf, .ref h0_subjectOf, .ref h0_teacherOf, .ref h0_seatsOf, .ref h0_columnOf, .ref h0_columnsWith])), (h0_subjectOf, .inl (cyI, 16, .inl subjectOf_)), (h0_teacherOf, .inl (cyI, 16, .inl teacherOf_)), (h0_seatsOf, .inl (cyI, 16, .inl seatsOf_)), (h0_columnOf, .inl (cyI, 16, .inl columnOf_)), (h0_columnsWith, .inl (cyI, 10, .inl columnsWith_))] [(h0, .inr (0, [.int columnCount_, .int roomCount_, .int o0, .ref h0_barsOf, .ref h0_subjectOf, .ref h0_teacherOf, .ref h0_seatsOf, .ref h0_columnOf, .ref h0_columnsWith])), (h0_subjectOf, .inl (cyI, 16, .inl o1)), (h0_teacherOf, .inl (cyI, 16, .inl o2)), (h0_seatsOf, .inl (cyI, 16, .inl o3)), (h0_columnOf, .inl (cyI, 16, .inl o4)), (h0_columnsWith, .inl (cyI, 10, .inl o5))] := by
  refine uMv.of (cc := cX0_remove) (maxL := 4) (by decide) rfl (Nat.le_of_ble_eq_true rfl) (fun p e s m args below meth c A ls Q hx hb hml hown hts hA hP hK hD hE hS hl hret => ?_)
  have hown : s.vm.findClass RX0 = some m.cls := hown
  have hl : lv_has ls 4 [(0, .ref h0), (1, .int v1)] := hl
  have hiX0 : ∀ w ∈ u_ws RX0 TX0 9, w ∈ wsX0_remove := fun _ h9 => List.mem_cons_of_mem _ (List.mem_append_right _ h9)
  have J89 : ∀ (v2 : Int32), ∀ (size_ : Int32), ∀ (subjectOf_ : Nat → Int32), ∀ (teacherOf_ : Nat → Int32), ∀ (seatsOf_ : Nat → Int32), ∀ (columnOf_ : Nat → Int32), m_X0_remove_89 size_ subjectOf_ teacherOf_ seatsOf_ columnOf_ columnsWith_ v2 = some (o0, o1, o2, o3, o4, o5) → ∀ (H : Heap) (locs : List Loc) (ls : Array Slot), va_P (dC, dI) vwCl [(h0, .inr (0, [.int columnCount_, .int roomCount_, .int size_, .ref h0_barsOf, .ref h0_subjectOf, .ref h0_teacherOf, .ref h0_seatsOf, .ref h0_columnOf, .ref h0_columnsWith])), (h0_subjectOf, .inl (cyI, 16, .inl subjectOf_)), (h0_teacherOf, .inl (cyI, 16, .inl teacherOf_)), (h0_seatsOf, .inl (cyI, 16, .inl seatsOf_)), (h0_columnOf, .inl (cyI, 16, .inl columnOf_)), (h0_columnsWith, .inl (cyI, 10, .inl columnsWith_))] H → va_D A [(h0, .inr (0, [.int columnCount_, .int roomCount_, .int size_, .ref h0_barsOf, .ref h0_subjectOf, .ref h0_teacherOf, .ref h0_seatsOf, .ref h0_columnOf, .ref h0_columnsWith])), (h0_subjectOf, .inl (cyI, 16, .inl subjectOf_)), (h0_teacherOf, .inl (cyI, 16, .inl teacherOf_)), (h0_seatsOf, .inl (cyI, 16, .inl seatsOf_)), (h0_columnOf, .inl (cyI, 16, .inl columnOf_)), (h0_columnsWith, .inl (cyI, 10, .inl columnsWith_))] → va_S A s.heap H locs → lv_has ls 4 [(0, .ref h0), (2, .int v2)] → W p l e rmX0_remove s m args below meth c H locs 0 0 Q (F0 m 89 ls []) := by
    intro v2 size_ subjectOf_ teacherOf_ seatsOf_ columnOf_ h H locs ls hP hD hS hl
    unfold m_X0_remove_89 at h
    refine lv_aload_n hx hb dX0_remove_89 rfl (lv_at hl 0 rfl) ?_
    refine lv_iload_n hx hb dX0_remove_90 rfl (lv_at hl 1 rfl) ?_
    obtain ⟨columnsWith_1, hq, h⟩ := bd1_some h
    refine uV_v (b := h0) (As := [.int v2]) (rest := []) ⟨hx, hb, hml, hown, hts⟩ (c_X0_noteColumnsOf l dC dI cyC cyI cyJ h0 h0_barsOf h0_subjectOf h0_teacherOf h0_seatsOf h0_columnOf h0_columnsWith columnCount_ roomCount_ size_ subjectOf_ columnOf_ columnsWith_ v2 columnsWith_1 hq) (cwV 1 hts gX0_remove_X0_noteColumnsOf rfl rfl rfl (by decide +kernel) ⟨Nat.le_of_ble_eq_true rfl, Nat.le_of_ble_eq_true rfl⟩) hK hE hA hP hD hS [0, 1, 4, 5] rfl rfl rfl 0 0 rfl rfl rfl hl.1 rfl (Nat.le_of_ble_eq_true rfl) ⟨Nat.zero_le _, Nat.zero_le _⟩ dX0_remove_91 (fun H locs hP hD hS => ?_)
    have hP : va_P (dC, dI) vwCl [(h0, .inr (0, [.int columnCount_, .int roomCount_, .int size_, .ref h0_barsOf, .ref h0_subjectOf, .ref h0_teacherOf, .ref h0_seatsOf, .ref h0_columnOf, .ref h0_columnsWith])), (h0_subjectOf, .inl (cyI, 16, .inl subjectOf_)), (h0_teacherOf, .inl (cyI, 16, .inl teacherOf_)), (h0_seatsOf, .inl (cyI, 16, .inl seatsOf_)), (h0_columnOf, .inl (cyI, 16, .inl columnOf_)), (h0_columnsWith, .inl (cyI, 10, .inl columnsWith_1))] H := hP
    have hD : va_D A [(h0, .inr (0, [.int columnCount_, .int roomCount_, .int size_, .ref h0_barsOf, .ref h0_subjectOf, .ref h0_teacherOf, .ref h0_seatsOf, .ref h0_columnOf, .ref h0_columnsWith])), (h0_subjectOf, .inl (cyI, 16, .inl subjectOf_)), (h0_teacherOf, .inl (cyI, 16, .inl teacherOf_)), (h0_seatsOf, .inl (cyI, 16, .inl seatsOf_)), (h0_columnOf, .inl (cyI, 16, .inl columnOf_)), (h0_columnsWith, .inl (cyI, 10, .inl columnsWith_1))] := hD
    have h : some (size_, subjectOf_, teacherOf_, seatsOf_, columnOf_, columnsWith_1) = some (o0, o1, o2, o3, o4, o5) := h
    have z0 := Option.some.inj h
    obtain ⟨rfl, z1⟩ := Prod.mk.inj z0
    obtain ⟨rfl, z2⟩ := Prod.mk.inj z1
    obtain ⟨rfl, z3⟩ := Prod.mk.inj z2
    obtain ⟨rfl, z4⟩ := Prod.mk.inj z3
    obtain ⟨rfl, z5⟩ := Prod.mk.inj z4
    obtain rfl := z5
    exact hret _ _ _ _ hP hS dX0_remove_94
  have L19 : ∀ (v2 : Int32), ∀ (size_ : Int32), ∀ (n19 : Nat), ∀ (v3 : Int32), ∀ (subjectOf_ : Nat → Int32), ∀ (teacherOf_ : Nat → Int32), ∀ (seatsOf_ : Nat → Int32), ∀ (columnOf_ : Nat → Int32), it5 (m_X0_remove_19 size_ columnsWith_ v2) n19 v3 subjectOf_ teacherOf_ seatsOf_ columnOf_ = some (o0, o1, o2, o3, o4, o5) → ∀ (H : Heap) (locs : List Loc) (ls : Array Slot), va_P (dC, dI) vwCl [(h0, .inr (0, [.int columnCount_, .int roomCount_, .int size_, .ref h0_barsOf, .ref h0_subjectOf, .ref h0_teacherOf, .ref h0_seatsOf, .ref h0_columnOf, .ref h0_columnsWith])), (h0_subjectOf, .inl (cyI, 16, .inl subjectOf_)), (h0_teacherOf, .inl (cyI, 16, .inl teacherOf_)), (h0_seatsOf, .inl (cyI, 16, .inl seatsOf_)), (h0_columnOf, .inl (cyI, 16, .inl columnOf_)), (h0_columnsWith, .inl (cyI, 10, .inl columnsWith_))] H → va_D A [(h0, .inr (0, [.int columnCount_, .int roomCount_, .int size_, .ref h0_barsOf, .ref h0_subjectOf, .ref h0_teacherOf, .ref h0_seatsOf, .ref h0_columnOf, .ref h0_columnsWith])), (h0_subjectOf, .inl (cyI, 16, .inl subjectOf_)), (h0_teacherOf, .inl (cyI, 16, .inl teacherOf_)), (h0_seatsOf, .inl (cyI, 16, .inl seatsOf_)), (h0_columnOf, .inl (cyI, 16, .inl columnOf_)), (h0_columnsWith, .inl (cyI, 10, .inl columnsWith_))] → va_S A s.heap H locs → lv_has ls 4 [(0, .ref h0), (2, .int v2), (3, .int v3)] → W p l e rmX0_remove s m args below meth c H locs 0 0 Q (F0 m 19 ls []) := by
    intro v2 size_ n19
    induction n19 with
    | zero => intro v3 subjectOf_ teacherOf_ seatsOf_ columnOf_ h; exact absurd h (fun z => it5_z z)
    | succ n19 ih19 =>
      intro v3 subjectOf_ teacherOf_ seatsOf_ columnOf_ h H locs ls hP hD hS hl
      have h : m_X0_remove_19 size_ columnsWith_ v2 (it5 (m_X0_remove_19 size_ columnsWith_ v2) n19) v3 subjectOf_ teacherOf_ seatsOf_ columnOf_ = some (o0, o1, o2, o3, o4, o5) := h
      unfold m_X0_remove_19 at h
      refine lv_iload_n hx hb dX0_remove_19 rfl (lv_at hl 2 rfl) ?_
      refine lv_aload_n hx hb dX0_remove_20 rfl (lv_at hl 0 rfl) ?_
      refine va_get (D := (dC, dI)) (ci := 0) (v := .int size_) (C := RX0) (T := TX0) (N := 9) hx hb hts hiX0 hown hK hP 0 rfl rfl 2 (by decide) (hts (.fieldLink RX0 18 "OptionLattice$Plan" "size" "I") (by decide +kernel)) (fun _ h9 => h9) rfl dX0_remove_21 ?_
      refine lv_icmp_ge (tgt := 89) hx hb dX0_remove_24 (by decide) (fun c_ => ?_) (fun c_ => ?_)
      · have h := (if_pos c_).symm.trans h
        exact J89 v2 size_ subjectOf_ teacherOf_ seatsOf_ columnOf_ h _ _ _ hP hD hS (lv_sub hl [0, 1] rfl)
      · have h := (if_neg c_).symm.trans h
        refine lv_aload_n hx hb dX0_remove_27 rfl (lv_at hl 0 rfl) ?_
        refine va_get (D := (dC, dI)) (ci := 0) (v := .ref h0_subjectOf) (C := RX0) (T := TX0) (N := 9) hx hb hts hiX0 hown hK hP 0 rfl rfl 4 (by decide) (hts (.fieldLink RX0 25 "OptionLattice$Plan" "subjectOf" "[I") (by decide +kernel)) (fun _ h9 => h9) rfl dX0_remove_28 ?_
        refine lv_iload_n hx hb dX0_remove_31 rfl (lv_at hl 2 rfl) ?_
        refine lv_aload_n hx hb dX0_remove_32 rfl (lv_at hl 0 rfl) ?_
        refine va_get (D := (dC, dI)) (ci := 0) (v := .ref h0_subjectOf) (C := RX0) (T := TX0) (N := 9) hx hb hts hiX0 hown hK hP 0 rfl rfl 4 (by decide) (hts (.fieldLink RX0 25 "OptionLattice$Plan" "subjectOf" "[I") (by decide +kernel)) (fun _ h9 => h9) rfl dX0_remove_33 ?_
        refine lv_iload_n hx hb dX0_remove_36 rfl (lv_at hl 2 rfl) ?_
        refine lv_iconst (v := 1) hx hb dX0_remove_37 (by decide) ?_
        refine lv_iadd hx hb dX0_remove_38 ?_
        obtain ⟨g_, h⟩ := gd_some h
        refine va_iald hx hb hK hP 1 1 rfl rfl (inb_in g_) dX0_remove_39 ?_
        obtain ⟨g_, h⟩ := gd_some h
        refine va_iast hx hb hK hP hD hS 1 1 rfl rfl (inb_in g_) dX0_remove_40 (fun H locs hP hD hS => ?_)
        have hP : va_P (dC, dI) vwCl [(h0, .inr (0, [.int columnCount_, .int roomCount_, .int size_, .ref h0_barsOf, .ref h0_subjectOf, .ref h0_teacherOf, .ref h0_seatsOf, .ref h0_columnOf, .ref h0_columnsWith])), (h0_subjectOf, .inl (cyI, 16, .inl (upd subjectOf_ v3.toNatClampNeg (subjectOf_ ((v3 + 1)).toNatClampNeg)))), (h0_teacherOf, .inl (cyI, 16, .inl teacherOf_)), (h0_seatsOf, .inl (cyI, 16, .inl seatsOf_)), (h0_columnOf, .inl (cyI, 16, .inl columnOf_)), (h0_columnsWith, .inl (cyI, 10, .inl columnsWith_))] H := hP
        have hD : va_D A [(h0, .inr (0, [.int columnCount_, .int roomCount_, .int size_, .ref h0_barsOf, .ref h0_subjectOf, .ref h0_teacherOf, .ref h0_seatsOf, .ref h0_columnOf, .ref h0_columnsWith])), (h0_subjectOf, .inl (cyI, 16, .inl (upd subjectOf_ v3.toNatClampNeg (subjectOf_ ((v3 + 1)).toNatClampNeg)))), (h0_teacherOf, .inl (cyI, 16, .inl teacherOf_)), (h0_seatsOf, .inl (cyI, 16, .inl seatsOf_)), (h0_columnOf, .inl (cyI, 16, .inl columnOf_)), (h0_columnsWith, .inl (cyI, 10, .inl columnsWith_))] := hD
        refine lv_aload_n hx hb dX0_remove_41 rfl (lv_at hl 0 rfl) ?_
        refine va_get (D := (dC, dI)) (ci := 0) (v := .ref h0_teacherOf) (C := RX0) (T := TX0) (N := 9) hx hb hts hiX0 hown hK hP 0 rfl rfl 5 (by decide) (hts (.fieldLink RX0 28 "OptionLattice$Plan" "teacherOf" "[I") (by decide +kernel)) (fun _ h9 => h9) rfl dX0_remove_42 ?_
        refine lv_iload_n hx hb dX0_remove_45 rfl (lv_at hl 2 rfl) ?_
        refine lv_aload_n hx hb dX0_remove_46 rfl (lv_at hl 0 rfl) ?_
        refine va_get (D := (dC, dI)) (ci := 0) (v := .ref h0_teacherOf) (C := RX0) (T := TX0) (N := 9) hx hb hts hiX0 hown hK hP 0 rfl rfl 5 (by decide) (hts (.fieldLink RX0 28 "OptionLattice$Plan" "teacherOf" "[I") (by decide +kernel)) (fun _ h9 => h9) rfl dX0_remove_47 ?_
        refine lv_iload_n hx hb dX0_remove_50 rfl (lv_at hl 2 rfl) ?_
        refine lv_iconst (v := 1) hx hb dX0_remove_51 (by decide) ?_
        refine lv_iadd hx hb dX0_remove_52 ?_
        obtain ⟨g_, h⟩ := gd_some h
        refine va_iald hx hb hK hP 2 1 rfl rfl (inb_in g_) dX0_remove_53 ?_
        obtain ⟨g_, h⟩ := gd_some h
        refine va_iast hx hb hK hP hD hS 2 1 rfl rfl (inb_in g_) dX0_remove_54 (fun H locs hP hD hS => ?_)
        have hP : va_P (dC, dI) vwCl [(h0, .inr (0, [.int columnCount_, .int roomCount_, .int size_, .ref h0_barsOf, .ref h0_subjectOf, .ref h0_teacherOf, .ref h0_seatsOf, .ref h0_columnOf, .ref h0_columnsWith])), (h0_subjectOf, .inl (cyI, 16, .inl (upd subjectOf_ v3.toNatClampNeg (subjectOf_ ((v3 + 1)).toNatClampNeg)))), (h0_teacherOf, .inl (cyI, 16, .inl (upd teacherOf_ v3.toNatClampNeg (teacherOf_ ((v3 + 1)).toNatClampNeg)))), (h0_seatsOf, .inl (cyI, 16, .inl seatsOf_)), (h0_columnOf, .inl (cyI, 16, .inl columnOf_)), (h0_columnsWith, .inl (cyI, 10, .inl columnsWith_))] H := hP
        have hD : va_D A [(h0, .inr (0, [.int columnCount_, .int roomCount_, .int size_, .ref h0_barsOf, .ref h0_subjectOf, .ref h0_teacherOf, .ref h0_seatsOf, .ref h0_columnOf, .ref h0_columnsWith])), (h0_subjectOf, .inl (cyI, 16, .inl (upd subjectOf_ v3.toNatClampNeg (subjectOf_ ((v3 + 1)).toNatClampNeg)))), (h0_teacherOf, .inl (cyI, 16, .inl (upd teacherOf_ v3.toNatClampNeg (teacherOf_ ((v3 + 1)).toNatClampNeg)))), (h0_seatsOf, .inl (cyI, 16, .inl seatsOf_)), (h0_columnOf, .inl (cyI, 16, .inl columnOf_)), (h0_columnsWith, .inl (cyI, 10, .inl columnsWith_))] := hD
        refine lv_aload_n hx hb dX0_remove_55 rfl (lv_at hl 0 rfl) ?_
        refine va_get (D := (dC, dI)) (ci := 0) (v := .ref h0_seatsOf) (C := RX0) (T := TX0) (N := 9) hx hb hts hiX0 hown hK hP 0 rfl rfl 6 (by decide) (hts (.fieldLink RX0 31 "OptionLattice$Plan" "seatsOf" "[I") (by decide +kernel)) (fun _ h9 => h9) rfl dX0_remove_56 ?_
        refine lv_iload_n hx hb dX0_remove_59 rfl (lv_at hl 2 rfl) ?_
        refine lv_aload_n hx hb dX0_remove_60 rfl (lv_at hl 0 rfl) ?_
        refine va_get (D := (dC, dI)) (ci := 0) (v := .ref h0_seatsOf) (C := RX0) (T := TX0) (N := 9) hx hb hts hiX0 hown hK hP 0 rfl rfl 6 (by decide) (hts (.fieldLink RX0 31 "OptionLattice$Plan" "seatsOf" "[I") (by decide +kernel)) (fun _ h9 => h9) rfl dX0_remove_61 ?_
        refine lv_iload_n hx hb dX0_remove_64 rfl (lv_at hl 2 rfl) ?_
        refine lv_iconst (v := 1) hx hb dX0_remove_65 (by decide) ?_
        refine lv_iadd hx hb dX0_remove_66 ?_
        obtain ⟨g_, h⟩ := gd_some h
        refine va_iald hx hb hK hP 3 1 rfl rfl (inb_in g_) dX0_remove_67 ?_
        obtain ⟨g_, h⟩ := gd_some h
        refine va_iast hx hb hK hP hD hS 3 1 rfl rfl (inb_in g_) dX0_remove_68 (fun H locs hP hD hS => ?_)
        have hP : va_P (dC, dI) vwCl [(h0, .inr (0, [.int columnCount_, .int roomCount_, .int size_, .ref h0_barsOf, .ref h0_subjectOf, .ref h0_teacherOf, .ref h0_seatsOf, .ref h0_columnOf, .ref h0_columnsWith])), (h0_subjectOf, .inl (cyI, 16, .inl (upd subjectOf_ v3.toNatClampNeg (subjectOf_ ((v3 + 1)).toNatClampNeg)))), (h0_teacherOf, .inl (cyI, 16, .inl (upd teacherOf_ v3.toNatClampNeg (teacherOf_ ((v3 + 1)).toNatClampNeg)))), (h0_seatsOf, .inl (cyI, 16, .inl (upd seatsOf_ v3.toNatClampNeg (seatsOf_ ((v3 + 1)).toNatClampNeg)))), (h0_columnOf, .inl (cyI, 16, .inl columnOf_)), (h0_columnsWith, .inl (cyI, 10, .inl columnsWith_))] H := hP
        have hD : va_D A [(h0, .inr (0, [.int columnCount_, .int roomCount_, .int size_, .ref h0_barsOf, .ref h0_subjectOf, .ref h0_teacherOf, .ref h0_seatsOf, .ref h0_columnOf, .ref h0_columnsWith])), (h0_subjectOf, .inl (cyI, 16, .inl (upd subjectOf_ v3.toNatClampNeg (subjectOf_ ((v3 + 1)).toNatClampNeg)))), (h0_teacherOf, .inl (cyI, 16, .inl (upd teacherOf_ v3.toNatClampNeg (teacherOf_ ((v3 + 1)).toNatClampNeg)))), (h0_seatsOf, .inl (cyI, 16, .inl (upd seatsOf_ v3.toNatClampNeg (seatsOf_ ((v3 + 1)).toNatClampNeg)))), (h0_columnOf, .inl (cyI, 16, .inl columnOf_)), (h0_columnsWith, .inl (cyI, 10, .inl columnsWith_))] := hD
        refine lv_aload_n hx hb dX0_remove_69 rfl (lv_at hl 0 rfl) ?_
        refine va_get (D := (dC, dI)) (ci := 0) (v := .ref h0_columnOf) (C := RX0) (T := TX0) (N := 9) hx hb hts hiX0 hown hK hP 0 rfl rfl 7 (by decide) (hts (.fieldLink RX0 34 "OptionLattice$Plan" "columnOf" "[I") (by decide +kernel)) (fun _ h9 => h9) rfl dX0_remove_70 ?_
        refine lv_iload_n hx hb dX0_remove_73 rfl (lv_at hl 2 rfl) ?_
        refine lv_aload_n hx hb dX0_remove_74 rfl (lv_at hl 0 rfl) ?_
        refine va_get (D := (dC, dI)) (ci := 0) (v := .ref h0_columnOf) (C := RX0) (T := TX0) (N := 9) hx hb hts hiX0 hown hK hP 0 rfl rfl 7 (by decide) (hts (.fieldLink RX0 34 "OptionLattice$Plan" "columnOf" "[I") (by decide +kernel)) (fun _ h9 => h9) rfl dX0_remove_75 ?_
        refine lv_iload_n hx hb dX0_remove_78 rfl (lv_at hl 2 rfl) ?_
        refine lv_iconst (v := 1) hx hb dX0_remove_79 (by decide) ?_
        refine lv_iadd hx hb dX0_remove_80 ?_
        obtain ⟨g_, h⟩ := gd_some h
        refine va_iald hx hb hK hP 4 1 rfl rfl (inb_in g_) dX0_remove_81 ?_
        obtain ⟨g_, h⟩ := gd_some h
        refine va_iast hx hb hK hP hD hS 4 1 rfl rfl (inb_in g_) dX0_remove_82 (fun H locs hP hD hS => ?_)
        have hP : va_P (dC, dI) vwCl [(h0, .inr (0, [.int columnCount_, .int roomCount_, .int size_, .ref h0_barsOf, .ref h0_subjectOf, .ref h0_teacherOf, .ref h0_seatsOf, .ref h0_columnOf, .ref h0_columnsWith])), (h0_subjectOf, .inl (cyI, 16, .inl (upd subjectOf_ v3.toNatClampNeg (subjectOf_ ((v3 + 1)).toNatClampNeg)))), (h0_teacherOf, .inl (cyI, 16, .inl (upd teacherOf_ v3.toNatClampNeg (teacherOf_ ((v3 + 1)).toNatClampNeg)))), (h0_seatsOf, .inl (cyI, 16, .inl (upd seatsOf_ v3.toNatClampNeg (seatsOf_ ((v3 + 1)).toNatClampNeg)))), (h0_columnOf, .inl (cyI, 16, .inl (upd columnOf_ v3.toNatClampNeg (columnOf_ ((v3 + 1)).toNatClampNeg)))), (h0_columnsWith, .inl (cyI, 10, .inl columnsWith_))] H := hP
        have hD : va_D A [(h0, .inr (0, [.int columnCount_, .int roomCount_, .int size_, .ref h0_barsOf, .ref h0_subjectOf, .ref h0_teacherOf, .ref h0_seatsOf, .ref h0_columnOf, .ref h0_columnsWith])), (h0_subjectOf, .inl (cyI, 16, .inl (upd subjectOf_ v3.toNatClampNeg (subjectOf_ ((v3 + 1)).toNatClampNeg)))), (h0_teacherOf, .inl (cyI, 16, .inl (upd teacherOf_ v3.toNatClampNeg (teacherOf_ ((v3 + 1)).toNatClampNeg)))), (h0_seatsOf, .inl (cyI, 16, .inl (upd seatsOf_ v3.toNatClampNeg (seatsOf_ ((v3 + 1)).toNatClampNeg)))), (h0_columnOf, .inl (cyI, 16, .inl (upd columnOf_ v3.toNatClampNeg (columnOf_ ((v3 + 1)).toNatClampNeg)))), (h0_columnsWith, .inl (cyI, 10, .inl columnsWith_))] := hD
        obtain ⟨v3_2, e_v3_2⟩ : ∃ z : Int32, z = (v3 + 1) := ⟨_, rfl⟩
        have h := lt_use e_v3_2 h
        refine lv_iinc (v := v3_2) (lv' := [(3, .int v3_2), (0, .ref h0), (2, .int v2)]) hx hb dX0_remove_83 hl (k := 2) rfl (by rw [e_v3_2]; rfl) (by decide) rfl (fun ls hl => ?_)
        refine lv_goto (tgt := 19) hx hb dX0_remove_86 (by decide) ?_
        exact ih19 v3_2 (upd subjectOf_ v3.toNatClampNeg (subjectOf_ ((v3 + 1)).toNatClampNeg)) (upd teacherOf_ v3.toNatClampNeg (teacherOf_ ((v3 + 1)).toNatClampNeg)) (upd seatsOf_ v3.toNatClampNeg (seatsOf_ ((v3 + 1)).toNatClampNeg)) (upd columnOf_ v3.toNatClampNeg (columnOf_ ((v3 + 1)).toNatClampNeg)) h _ _ _ hP hD hS (lv_sub hl [1, 2, 0] rfl)
  unfold m_X0_remove at h
  refine lv_aload_n hx hb dX0_remove_0 rfl (lv_at hl 0 rfl) ?_
  refine va_get (D := (dC, dI)) (ci := 0) (v := .ref h0_subjectOf) (C := RX0) (T := TX0) (N := 9) hx hb hts hiX0 hown hK hP 0 rfl rfl 4 (by decide) (hts (.fieldLink RX0 25 "OptionLattice$Plan" "subjectOf" "[I") (by decide +kernel)) (fun _ h9 => h9) rfl dX0_remove_1 ?_
  refine lv_iload_n hx hb dX0_remove_4 rfl (lv_at hl 1 rfl) ?_
  obtain ⟨g_, h⟩ := gd_some h
  refine va_iald hx hb hK hP 1 1 rfl rfl (inb_in g_) dX0_remove_5 ?_
  refine lv_topi (fun v2_3 e_v2_3 => ?_)
  have h := lt_use e_v2_3 h
  refine lv_istore_n (lv' := [(2, .int v2_3), (0, .ref h0), (1, .int v1)]) hx hb dX0_remove_6 rfl hl (by decide) rfl (fun ls hl => ?_)
  refine lv_aload_n hx hb dX0_remove_7 rfl (lv_at hl 1 rfl) ?_
  refine lv_dup hx hb dX0_remove_8 rfl ?_
  refine va_get (D := (dC, dI)) (ci := 0) (v := .int size_) (C := RX0) (T := TX0) (N := 9) hx hb hts hiX0 hown hK hP 0 rfl rfl 2 (by decide) (hts (.fieldLink RX0 18 "OptionLattice$Plan" "size" "I") (by decide +kernel)) (fun _ h9 => h9) rfl dX0_remove_9 ?_
  refine lv_iconst (v := 1) hx hb dX0_remove_12 (by decide) ?_
  refine lv_isub hx hb dX0_remove_13 ?_
  refine lv_topi (fun w_4 e_w_4 => ?_)
  have h := lt_use e_w_4 h
  refine va_put (D := (dC, dI)) (ci := 0) (v := .int w_4) (ty := .int) (C := RX0) (T := TX0) (N := 9) hx hb hts hiX0 tyX0 tyX0_ok nmX0 hown hK hP hD hS 0 rfl rfl 2 (by decide) (hts (.fieldLink RX0 18 "OptionLattice$Plan" "size" "I") (by decide +kernel)) (fun _ h9 => h9) rfl (by decide +kernel) rfl rfl (Nat.le_of_ble_eq_true rfl) dX0_remove_14 (fun H locs hP hD hS => ?_)
  have hP : va_P (dC, dI) vwCl [(h0, .inr (0, [.int columnCount_, .int roomCount_, .int w_4, .ref h0_barsOf, .ref h0_subjectOf, .ref h0_teacherOf, .ref h0_seatsOf, .ref h0_columnOf, .ref h0_columnsWith])), (h0_subjectOf, .inl (cyI, 16, .inl subjectOf_)), (h0_teacherOf, .inl (cyI, 16, .inl teacherOf_)), (h0_seatsOf, .inl (cyI, 16, .inl seatsOf_)), (h0_columnOf, .inl (cyI, 16, .inl columnOf_)), (h0_columnsWith, .inl (cyI, 10, .inl columnsWith_))] H := hP
  have hD : va_D A [(h0, .inr (0, [.int columnCount_, .int roomCount_, .int w_4, .ref h0_barsOf, .ref h0_subjectOf, .ref h0_teacherOf, .ref h0_seatsOf, .ref h0_columnOf, .ref h0_columnsWith])), (h0_subjectOf, .inl (cyI, 16, .inl subjectOf_)), (h0_teacherOf, .inl (cyI, 16, .inl teacherOf_)), (h0_seatsOf, .inl (cyI, 16, .inl seatsOf_)), (h0_columnOf, .inl (cyI, 16, .inl columnOf_)), (h0_columnsWith, .inl (cyI, 10, .inl columnsWith_))] := hD
  refine lv_iload_n hx hb dX0_remove_17 rfl (lv_at hl 2 rfl) ?_
  refine lv_istore_n (lv' := [(3, .int v1), (2, .int v2_3), (0, .ref h0), (1, .int v1)]) hx hb dX0_remove_18 rfl hl (by decide) rfl (fun ls hl => ?_)
  exact L19 v2_3 w_4 1100 v1 subjectOf_ teacherOf_ seatsOf_ columnOf_ h _ _ _ hP hD hS (lv_sub hl [2, 1, 0] rfl)

def m_X0_place (size_ : Int32) (subjectOf_ : Nat → Int32) (columnOf_ : Nat → Int32) (columnsWith_ : Nat → Int32) (v1 : Int32) (v2 : Int32) : Option ((Nat → Int32) × (Nat → Int32)) :=
  gd (inb v1 16) (gd (inb v1 16) (bd1 (m_X0_noteColumnsOf size_ subjectOf_ (upd columnOf_ v1.toNatClampNeg v2) columnsWith_ (subjectOf_ v1.toNatClampNeg)) (fun columnsWith_1 => some ((upd columnOf_ v1.toNatClampNeg v2), columnsWith_1))))
abbrev rmX0_place : Room := { frames := 2, cells := 0, slots := 0, locals := 45 }
set_option maxHeartbeats 4000000 in
set_option maxRecDepth 100000 in
theorem c_X0_place (l : Launch) (dC : Nat → ClassId) (dI : Nat → Nat → Nat) (cyC cyI cyJ : ClassId) (h0 h0_barsOf h0_subjectOf h0_teacherOf h0_seatsOf h0_columnOf h0_columnsWith : Nat) (columnCount_ : Int32) (roomCount_ : Int32) (size_ : Int32) (subjectOf_ : Nat → Int32) (columnOf_ : Nat → Int32) (columnsWith_ : Nat → Int32) (v1 : Int32) (v2 : Int32) (o0 : Nat → Int32) (o1 : Nat → Int32) (h : m_X0_place size_ subjectOf_ columnOf_ columnsWith_ v1 v2 = some (o0, o1)) : uMv l yX0_place wsX0_place rmX0_place (dC, dI) [(cyC, .char), (cyI, .int), (cyJ, .long)] [.ref h0, .int v1, .int v2] [(h0, .inr (0, [.int columnCount_, .int roomCount_, .int size_, .ref h0_barsOf, .ref h0_subjectOf, .ref h0_teacherOf, .ref h0_seatsOf, .ref h0_columnOf, .ref h0_columnsWith])), (h0_subjectOf, .inl (cyI, 16, .inl subjectOf_)), (h0_columnOf, .inl (cyI, 16, .inl columnOf_)), (h0_columnsWith, .inl (cyI, 10, .inl columnsWith_))] [(h0, .inr (0, [.int columnCount_, .int roomCount_, .int size_, .ref h0_barsOf, .ref h0_subjectOf, .ref h0_teacherOf, .ref h0_seatsOf, .ref h0_columnOf, .ref h0_columnsWith])), (h0_subjectOf, .inl (cyI, 16, .inl subjectOf_)), (h0_columnOf, .inl (cyI, 16, .inl o0)), (h0_columnsWith, .inl (cyI, 10, .inl o1))] := by
  refine uMv.of (cc := cX0_place) (maxL := 3) (by decide) rfl (Nat.le_of_ble_eq_true rfl) (fun p e s m args below meth c A ls Q hx hb hml hown hts hA hP hK hD hE hS hl hret => ?_)
  have hown : s.vm.findClass RX0 = some m.cls := hown
  have hl : lv_has ls 3 [(0, .ref h0), (1, .int v1), (2, .int v2)] := hl
  have hiX0 : ∀ w ∈ u_ws RX0 TX0 9, w ∈ wsX0_place := fun _ h9 => List.mem_cons_of_mem _ (List.mem_append_right _ h9)
  unfold m_X0_place at h
  refine lv_aload_n hx hb dX0_place_0 rfl (lv_at hl 0 rfl) ?_
  refine va_get (D := (dC, dI)) (ci := 0) (v := .ref h0_columnOf) (C := RX0) (T := TX0) (N := 9) hx hb hts hiX0 hown hK hP 0 rfl rfl 7 (by decide) (hts (.fieldLink RX0 34 "OptionLattice$Plan" "columnOf" "[I") (by decide +kernel)) (fun _ h9 => h9) rfl dX0_place_1 ?_
  refine lv_iload_n hx hb dX0_place_4 rfl (lv_at hl 1 rfl) ?_
  refine lv_iload_n hx hb dX0_place_5 rfl (lv_at hl 2 rfl) ?_
  obtain ⟨g_, h⟩ := gd_some h
  refine va_iast hx hb hK hP hD hS 2 1 rfl rfl (inb_in g_) dX0_place_6 (fun H locs hP hD hS => ?_)
  have hP : va_P (dC, dI) vwCl [(h0, .inr (0, [.int columnCount_, .int roomCount_, .int size_, .ref h0_barsOf, .ref h0_subjectOf, .ref h0_teacherOf, .ref h0_seatsOf, .ref h0_columnOf, .ref h0_columnsWith])), (h0_subjectOf, .inl (cyI, 16, .inl subjectOf_)), (h0_columnOf, .inl (cyI, 16, .inl (upd columnOf_ v1.toNatClampNeg v2))), (h0_columnsWith, .inl (cyI, 10, .inl columnsWith_))] H := hP
  have hD : va_D A [(h0, .inr (0, [.int columnCount_, .int roomCount_, .int size_, .ref h0_barsOf, .ref h0_subjectOf, .ref h0_teacherOf, .ref h0_seatsOf, .ref h0_columnOf, .ref h0_columnsWith])), (h0_subjectOf, .inl (cyI, 16, .inl subjectOf_)), (h0_columnOf, .inl (cyI, 16, .inl (upd columnOf_ v1.toNatClampNeg v2))), (h0_columnsWith, .inl (cyI, 10, .inl columnsWith_))] := hD
  refine lv_aload_n hx hb dX0_place_7 rfl (lv_at hl 0 rfl) ?_
  refine lv_aload_n hx hb dX0_place_8 rfl (lv_at hl 0 rfl) ?_
  refine va_get (D := (dC, dI)) (ci := 0) (v := .ref h0_subjectOf) (C := RX0) (T := TX0) (N := 9) hx hb hts hiX0 hown hK hP 0 rfl rfl 4 (by decide) (hts (.fieldLink RX0 25 "OptionLattice$Plan" "subjectOf" "[I") (by decide +kernel)) (fun _ h9 => h9) rfl dX0_place_9 ?_
  refine lv_iload_n hx hb dX0_place_12 rfl (lv_at hl 1 rfl) ?_
  obtain ⟨g_, h⟩ := gd_some h
  refine va_iald hx hb hK hP 1 1 rfl rfl (inb_in g_) dX0_place_13 ?_
  obtain ⟨columnsWith_1, hq, h⟩ := bd1_some h
  refine uV_v (b := h0) (As := [.int (subjectOf_ v1.toNatClampNeg)]) (rest := []) ⟨hx, hb, hml, hown, hts⟩ (c_X0_noteColumnsOf l dC dI cyC cyI cyJ h0 h0_barsOf h0_subjectOf h0_teacherOf h0_seatsOf h0_columnOf h0_columnsWith columnCount_ roomCount_ size_ subjectOf_ (upd columnOf_ v1.toNatClampNeg v2) columnsWith_ (subjectOf_ v1.toNatClampNeg) columnsWith_1 hq) (cwV 1 hts gX0_place_X0_noteColumnsOf rfl rfl rfl (by decide +kernel) ⟨Nat.le_of_ble_eq_true rfl, Nat.le_of_ble_eq_true rfl⟩) hK hE hA hP hD hS [0, 1, 2, 3] rfl rfl rfl 0 0 rfl rfl rfl hl.1 rfl (Nat.le_of_ble_eq_true rfl) ⟨Nat.zero_le _, Nat.zero_le _⟩ dX0_place_14 (fun H locs hP hD hS => ?_)
  have hP : va_P (dC, dI) vwCl [(h0, .inr (0, [.int columnCount_, .int roomCount_, .int size_, .ref h0_barsOf, .ref h0_subjectOf, .ref h0_teacherOf, .ref h0_seatsOf, .ref h0_columnOf, .ref h0_columnsWith])), (h0_subjectOf, .inl (cyI, 16, .inl subjectOf_)), (h0_columnOf, .inl (cyI, 16, .inl (upd columnOf_ v1.toNatClampNeg v2))), (h0_columnsWith, .inl (cyI, 10, .inl columnsWith_1))] H := hP
  have hD : va_D A [(h0, .inr (0, [.int columnCount_, .int roomCount_, .int size_, .ref h0_barsOf, .ref h0_subjectOf, .ref h0_teacherOf, .ref h0_seatsOf, .ref h0_columnOf, .ref h0_columnsWith])), (h0_subjectOf, .inl (cyI, 16, .inl subjectOf_)), (h0_columnOf, .inl (cyI, 16, .inl (upd columnOf_ v1.toNatClampNeg v2))), (h0_columnsWith, .inl (cyI, 10, .inl columnsWith_1))] := hD
  have h : some ((upd columnOf_ v1.toNatClampNeg v2), columnsWith_1) = some (o0, o1) := h
  have z0 := Option.some.inj h
  obtain ⟨rfl, z1⟩ := Prod.mk.inj z0
  obtain rfl := z1
  exact hret _ _ _ _ hP hS dX0_place_17

def m_X0_trade (size_ : Int32) (subjectOf_ : Nat → Int32) (columnOf_ : Nat → Int32) (columnsWith_ : Nat → Int32) (v1 : Int32) (v2 : Int32) : Option ((Nat → Int32) × (Nat → Int32)) :=
  gd (inb v1 16) (lt' (columnOf_ v1.toNatClampNeg) (fun v3_1 => gd (inb v2 16) (bd2 (m_X0_place size_ subjectOf_ columnOf_ columnsWith_ v1 (columnOf_ v2.toNatClampNeg)) (fun columnOf_2 columnsWith_3 => bd2 (m_X0_place size_ subjectOf_ columnOf_2 columnsWith_3 v2 v3_1) (fun columnOf_4 columnsWith_5 => some (columnOf_4, columnsWith_5))))))
abbrev rmX0_trade : Room := { frames := 3, cells := 0, slots := 0, locals := 67 }
set_option maxHeartbeats 4000000 in
set_option maxRecDepth 100000 in
theorem c_X0_trade (l : Launch) (dC : Nat → ClassId) (dI : Nat → Nat → Nat) (cyC cyI cyJ : ClassId) (h0 h0_barsOf h0_subjectOf h0_teacherOf h0_seatsOf h0_columnOf h0_columnsWith : Nat) (columnCount_ : Int32) (roomCount_ : Int32) (size_ : Int32) (subjectOf_ : Nat → Int32) (columnOf_ : Nat → Int32) (columnsWith_ : Nat → Int32) (v1 : Int32) (v2 : Int32) (o0 : Nat → Int32) (o1 : Nat → Int32) (h : m_X0_trade size_ subjectOf_ columnOf_ columnsWith_ v1 v2 = some (o0, o1)) : uMv l yX0_trade wsX0_trade rmX0_trade (dC, dI) [(cyC, .char), (cyI, .int), (cyJ, .long)] [.ref h0, .int v1, .int v2] [(h0, .inr (0, [.int columnCount_, .int roomCount_, .int size_, .ref h0_barsOf, .ref h0_subjectOf, .ref h0_teacherOf, .ref h0_seatsOf, .ref h0_columnOf, .ref h0_columnsWith])), (h0_subjectOf, .inl (cyI, 16, .inl subjectOf_)), (h0_columnOf, .inl (cyI, 16, .inl columnOf_)), (h0_columnsWith, .inl (cyI, 10, .inl columnsWith_))] [(h0, .inr (0, [.int columnCount_, .int roomCount_, .int size_, .ref h0_barsOf, .ref h0_subjectOf, .ref h0_teacherOf, .ref h0_seatsOf, .ref h0_columnOf, .ref h0_columnsWith])), (h0_subjectOf, .inl (cyI, 16, .inl subjectOf_)), (h0_columnOf, .inl (cyI, 16, .inl o0)), (h0_columnsWith, .inl (cyI, 10, .inl o1))] := by
  refine uMv.of (cc := cX0_trade) (maxL := 4) (by decide) rfl (Nat.le_of_ble_eq_true rfl) (fun p e s m args below meth c A ls Q hx hb hml hown hts hA hP hK hD hE hS hl hret => ?_)
  have hown : s.vm.findClass RX0 = some m.cls := hown
  have hl : lv_has ls 4 [(0, .ref h0), (1, .int v1), (2, .int v2)] := hl
  have hiX0 : ∀ w ∈ u_ws RX0 TX0 9, w ∈ wsX0_trade := fun _ h9 => List.mem_cons_of_mem _ (List.mem_append_right _ h9)
  unfold m_X0_trade at h
  refine lv_aload_n hx hb dX0_trade_0 rfl (lv_at hl 0 rfl) ?_
  refine va_get (D := (dC, dI)) (ci := 0) (v := .ref h0_columnOf) (C := RX0) (T := TX0) (N := 9) hx hb hts hiX0 hown hK hP 0 rfl rfl 7 (by decide) (hts (.fieldLink RX0 34 "OptionLattice$Plan" "columnOf" "[I") (by decide +kernel)) (fun _ h9 => h9) rfl dX0_trade_1 ?_
  refine lv_iload_n hx hb dX0_trade_4 rfl (lv_at hl 1 rfl) ?_
  obtain ⟨g_, h⟩ := gd_some h
  refine va_iald hx hb hK hP 2 1 rfl rfl (inb_in g_) dX0_trade_5 ?_
  refine lv_topi (fun v3_1 e_v3_1 => ?_)
  have h := lt_use e_v3_1 h
  refine lv_istore_n (lv' := [(3, .int v3_1), (0, .ref h0), (1, .int v1), (2, .int v2)]) hx hb dX0_trade_6 rfl hl (by decide) rfl (fun ls hl => ?_)
  refine lv_aload_n hx hb dX0_trade_7 rfl (lv_at hl 1 rfl) ?_
  refine lv_iload_n hx hb dX0_trade_8 rfl (lv_at hl 2 rfl) ?_
  refine lv_aload_n hx hb dX0_trade_9 rfl (lv_at hl 1 rfl) ?_
  refine va_get (D := (dC, dI)) (ci := 0) (v := .ref h0_columnOf) (C := RX0) (T := TX0) (N := 9) hx hb hts hiX0 hown hK hP 0 rfl rfl 7 (by decide) (hts (.fieldLink RX0 34 "OptionLattice$Plan" "columnOf" "[I") (by decide +kernel)) (fun _ h9 => h9) rfl dX0_trade_10 ?_
  refine lv_iload_n hx hb dX0_trade_13 rfl (lv_at hl 3 rfl) ?_
  obtain ⟨g_, h⟩ := gd_some h
  refine va_iald hx hb hK hP 2 1 rfl rfl (inb_in g_) dX0_trade_14 ?_
  obtain ⟨columnOf_2, columnsWith_3, hq, h⟩ := bd2_some h
  refine uV_v (b := h0) (As := [.int v1, .int (columnOf_ v2.toNatClampNeg)]) (rest := []) ⟨hx, hb, hml, hown, hts⟩ (c_X0_place l dC dI cyC cyI cyJ h0 h0_barsOf h0_subjectOf h0_teacherOf h0_seatsOf h0_columnOf h0_columnsWith columnCount_ roomCount_ size_ subjectOf_ columnOf_ columnsWith_ v1 (columnOf_ v2.toNatClampNeg) columnOf_2 columnsWith_3 hq) (cwV 2 hts gX0_trade_X0_place rfl rfl rfl (by decide +kernel) ⟨Nat.le_of_ble_eq_true rfl, Nat.le_of_ble_eq_true rfl⟩) hK hE hA hP hD hS [0, 1, 2, 3] rfl rfl rfl 0 0 rfl rfl rfl hl.1 rfl (Nat.le_of_ble_eq_true rfl) ⟨Nat.zero_le _, Nat.zero_le _⟩ dX0_trade_15 (fun H locs hP hD hS => ?_)
  have hP : va_P (dC, dI) vwCl [(h0, .inr (0, [.int columnCount_, .int roomCount_, .int size_, .ref h0_barsOf, .ref h0_subjectOf, .ref h0_teacherOf, .ref h0_seatsOf, .ref h0_columnOf, .ref h0_columnsWith])), (h0_subjectOf, .inl (cyI, 16, .inl subjectOf_)), (h0_columnOf, .inl (cyI, 16, .inl columnOf_2)), (h0_columnsWith, .inl (cyI, 10, .inl columnsWith_3))] H := hP
  have hD : va_D A [(h0, .inr (0, [.int columnCount_, .int roomCount_, .int size_, .ref h0_barsOf, .ref h0_subjectOf, .ref h0_teacherOf, .ref h0_seatsOf, .ref h0_columnOf, .ref h0_columnsWith])), (h0_subjectOf, .inl (cyI, 16, .inl subjectOf_)), (h0_columnOf, .inl (cyI, 16, .inl columnOf_2)), (h0_columnsWith, .inl (cyI, 10, .inl columnsWith_3))] := hD
  refine lv_aload_n hx hb dX0_trade_18 rfl (lv_at hl 1 rfl) ?_
  refine lv_iload_n hx hb dX0_trade_19 rfl (lv_at hl 3 rfl) ?_
  refine lv_iload_n hx hb dX0_trade_20 rfl (lv_at hl 0 rfl) ?_
  obtain ⟨columnOf_4, columnsWith_5, hq, h⟩ := bd2_some h
  refine uV_v (b := h0) (As := [.int v2, .int v3_1]) (rest := []) ⟨hx, hb, hml, hown, hts⟩ (c_X0_place l dC dI cyC cyI cyJ h0 h0_barsOf h0_subjectOf h0_teacherOf h0_seatsOf h0_columnOf h0_columnsWith columnCount_ roomCount_ size_ subjectOf_ columnOf_2 columnsWith_3 v2 v3_1 columnOf_4 columnsWith_5 hq) (cwV 2 hts gX0_trade_X0_place rfl rfl rfl (by decide +kernel) ⟨Nat.le_of_ble_eq_true rfl, Nat.le_of_ble_eq_true rfl⟩) hK hE hA hP hD hS [0, 1, 2, 3] rfl rfl rfl 0 0 rfl rfl rfl hl.1 rfl (Nat.le_of_ble_eq_true rfl) ⟨Nat.zero_le _, Nat.zero_le _⟩ dX0_trade_21 (fun H locs hP hD hS => ?_)
  have hP : va_P (dC, dI) vwCl [(h0, .inr (0, [.int columnCount_, .int roomCount_, .int size_, .ref h0_barsOf, .ref h0_subjectOf, .ref h0_teacherOf, .ref h0_seatsOf, .ref h0_columnOf, .ref h0_columnsWith])), (h0_subjectOf, .inl (cyI, 16, .inl subjectOf_)), (h0_columnOf, .inl (cyI, 16, .inl columnOf_4)), (h0_columnsWith, .inl (cyI, 10, .inl columnsWith_5))] H := hP
  have hD : va_D A [(h0, .inr (0, [.int columnCount_, .int roomCount_, .int size_, .ref h0_barsOf, .ref h0_subjectOf, .ref h0_teacherOf, .ref h0_seatsOf, .ref h0_columnOf, .ref h0_columnsWith])), (h0_subjectOf, .inl (cyI, 16, .inl subjectOf_)), (h0_columnOf, .inl (cyI, 16, .inl columnOf_4)), (h0_columnsWith, .inl (cyI, 10, .inl columnsWith_5))] := hD
  have h : some (columnOf_4, columnsWith_5) = some (o0, o1) := h
  have z0 := Option.some.inj h
  obtain ⟨rfl, z1⟩ := Prod.mk.inj z0
  obtain rfl := z1
  exact hret _ _ _ _ hP hS dX0_trade_24

def m_X0_sectionsIn_4 (size_ : Int32) (columnOf_ : Nat → Int32) (v1 : Int32) (rec4 : Int32 → Int32 → Option (Int32)) : Int32 → Int32 → Option (Int32) := fun v2 v3 =>
  (if size_ ≤ v3 then some v2 else gd (inb v3 16) ((if (columnOf_ v3.toNatClampNeg) = v1 then lt' (v2 ||| ((1 : Int32) <<< (v3 &&& 31))) (fun v2_3 => lt' (v3 + 1) (fun v3_4 => rec4 v2_3 v3_4)) else lt' (v2 ||| 0) (fun v2_1 => lt' (v3 + 1) (fun v3_2 => rec4 v2_1 v3_2)))))
def m_X0_sectionsIn (size_ : Int32) (columnOf_ : Nat → Int32) (v1 : Int32) : Option (Int32) :=
  it2 (m_X0_sectionsIn_4 size_ columnOf_ v1) 1100 0 0
abbrev rmX0_sectionsIn : Room := { frames := 0, cells := 0, slots := 0, locals := 0 }
set_option maxHeartbeats 4000000 in
set_option maxRecDepth 100000 in
theorem c_X0_sectionsIn (l : Launch) (dC : Nat → ClassId) (dI : Nat → Nat → Nat) (cyC cyI cyJ : ClassId) (h0 h0_barsOf h0_subjectOf h0_teacherOf h0_seatsOf h0_columnOf h0_columnsWith : Nat) (columnCount_ : Int32) (roomCount_ : Int32) (size_ : Int32) (columnOf_ : Nat → Int32) (v1 : Int32) (rr : Int32) (h : m_X0_sectionsIn size_ columnOf_ v1 = some rr) : uMi l yX0_sectionsIn wsX0_sectionsIn rmX0_sectionsIn (dC, dI) [(cyC, .char), (cyI, .int), (cyJ, .long)] [.ref h0, .int v1] [(h0, .inr (0, [.int columnCount_, .int roomCount_, .int size_, .ref h0_barsOf, .ref h0_subjectOf, .ref h0_teacherOf, .ref h0_seatsOf, .ref h0_columnOf, .ref h0_columnsWith])), (h0_columnOf, .inl (cyI, 16, .inl columnOf_))] [(h0, .inr (0, [.int columnCount_, .int roomCount_, .int size_, .ref h0_barsOf, .ref h0_subjectOf, .ref h0_teacherOf, .ref h0_seatsOf, .ref h0_columnOf, .ref h0_columnsWith])), (h0_columnOf, .inl (cyI, 16, .inl columnOf_))] rr := by
  refine uMi.of (cc := cX0_sectionsIn) (maxL := 4) (by decide) rfl (Nat.le_of_ble_eq_true rfl) (fun p e s m args below meth c A ls Q hx hb hml hown hts hA hP hK hD hE hS hl hret => ?_)
  have hown : s.vm.findClass RX0 = some m.cls := hown
  have hl : lv_has ls 4 [(0, .ref h0), (1, .int v1)] := hl
  have hiX0 : ∀ w ∈ u_ws RX0 TX0 9, w ∈ wsX0_sectionsIn := fun _ h9 => List.mem_cons_of_mem _ (List.mem_append_right _ h9)
  have L4 : ∀ (n4 : Nat), ∀ (v2 : Int32), ∀ (v3 : Int32), it2 (m_X0_sectionsIn_4 size_ columnOf_ v1) n4 v2 v3 = some rr → ∀ (H : Heap) (locs : List Loc) (ls : Array Slot), va_P (dC, dI) vwCl [(h0, .inr (0, [.int columnCount_, .int roomCount_, .int size_, .ref h0_barsOf, .ref h0_subjectOf, .ref h0_teacherOf, .ref h0_seatsOf, .ref h0_columnOf, .ref h0_columnsWith])), (h0_columnOf, .inl (cyI, 16, .inl columnOf_))] H → va_D A [(h0, .inr (0, [.int columnCount_, .int roomCount_, .int size_, .ref h0_barsOf, .ref h0_subjectOf, .ref h0_teacherOf, .ref h0_seatsOf, .ref h0_columnOf, .ref h0_columnsWith])), (h0_columnOf, .inl (cyI, 16, .inl columnOf_))] → va_S A s.heap H locs → lv_has ls 4 [(0, .ref h0), (1, .int v1), (2, .int v2), (3, .int v3)] → W p l e rmX0_sectionsIn s m args below meth c H locs 0 0 Q (F0 m 4 ls []) := by
    intro n4
    induction n4 with
    | zero => intro v2 v3 h; exact absurd h (fun z => it2_z z)
    | succ n4 ih4 =>
      intro v2 v3 h H locs ls hP hD hS hl
      have h : m_X0_sectionsIn_4 size_ columnOf_ v1 (it2 (m_X0_sectionsIn_4 size_ columnOf_ v1) n4) v2 v3 = some rr := h
      unfold m_X0_sectionsIn_4 at h
      refine lv_iload_n hx hb dX0_sectionsIn_4 rfl (lv_at hl 3 rfl) ?_
      refine lv_aload_n hx hb dX0_sectionsIn_5 rfl (lv_at hl 0 rfl) ?_
      refine va_get (D := (dC, dI)) (ci := 0) (v := .int size_) (C := RX0) (T := TX0) (N := 9) hx hb hts hiX0 hown hK hP 0 rfl rfl 2 (by decide) (hts (.fieldLink RX0 18 "OptionLattice$Plan" "size" "I") (by decide +kernel)) (fun _ h9 => h9) rfl dX0_sectionsIn_6 ?_
      refine lv_icmp_ge (tgt := 38) hx hb dX0_sectionsIn_9 (by decide) (fun c_ => ?_) (fun c_ => ?_)
      · have h := (if_pos c_).symm.trans h
        refine lv_iload_n hx hb dX0_sectionsIn_38 rfl (lv_at hl 2 rfl) ?_
        have h : some v2 = some rr := h
        have z0 := Option.some.inj h
        obtain rfl := z0
        exact hret _ _ _ _ hP hS rfl dX0_sectionsIn_39
      · have h := (if_neg c_).symm.trans h
        refine lv_iload_n hx hb dX0_sectionsIn_12 rfl (lv_at hl 2 rfl) ?_
        refine lv_aload_n hx hb dX0_sectionsIn_13 rfl (lv_at hl 0 rfl) ?_
        refine va_get (D := (dC, dI)) (ci := 0) (v := .ref h0_columnOf) (C := RX0) (T := TX0) (N := 9) hx hb hts hiX0 hown hK hP 0 rfl rfl 7 (by decide) (hts (.fieldLink RX0 34 "OptionLattice$Plan" "columnOf" "[I") (by decide +kernel)) (fun _ h9 => h9) rfl dX0_sectionsIn_14 ?_
        refine lv_iload_n hx hb dX0_sectionsIn_17 rfl (lv_at hl 3 rfl) ?_
        obtain ⟨g_, h⟩ := gd_some h
        refine va_iald hx hb hK hP 1 1 rfl rfl (inb_in g_) dX0_sectionsIn_18 ?_
        refine lv_iload_n hx hb dX0_sectionsIn_19 rfl (lv_at hl 1 rfl) ?_
        refine lv_icmp_ne (tgt := 29) hx hb dX0_sectionsIn_20 (by decide) (fun c_ => ?_) (fun c_ => ?_)
        · have h := (if_neg c_).symm.trans h
          refine lv_iconst (v := 0) hx hb dX0_sectionsIn_29 (by decide) ?_
          refine lv_ior hx hb dX0_sectionsIn_30 ?_
          refine lv_topi (fun v2_1 e_v2_1 => ?_)
          have h := lt_use e_v2_1 h
          refine lv_istore_n (lv' := [(2, .int v2_1), (0, .ref h0), (1, .int v1), (3, .int v3)]) hx hb dX0_sectionsIn_31 rfl hl (by decide) rfl (fun ls hl => ?_)
          obtain ⟨v3_2, e_v3_2⟩ : ∃ z : Int32, z = (v3 + 1) := ⟨_, rfl⟩
          have h := lt_use e_v3_2 h
          refine lv_iinc (v := v3_2) (lv' := [(3, .int v3_2), (2, .int v2_1), (0, .ref h0), (1, .int v1)]) hx hb dX0_sectionsIn_32 hl (k := 3) rfl (by rw [e_v3_2]; rfl) (by decide) rfl (fun ls hl => ?_)
          refine lv_goto (tgt := 4) hx hb dX0_sectionsIn_35 (by decide) ?_
          exact ih4 v2_1 v3_2 h _ _ _ hP hD hS (lv_sub hl [2, 3, 1, 0] rfl)
        · have h := (if_pos c_).symm.trans h
          refine lv_iconst (v := 1) hx hb dX0_sectionsIn_23 (by decide) ?_
          refine lv_iload_n hx hb dX0_sectionsIn_24 rfl (lv_at hl 3 rfl) ?_
          refine lv_ishl hx hb dX0_sectionsIn_25 ?_
          refine lv_goto (tgt := 30) hx hb dX0_sectionsIn_26 (by decide) ?_
          refine lv_ior hx hb dX0_sectionsIn_30 ?_
          refine lv_topi (fun v2_3 e_v2_3 => ?_)
          have h := lt_use e_v2_3 h
          refine lv_istore_n (lv' := [(2, .int v2_3), (0, .ref h0), (1, .int v1), (3, .int v3)]) hx hb dX0_sectionsIn_31 rfl hl (by decide) rfl (fun ls hl => ?_)
          obtain ⟨v3_4, e_v3_4⟩ : ∃ z : Int32, z = (v3 + 1) := ⟨_, rfl⟩
          have h := lt_use e_v3_4 h
          refine lv_iinc (v := v3_4) (lv' := [(3, .int v3_4), (2, .int v2_3), (0, .ref h0), (1, .int v1)]) hx hb dX0_sectionsIn_32 hl (k := 3) rfl (by rw [e_v3_4]; rfl) (by decide) rfl (fun ls hl => ?_)
          refine lv_goto (tgt := 4) hx hb dX0_sectionsIn_35 (by decide) ?_
          exact ih4 v2_3 v3_4 h _ _ _ hP hD hS (lv_sub hl [2, 3, 1, 0] rfl)
  unfold m_X0_sectionsIn at h
  refine lv_iconst (v := 0) hx hb dX0_sectionsIn_0 (by decide) ?_
  refine lv_istore_n (lv' := [(2, .int 0), (0, .ref h0), (1, .int v1)]) hx hb dX0_sectionsIn_1 rfl hl (by decide) rfl (fun ls hl => ?_)
  refine lv_iconst (v := 0) hx hb dX0_sectionsIn_2 (by decide) ?_
  refine lv_istore_n (lv' := [(3, .int 0), (2, .int 0), (0, .ref h0), (1, .int v1)]) hx hb dX0_sectionsIn_3 rfl hl (by decide) rfl (fun ls hl => ?_)
  exact L4  1100 0 0 h _ _ _ hP hD hS (lv_sub hl [2, 3, 1, 0] rfl)

def m_X5_hasBit (v0 : Int32) (v1 : Int32) : Option (Int32) :=
  (if ((v0 >>> (v1 &&& 31)) &&& 1) = 0 then some 0 else some 1)
abbrev rmX5_hasBit : Room := { frames := 0, cells := 0, slots := 0, locals := 0 }
set_option maxHeartbeats 4000000 in
set_option maxRecDepth 100000 in
theorem c_X5_hasBit (l : Launch) (dC : Nat → ClassId) (dI : Nat → Nat → Nat) (cyC cyI cyJ : ClassId) (v0 : Int32) (v1 : Int32) (rr : Int32) (h : m_X5_hasBit v0 v1 = some rr) : uMi l yX5_hasBit wsX5_hasBit rmX5_hasBit (dC, dI) [(cyC, .char), (cyI, .int), (cyJ, .long)] [.int v0, .int v1] [] [] rr := by
  refine uMi.of (cc := cX5_hasBit) (maxL := 2) (by decide) rfl (Nat.le_of_ble_eq_true rfl) (fun p e s m args below meth c A ls Q hx hb hml hown hts hA hP hK hD hE hS hl hret => ?_)
  have hown : s.vm.findClass RX5 = some m.cls := hown
  have hl : lv_has ls 2 [(0, .int v0), (1, .int v1)] := hl
  unfold m_X5_hasBit at h
  refine lv_iload_n hx hb dX5_hasBit_0 rfl (lv_at hl 0 rfl) ?_
  refine lv_iload_n hx hb dX5_hasBit_1 rfl (lv_at hl 1 rfl) ?_
  refine lv_ishr hx hb dX5_hasBit_2 ?_
  refine lv_iconst (v := 1) hx hb dX5_hasBit_3 (by decide) ?_
  refine lv_iand hx hb dX5_hasBit_4 ?_
  refine lv_if_eq (tgt := 12) hx hb dX5_hasBit_5 (by decide) (fun c_ => ?_) (fun c_ => ?_)
  · have h := (if_pos c_).symm.trans h
    refine lv_iconst (v := 0) hx hb dX5_hasBit_12 (by decide) ?_
    have h : some 0 = some rr := h
    have z0 := Option.some.inj h
    obtain rfl := z0
    exact hret _ _ _ _ hP hS rfl dX5_hasBit_13
  · have h := (if_neg c_).symm.trans h
    refine lv_iconst (v := 1) hx hb dX5_hasBit_8 (by decide) ?_
    refine lv_goto (tgt := 13) hx hb dX5_hasBit_9 (by decide) ?_
    have h : some 1 = some rr := h
    have z0 := Option.some.inj h
    obtain rfl := z0
    exact hret _ _ _ _ hP hS rfl dX5_hasBit_13

def m_X0_subjectsIn_4 (columnsWith_ : Nat → Int32) (v1 : Int32) (rec4 : Int32 → Int32 → Option (Int32)) : Int32 → Int32 → Option (Int32) := fun v2 v3 =>
  (if 10 ≤ v3 then some v2 else gd (inb v3 10) (bd1 (m_X5_hasBit (columnsWith_ v3.toNatClampNeg) v1) (fun r_1 => (if r_1 = 0 then lt' (v2 ||| 0) (fun v2_2 => lt' (v3 + 1) (fun v3_3 => rec4 v2_2 v3_3)) else lt' (v2 ||| ((1 : Int32) <<< (v3 &&& 31))) (fun v2_4 => lt' (v3 + 1) (fun v3_5 => rec4 v2_4 v3_5))))))
def m_X0_subjectsIn (columnsWith_ : Nat → Int32) (v1 : Int32) : Option (Int32) :=
  it2 (m_X0_subjectsIn_4 columnsWith_ v1) 1100 0 0
abbrev rmX0_subjectsIn : Room := { frames := 1, cells := 0, slots := 0, locals := 21 }
set_option maxHeartbeats 4000000 in
set_option maxRecDepth 100000 in
theorem c_X0_subjectsIn (l : Launch) (dC : Nat → ClassId) (dI : Nat → Nat → Nat) (cyC cyI cyJ : ClassId) (h0 h0_barsOf h0_subjectOf h0_teacherOf h0_seatsOf h0_columnOf h0_columnsWith : Nat) (columnCount_ : Int32) (roomCount_ : Int32) (size_ : Int32) (columnsWith_ : Nat → Int32) (v1 : Int32) (rr : Int32) (h : m_X0_subjectsIn columnsWith_ v1 = some rr) : uMi l yX0_subjectsIn wsX0_subjectsIn rmX0_subjectsIn (dC, dI) [(cyC, .char), (cyI, .int), (cyJ, .long)] [.ref h0, .int v1] [(h0, .inr (0, [.int columnCount_, .int roomCount_, .int size_, .ref h0_barsOf, .ref h0_subjectOf, .ref h0_teacherOf, .ref h0_seatsOf, .ref h0_columnOf, .ref h0_columnsWith])), (h0_columnsWith, .inl (cyI, 10, .inl columnsWith_))] [(h0, .inr (0, [.int columnCount_, .int roomCount_, .int size_, .ref h0_barsOf, .ref h0_subjectOf, .ref h0_teacherOf, .ref h0_seatsOf, .ref h0_columnOf, .ref h0_columnsWith])), (h0_columnsWith, .inl (cyI, 10, .inl columnsWith_))] rr := by
  refine uMi.of (cc := cX0_subjectsIn) (maxL := 4) (by decide) rfl (Nat.le_of_ble_eq_true rfl) (fun p e s m args below meth c A ls Q hx hb hml hown hts hA hP hK hD hE hS hl hret => ?_)
  have hown : s.vm.findClass RX0 = some m.cls := hown
  have hl : lv_has ls 4 [(0, .ref h0), (1, .int v1)] := hl
  have hiX0 : ∀ w ∈ u_ws RX0 TX0 9, w ∈ wsX0_subjectsIn := fun _ h9 => List.mem_cons_of_mem _ (List.mem_append_right _ h9)
  have L4 : ∀ (n4 : Nat), ∀ (v2 : Int32), ∀ (v3 : Int32), it2 (m_X0_subjectsIn_4 columnsWith_ v1) n4 v2 v3 = some rr → ∀ (H : Heap) (locs : List Loc) (ls : Array Slot), va_P (dC, dI) vwCl [(h0, .inr (0, [.int columnCount_, .int roomCount_, .int size_, .ref h0_barsOf, .ref h0_subjectOf, .ref h0_teacherOf, .ref h0_seatsOf, .ref h0_columnOf, .ref h0_columnsWith])), (h0_columnsWith, .inl (cyI, 10, .inl columnsWith_))] H → va_D A [(h0, .inr (0, [.int columnCount_, .int roomCount_, .int size_, .ref h0_barsOf, .ref h0_subjectOf, .ref h0_teacherOf, .ref h0_seatsOf, .ref h0_columnOf, .ref h0_columnsWith])), (h0_columnsWith, .inl (cyI, 10, .inl columnsWith_))] → va_S A s.heap H locs → lv_has ls 4 [(0, .ref h0), (1, .int v1), (2, .int v2), (3, .int v3)] → W p l e rmX0_subjectsIn s m args below meth c H locs 0 0 Q (F0 m 4 ls []) := by
    intro n4
    induction n4 with
    | zero => intro v2 v3 h; exact absurd h (fun z => it2_z z)
    | succ n4 ih4 =>
      intro v2 v3 h H locs ls hP hD hS hl
      have h : m_X0_subjectsIn_4 columnsWith_ v1 (it2 (m_X0_subjectsIn_4 columnsWith_ v1) n4) v2 v3 = some rr := h
      unfold m_X0_subjectsIn_4 at h
      refine lv_iload_n hx hb dX0_subjectsIn_4 rfl (lv_at hl 3 rfl) ?_
      refine lv_bipush (v := 10) hx hb dX0_subjectsIn_5 (by decide) ?_
      refine lv_icmp_ge (tgt := 39) hx hb dX0_subjectsIn_7 (by decide) (fun c_ => ?_) (fun c_ => ?_)
      · have h := (if_pos c_).symm.trans h
        refine lv_iload_n hx hb dX0_subjectsIn_39 rfl (lv_at hl 2 rfl) ?_
        have h : some v2 = some rr := h
        have z0 := Option.some.inj h
        obtain rfl := z0
        exact hret _ _ _ _ hP hS rfl dX0_subjectsIn_40
      · have h := (if_neg c_).symm.trans h
        refine lv_iload_n hx hb dX0_subjectsIn_10 rfl (lv_at hl 2 rfl) ?_
        refine lv_aload_n hx hb dX0_subjectsIn_11 rfl (lv_at hl 0 rfl) ?_
        refine va_get (D := (dC, dI)) (ci := 0) (v := .ref h0_columnsWith) (C := RX0) (T := TX0) (N := 9) hx hb hts hiX0 hown hK hP 0 rfl rfl 8 (by decide) (hts (.fieldLink RX0 37 "OptionLattice$Plan" "columnsWith" "[I") (by decide +kernel)) (fun _ h9 => h9) rfl dX0_subjectsIn_12 ?_
        refine lv_iload_n hx hb dX0_subjectsIn_15 rfl (lv_at hl 3 rfl) ?_
        obtain ⟨g_, h⟩ := gd_some h
        refine va_iald hx hb hK hP 1 1 rfl rfl (inb_in g_) dX0_subjectsIn_16 ?_
        refine lv_iload_n hx hb dX0_subjectsIn_17 rfl (lv_at hl 1 rfl) ?_
        obtain ⟨r_1, hq, h⟩ := bd1_some h
        refine uN_i (As := [.int (columnsWith_ v3.toNatClampNeg), .int v1]) (rest := [.int v2]) ⟨hx, hb, hml, hown, hts⟩ (c_X5_hasBit l dC dI cyC cyI cyJ (columnsWith_ v3.toNatClampNeg) v1 r_1 hq) ⟨va_cnB 2 hts gX0_subjectsIn_X5_hasBit_n58 rfl rfl rfl (hE.2.1 ("OptionLattice$Plan", 58, ⟨"OptionLattice", "hasBit", "(II)Z"⟩) (List.mem_of_getElem? (i := 8) rfl)) (hts (.initialized RX5) (by decide +kernel)) (by decide +kernel) ⟨Nat.le_of_ble_eq_true rfl, Nat.le_of_ble_eq_true rfl⟩, (hts (.static yX5_hasBit) (by decide +kernel)), trivial⟩ hK hE hA hP hD hS [] rfl rfl rfl rfl hl.1 rfl (Nat.le_of_ble_eq_true rfl) ⟨Nat.zero_le _, Nat.zero_le _⟩ dX0_subjectsIn_18 (fun H locs hP hD hS => ?_)
        have hP : va_P (dC, dI) vwCl [(h0, .inr (0, [.int columnCount_, .int roomCount_, .int size_, .ref h0_barsOf, .ref h0_subjectOf, .ref h0_teacherOf, .ref h0_seatsOf, .ref h0_columnOf, .ref h0_columnsWith])), (h0_columnsWith, .inl (cyI, 10, .inl columnsWith_))] H := hP
        have hD : va_D A [(h0, .inr (0, [.int columnCount_, .int roomCount_, .int size_, .ref h0_barsOf, .ref h0_subjectOf, .ref h0_teacherOf, .ref h0_seatsOf, .ref h0_columnOf, .ref h0_columnsWith])), (h0_columnsWith, .inl (cyI, 10, .inl columnsWith_))] := hD
        refine lv_if_eq (tgt := 30) hx hb dX0_subjectsIn_21 (by decide) (fun c_ => ?_) (fun c_ => ?_)
        · have h := (if_pos c_).symm.trans h
          refine lv_iconst (v := 0) hx hb dX0_subjectsIn_30 (by decide) ?_
          refine lv_ior hx hb dX0_subjectsIn_31 ?_
          refine lv_topi (fun v2_2 e_v2_2 => ?_)
          have h := lt_use e_v2_2 h
          refine lv_istore_n (lv' := [(2, .int v2_2), (0, .ref h0), (1, .int v1), (3, .int v3)]) hx hb dX0_subjectsIn_32 rfl hl (by decide) rfl (fun ls hl => ?_)
          obtain ⟨v3_3, e_v3_3⟩ : ∃ z : Int32, z = (v3 + 1) := ⟨_, rfl⟩
          have h := lt_use e_v3_3 h
          refine lv_iinc (v := v3_3) (lv' := [(3, .int v3_3), (2, .int v2_2), (0, .ref h0), (1, .int v1)]) hx hb dX0_subjectsIn_33 hl (k := 3) rfl (by rw [e_v3_3]; rfl) (by decide) rfl (fun ls hl => ?_)
          refine lv_goto (tgt := 4) hx hb dX0_subjectsIn_36 (by decide) ?_
          exact ih4 v2_2 v3_3 h _ _ _ hP hD hS (lv_sub hl [2, 3, 1, 0] rfl)
        · have h := (if_neg c_).symm.trans h
          refine lv_iconst (v := 1) hx hb dX0_subjectsIn_24 (by decide) ?_
          refine lv_iload_n hx hb dX0_subjectsIn_25 rfl (lv_at hl 3 rfl) ?_
          refine lv_ishl hx hb dX0_subjectsIn_26 ?_
          refine lv_goto (tgt := 31) hx hb dX0_subjectsIn_27 (by decide) ?_
          refine lv_ior hx hb dX0_subjectsIn_31 ?_
          refine lv_topi (fun v2_4 e_v2_4 => ?_)
          have h := lt_use e_v2_4 h
          refine lv_istore_n (lv' := [(2, .int v2_4), (0, .ref h0), (1, .int v1), (3, .int v3)]) hx hb dX0_subjectsIn_32 rfl hl (by decide) rfl (fun ls hl => ?_)
          obtain ⟨v3_5, e_v3_5⟩ : ∃ z : Int32, z = (v3 + 1) := ⟨_, rfl⟩
          have h := lt_use e_v3_5 h
          refine lv_iinc (v := v3_5) (lv' := [(3, .int v3_5), (2, .int v2_4), (0, .ref h0), (1, .int v1)]) hx hb dX0_subjectsIn_33 hl (k := 3) rfl (by rw [e_v3_5]; rfl) (by decide) rfl (fun ls hl => ?_)
          refine lv_goto (tgt := 4) hx hb dX0_subjectsIn_36 (by decide) ?_
          exact ih4 v2_4 v3_5 h _ _ _ hP hD hS (lv_sub hl [2, 3, 1, 0] rfl)
  unfold m_X0_subjectsIn at h
  refine lv_iconst (v := 0) hx hb dX0_subjectsIn_0 (by decide) ?_
  refine lv_istore_n (lv' := [(2, .int 0), (0, .ref h0), (1, .int v1)]) hx hb dX0_subjectsIn_1 rfl hl (by decide) rfl (fun ls hl => ?_)
  refine lv_iconst (v := 0) hx hb dX0_subjectsIn_2 (by decide) ?_
  refine lv_istore_n (lv' := [(3, .int 0), (2, .int 0), (0, .ref h0), (1, .int v1)]) hx hb dX0_subjectsIn_3 rfl hl (by decide) rfl (fun ls hl => ?_)
  exact L4  1100 0 0 h _ _ _ hP hD hS (lv_sub hl [2, 3, 1, 0] rfl)

def m_J6_bitCount_0f7a4 (v0 : Int32) : Option (Int32) :=
  lt' (v0 - ((iushr v0 1) &&& 1431655765)) (fun v0_1 => lt' ((v0_1 &&& 858993459) + ((iushr v0_1 2) &&& 858993459)) (fun v0_2 => lt' ((v0_2 + (iushr v0_2 4)) &&& 252645135) (fun v0_3 => lt' (v0_3 + (iushr v0_3 8)) (fun v0_4 => lt' (v0_4 + (iushr v0_4 16)) (fun v0_5 => some (v0_5 &&& 63))))))
abbrev rmJ6_bitCount_0f7a4 : Room := { frames := 0, cells := 0, slots := 0, locals := 0 }
set_option maxHeartbeats 4000000 in
set_option maxRecDepth 100000 in
theorem c_J6_bitCount_0f7a4 (l : Launch) (dC : Nat → ClassId) (dI : Nat → Nat → Nat) (cyC cyI cyJ : ClassId) (v0 : Int32) (rr : Int32) (h : m_J6_bitCount_0f7a4 v0 = some rr) : uMi l yJ6_bitCount_0f7a4 wsJ6_bitCount_0f7a4 rmJ6_bitCount_0f7a4 (dC, dI) [(cyC, .char), (cyI, .int), (cyJ, .long)] [.int v0] [] [] rr := by
  refine uMi.of (cc := cJ6_bitCount_0f7a4) (maxL := 1) (by decide) rfl (Nat.le_of_ble_eq_true rfl) (fun p e s m args below meth c A ls Q hx hb hml hown hts hA hP hK hD hE hS hl hret => ?_)
  have hown : s.vm.findClass RJ6 = some m.cls := hown
  have hl : lv_has ls 1 [(0, .int v0)] := hl
  unfold m_J6_bitCount_0f7a4 at h
  refine lv_iload_n hx hb dJ6_bitCount_0f7a4_0 rfl (lv_at hl 0 rfl) ?_
  refine lv_iload_n hx hb dJ6_bitCount_0f7a4_1 rfl (lv_at hl 0 rfl) ?_
  refine lv_iconst (v := 1) hx hb dJ6_bitCount_0f7a4_2 (by decide) ?_
  refine lv_iushr (v := (iushr v0 1)) hx hb dJ6_bitCount_0f7a4_3 rfl ?_
  refine lv_ldcw hx hb hown (hts (.constant RJ6 265 (1431655765)) (by decide +kernel)) dJ6_bitCount_0f7a4_4 ?_
  refine lv_iand hx hb dJ6_bitCount_0f7a4_7 ?_
  refine lv_isub hx hb dJ6_bitCount_0f7a4_8 ?_
  refine lv_topi (fun v0_1 e_v0_1 => ?_)
  have h := lt_use e_v0_1 h
  refine lv_istore_n (lv' := [(0, .int v0_1)]) hx hb dJ6_bitCount_0f7a4_9 rfl hl (by decide) rfl (fun ls hl => ?_)
  refine lv_iload_n hx hb dJ6_bitCount_0f7a4_10 rfl (lv_at hl 0 rfl) ?_
  refine lv_ldcw hx hb hown (hts (.constant RJ6 266 (858993459)) (by decide +kernel)) dJ6_bitCount_0f7a4_11 ?_
  refine lv_iand hx hb dJ6_bitCount_0f7a4_14 ?_
  refine lv_iload_n hx hb dJ6_bitCount_0f7a4_15 rfl (lv_at hl 0 rfl) ?_
  refine lv_iconst (v := 2) hx hb dJ6_bitCount_0f7a4_16 (by decide) ?_
  refine lv_iushr (v := (iushr v0_1 2)) hx hb dJ6_bitCount_0f7a4_17 rfl ?_
  refine lv_ldcw hx hb hown (hts (.constant RJ6 266 (858993459)) (by decide +kernel)) dJ6_bitCount_0f7a4_18 ?_
  refine lv_iand hx hb dJ6_bitCount_0f7a4_21 ?_
  refine lv_iadd hx hb dJ6_bitCount_0f7a4_22 ?_
  refine lv_topi (fun v0_2 e_v0_2 => ?_)
  have h := lt_use e_v0_2 h
  refine lv_istore_n (lv' := [(0, .int v0_2)]) hx hb dJ6_bitCount_0f7a4_23 rfl hl (by decide) rfl (fun ls hl => ?_)
  refine lv_iload_n hx hb dJ6_bitCount_0f7a4_24 rfl (lv_at hl 0 rfl) ?_
  refine lv_iload_n hx hb dJ6_bitCount_0f7a4_25 rfl (lv_at hl 0 rfl) ?_
  refine lv_iconst (v := 4) hx hb dJ6_bitCount_0f7a4_26 (by decide) ?_
  refine lv_iushr (v := (iushr v0_2 4)) hx hb dJ6_bitCount_0f7a4_27 rfl ?_
  refine lv_iadd hx hb dJ6_bitCount_0f7a4_28 ?_
  refine lv_ldcw hx hb hown (hts (.constant RJ6 267 (252645135)) (by decide +kernel)) dJ6_bitCount_0f7a4_29 ?_
  refine lv_iand hx hb dJ6_bitCount_0f7a4_32 ?_
  refine lv_topi (fun v0_3 e_v0_3 => ?_)
  have h := lt_use e_v0_3 h
  refine lv_istore_n (lv' := [(0, .int v0_3)]) hx hb dJ6_bitCount_0f7a4_33 rfl hl (by decide) rfl (fun ls hl => ?_)
  refine lv_iload_n hx hb dJ6_bitCount_0f7a4_34 rfl (lv_at hl 0 rfl) ?_
  refine lv_iload_n hx hb dJ6_bitCount_0f7a4_35 rfl (lv_at hl 0 rfl) ?_
  refine lv_bipush (v := 8) hx hb dJ6_bitCount_0f7a4_36 (by decide) ?_
  refine lv_iushr (v := (iushr v0_3 8)) hx hb dJ6_bitCount_0f7a4_38 rfl ?_
  refine lv_iadd hx hb dJ6_bitCount_0f7a4_39 ?_
  refine lv_topi (fun v0_4 e_v0_4 => ?_)
  have h := lt_use e_v0_4 h
  refine lv_istore_n (lv' := [(0, .int v0_4)]) hx hb dJ6_bitCount_0f7a4_40 rfl hl (by decide) rfl (fun ls hl => ?_)
  refine lv_iload_n hx hb dJ6_bitCount_0f7a4_41 rfl (lv_at hl 0 rfl) ?_
  refine lv_iload_n hx hb dJ6_bitCount_0f7a4_42 rfl (lv_at hl 0 rfl) ?_
  refine lv_bipush (v := 16) hx hb dJ6_bitCount_0f7a4_43 (by decide) ?_
  refine lv_iushr (v := (iushr v0_4 16)) hx hb dJ6_bitCount_0f7a4_45 rfl ?_
  refine lv_iadd hx hb dJ6_bitCount_0f7a4_46 ?_
  refine lv_topi (fun v0_5 e_v0_5 => ?_)
  have h := lt_use e_v0_5 h
  refine lv_istore_n (lv' := [(0, .int v0_5)]) hx hb dJ6_bitCount_0f7a4_47 rfl hl (by decide) rfl (fun ls hl => ?_)
  refine lv_iload_n hx hb dJ6_bitCount_0f7a4_48 rfl (lv_at hl 0 rfl) ?_
  refine lv_bipush (v := 63) hx hb dJ6_bitCount_0f7a4_49 (by decide) ?_
  refine lv_iand hx hb dJ6_bitCount_0f7a4_51 ?_
  have h : some (v0_5 &&& 63) = some rr := h
  have z0 := Option.some.inj h
  obtain rfl := z0
  exact hret _ _ _ _ hP hS rfl dJ6_bitCount_0f7a4_52

def m_X0_fullColumns_4 (columnCount_ : Int32) (roomCount_ : Int32) (size_ : Int32) (columnOf_ : Nat → Int32) (rec4 : Int32 → Int32 → Option (Int32)) : Int32 → Int32 → Option (Int32) := fun v1 v2 =>
  (if columnCount_ ≤ v2 then some v1 else bd1 (m_X0_sectionsIn size_ columnOf_ v2) (fun r_1 => bd1 (m_J6_bitCount_0f7a4 r_1) (fun r_2 => (if r_2 < roomCount_ then lt' (v1 ||| 0) (fun v1_3 => lt' (v2 + 1) (fun v2_4 => rec4 v1_3 v2_4)) else lt' (v1 ||| ((1 : Int32) <<< (v2 &&& 31))) (fun v1_5 => lt' (v2 + 1) (fun v2_6 => rec4 v1_5 v2_6))))))
def m_X0_fullColumns (columnCount_ : Int32) (roomCount_ : Int32) (size_ : Int32) (columnOf_ : Nat → Int32) : Option (Int32) :=
  it2 (m_X0_fullColumns_4 columnCount_ roomCount_ size_ columnOf_) 1100 0 0
abbrev rmX0_fullColumns : Room := { frames := 1, cells := 0, slots := 0, locals := 23 }
set_option maxHeartbeats 4000000 in
set_option maxRecDepth 100000 in
theorem c_X0_fullColumns (l : Launch) (dC : Nat → ClassId) (dI : Nat → Nat → Nat) (cyC cyI cyJ : ClassId) (h0 h0_barsOf h0_subjectOf h0_teacherOf h0_seatsOf h0_columnOf h0_columnsWith : Nat) (columnCount_ : Int32) (roomCount_ : Int32) (size_ : Int32) (columnOf_ : Nat → Int32) (rr : Int32) (h : m_X0_fullColumns columnCount_ roomCount_ size_ columnOf_ = some rr) : uMi l yX0_fullColumns wsX0_fullColumns rmX0_fullColumns (dC, dI) [(cyC, .char), (cyI, .int), (cyJ, .long)] [.ref h0] [(h0, .inr (0, [.int columnCount_, .int roomCount_, .int size_, .ref h0_barsOf, .ref h0_subjectOf, .ref h0_teacherOf, .ref h0_seatsOf, .ref h0_columnOf, .ref h0_columnsWith])), (h0_columnOf, .inl (cyI, 16, .inl columnOf_))] [(h0, .inr (0, [.int columnCount_, .int roomCount_, .int size_, .ref h0_barsOf, .ref h0_subjectOf, .ref h0_teacherOf, .ref h0_seatsOf, .ref h0_columnOf, .ref h0_columnsWith])), (h0_columnOf, .inl (cyI, 16, .inl columnOf_))] rr := by
  refine uMi.of (cc := cX0_fullColumns) (maxL := 3) (by decide) rfl (Nat.le_of_ble_eq_true rfl) (fun p e s m args below meth c A ls Q hx hb hml hown hts hA hP hK hD hE hS hl hret => ?_)
  have hown : s.vm.findClass RX0 = some m.cls := hown
  have hl : lv_has ls 3 [(0, .ref h0)] := hl
  have hiX0 : ∀ w ∈ u_ws RX0 TX0 9, w ∈ wsX0_fullColumns := fun _ h9 => List.mem_cons_of_mem _ (List.mem_append_right _ h9)
  have L4 : ∀ (n4 : Nat), ∀ (v1 : Int32), ∀ (v2 : Int32), it2 (m_X0_fullColumns_4 columnCount_ roomCount_ size_ columnOf_) n4 v1 v2 = some rr → ∀ (H : Heap) (locs : List Loc) (ls : Array Slot), va_P (dC, dI) vwCl [(h0, .inr (0, [.int columnCount_, .int roomCount_, .int size_, .ref h0_barsOf, .ref h0_subjectOf, .ref h0_teacherOf, .ref h0_seatsOf, .ref h0_columnOf, .ref h0_columnsWith])), (h0_columnOf, .inl (cyI, 16, .inl columnOf_))] H → va_D A [(h0, .inr (0, [.int columnCount_, .int roomCount_, .int size_, .ref h0_barsOf, .ref h0_subjectOf, .ref h0_teacherOf, .ref h0_seatsOf, .ref h0_columnOf, .ref h0_columnsWith])), (h0_columnOf, .inl (cyI, 16, .inl columnOf_))] → va_S A s.heap H locs → lv_has ls 3 [(0, .ref h0), (1, .int v1), (2, .int v2)] → W p l e rmX0_fullColumns s m args below meth c H locs 0 0 Q (F0 m 4 ls []) := by
    intro n4
    induction n4 with
    | zero => intro v1 v2 h; exact absurd h (fun z => it2_z z)
    | succ n4 ih4 =>
      intro v1 v2 h H locs ls hP hD hS hl
      have h : m_X0_fullColumns_4 columnCount_ roomCount_ size_ columnOf_ (it2 (m_X0_fullColumns_4 columnCount_ roomCount_ size_ columnOf_) n4) v1 v2 = some rr := h
      unfold m_X0_fullColumns_4 at h
      refine lv_iload_n hx hb dX0_fullColumns_4 rfl (lv_at hl 2 rfl) ?_
      refine lv_aload_n hx hb dX0_fullColumns_5 rfl (lv_at hl 0 rfl) ?_
      refine va_get (D := (dC, dI)) (ci := 0) (v := .int columnCount_) (C := RX0) (T := TX0) (N := 9) hx hb hts hiX0 hown hK hP 0 rfl rfl 0 (by decide) (hts (.fieldLink RX0 9 "OptionLattice$Plan" "columnCount" "I") (by decide +kernel)) (fun _ h9 => h9) rfl dX0_fullColumns_6 ?_
      refine lv_icmp_ge (tgt := 43) hx hb dX0_fullColumns_9 (by decide) (fun c_ => ?_) (fun c_ => ?_)
      · have h := (if_pos c_).symm.trans h
        refine lv_iload_n hx hb dX0_fullColumns_43 rfl (lv_at hl 1 rfl) ?_
        have h : some v1 = some rr := h
        have z0 := Option.some.inj h
        obtain rfl := z0
        exact hret _ _ _ _ hP hS rfl dX0_fullColumns_44
      · have h := (if_neg c_).symm.trans h
        refine lv_iload_n hx hb dX0_fullColumns_12 rfl (lv_at hl 1 rfl) ?_
        refine lv_aload_n hx hb dX0_fullColumns_13 rfl (lv_at hl 0 rfl) ?_
        refine lv_iload_n hx hb dX0_fullColumns_14 rfl (lv_at hl 2 rfl) ?_
        obtain ⟨r_1, hq, h⟩ := bd1_some h
        refine uV_i (b := h0) (As := [.int v2]) (rest := [.int v1]) ⟨hx, hb, hml, hown, hts⟩ (c_X0_sectionsIn l dC dI cyC cyI cyJ h0 h0_barsOf h0_subjectOf h0_teacherOf h0_seatsOf h0_columnOf h0_columnsWith columnCount_ roomCount_ size_ columnOf_ v2 r_1 hq) (cwV 1 hts gX0_fullColumns_X0_sectionsIn rfl rfl rfl (by decide +kernel) ⟨Nat.le_of_ble_eq_true rfl, Nat.le_of_ble_eq_true rfl⟩) hK hE hA hP hD hS [0, 1] rfl rfl rfl 0 0 rfl rfl rfl hl.1 rfl (Nat.le_of_ble_eq_true rfl) ⟨Nat.zero_le _, Nat.zero_le _⟩ dX0_fullColumns_15 (fun H locs hP hD hS => ?_)
        have hP : va_P (dC, dI) vwCl [(h0, .inr (0, [.int columnCount_, .int roomCount_, .int size_, .ref h0_barsOf, .ref h0_subjectOf, .ref h0_teacherOf, .ref h0_seatsOf, .ref h0_columnOf, .ref h0_columnsWith])), (h0_columnOf, .inl (cyI, 16, .inl columnOf_))] H := hP
        have hD : va_D A [(h0, .inr (0, [.int columnCount_, .int roomCount_, .int size_, .ref h0_barsOf, .ref h0_subjectOf, .ref h0_teacherOf, .ref h0_seatsOf, .ref h0_columnOf, .ref h0_columnsWith])), (h0_columnOf, .inl (cyI, 16, .inl columnOf_))] := hD
        obtain ⟨r_2, hq, h⟩ := bd1_some h
        refine uS_i (As := [.int r_1]) (rest := [.int v1]) ⟨hx, hb, hml, hown, hts⟩ (c_J6_bitCount_0f7a4 l dC dI cyC cyI cyJ r_1 r_2 hq) (va_cwS 1 hts gX0_fullColumns_J6_bitCount_0f7a4 rfl rfl rfl (by decide +kernel) ⟨Nat.le_of_ble_eq_true rfl, Nat.le_of_ble_eq_true rfl⟩) hK hE hA hP hD hS [] rfl rfl rfl rfl hl.1 rfl (Nat.le_of_ble_eq_true rfl) ⟨Nat.zero_le _, Nat.zero_le _⟩ dX0_fullColumns_18 (fun H locs hP hD hS => ?_)
        have hP : va_P (dC, dI) vwCl [(h0, .inr (0, [.int columnCount_, .int roomCount_, .int size_, .ref h0_barsOf, .ref h0_subjectOf, .ref h0_teacherOf, .ref h0_seatsOf, .ref h0_columnOf, .ref h0_columnsWith])), (h0_columnOf, .inl (cyI, 16, .inl columnOf_))] H := hP
        have hD : va_D A [(h0, .inr (0, [.int columnCount_, .int roomCount_, .int size_, .ref h0_barsOf, .ref h0_subjectOf, .ref h0_teacherOf, .ref h0_seatsOf, .ref h0_columnOf, .ref h0_columnsWith])), (h0_columnOf, .inl (cyI, 16, .inl columnOf_))] := hD
        refine lv_aload_n hx hb dX0_fullColumns_21 rfl (lv_at hl 0 rfl) ?_
        refine va_get (D := (dC, dI)) (ci := 0) (v := .int roomCount_) (C := RX0) (T := TX0) (N := 9) hx hb hts hiX0 hown hK hP 0 rfl rfl 1 (by decide) (hts (.fieldLink RX0 15 "OptionLattice$Plan" "roomCount" "I") (by decide +kernel)) (fun _ h9 => h9) rfl dX0_fullColumns_22 ?_
        refine lv_icmp_lt (tgt := 34) hx hb dX0_fullColumns_25 (by decide) (fun c_ => ?_) (fun c_ => ?_)
        · have h := (if_pos c_).symm.trans h
          refine lv_iconst (v := 0) hx hb dX0_fullColumns_34 (by decide) ?_
          refine lv_ior hx hb dX0_fullColumns_35 ?_
          refine lv_topi (fun v1_3 e_v1_3 => ?_)
          have h := lt_use e_v1_3 h
          refine lv_istore_n (lv' := [(1, .int v1_3), (0, .ref h0), (2, .int v2)]) hx hb dX0_fullColumns_36 rfl hl (by decide) rfl (fun ls hl => ?_)
          obtain ⟨v2_4, e_v2_4⟩ : ∃ z : Int32, z = (v2 + 1) := ⟨_, rfl⟩
          have h := lt_use e_v2_4 h
          refine lv_iinc (v := v2_4) (lv' := [(2, .int v2_4), (1, .int v1_3), (0, .ref h0)]) hx hb dX0_fullColumns_37 hl (k := 2) rfl (by rw [e_v2_4]; rfl) (by decide) rfl (fun ls hl => ?_)
          refine lv_goto (tgt := 4) hx hb dX0_fullColumns_40 (by decide) ?_
          exact ih4 v1_3 v2_4 h _ _ _ hP hD hS (lv_sub hl [2, 1, 0] rfl)
        · have h := (if_neg c_).symm.trans h
          refine lv_iconst (v := 1) hx hb dX0_fullColumns_28 (by decide) ?_
          refine lv_iload_n hx hb dX0_fullColumns_29 rfl (lv_at hl 2 rfl) ?_
          refine lv_ishl hx hb dX0_fullColumns_30 ?_
          refine lv_goto (tgt := 35) hx hb dX0_fullColumns_31 (by decide) ?_
          refine lv_ior hx hb dX0_fullColumns_35 ?_
          refine lv_topi (fun v1_5 e_v1_5 => ?_)
          have h := lt_use e_v1_5 h
          refine lv_istore_n (lv' := [(1, .int v1_5), (0, .ref h0), (2, .int v2)]) hx hb dX0_fullColumns_36 rfl hl (by decide) rfl (fun ls hl => ?_)
          obtain ⟨v2_6, e_v2_6⟩ : ∃ z : Int32, z = (v2 + 1) := ⟨_, rfl⟩
          have h := lt_use e_v2_6 h
          refine lv_iinc (v := v2_6) (lv' := [(2, .int v2_6), (1, .int v1_5), (0, .ref h0)]) hx hb dX0_fullColumns_37 hl (k := 2) rfl (by rw [e_v2_6]; rfl) (by decide) rfl (fun ls hl => ?_)
          refine lv_goto (tgt := 4) hx hb dX0_fullColumns_40 (by decide) ?_
          exact ih4 v1_5 v2_6 h _ _ _ hP hD hS (lv_sub hl [2, 1, 0] rfl)
  unfold m_X0_fullColumns at h
  refine lv_iconst (v := 0) hx hb dX0_fullColumns_0 (by decide) ?_
  refine lv_istore_n (lv' := [(1, .int 0), (0, .ref h0)]) hx hb dX0_fullColumns_1 rfl hl (by decide) rfl (fun ls hl => ?_)
  refine lv_iconst (v := 0) hx hb dX0_fullColumns_2 (by decide) ?_
  refine lv_istore_n (lv' := [(2, .int 0), (1, .int 0), (0, .ref h0)]) hx hb dX0_fullColumns_3 rfl hl (by decide) rfl (fun ls hl => ?_)
  exact L4  1100 0 0 h _ _ _ hP hD hS (lv_sub hl [2, 1, 0] rfl)
