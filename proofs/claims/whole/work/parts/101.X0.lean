def m_X0_busyTeachers_6 (size_ : Int32) (teacherOf_ : Nat → Int32) (rec6 : Int32 → Int32 → Int32 → Option (Int32)) : Int32 → Int32 → Int32 → Option (Int32) := fun v1 v2 v3 =>
  (if size_ ≤ v3 then some v2 else gd (inb v3 16) (lt' ((1 : Int32) <<< ((teacherOf_ v3.toNatClampNeg) &&& 31)) (fun v4_1 => lt' (v2 ||| (v1 &&& v4_1)) (fun v2_2 => lt' (v1 ||| v4_1) (fun v1_3 => lt' (v3 + 1) (fun v3_4 => rec6 v1_3 v2_2 v3_4))))))
def m_X0_busyTeachers (size_ : Int32) (teacherOf_ : Nat → Int32) : Option (Int32) :=
  it3 (m_X0_busyTeachers_6 size_ teacherOf_) 1100 0 0 0
abbrev rmX0_busyTeachers : Room := { frames := 0, cells := 0, slots := 0, locals := 0 }
set_option maxHeartbeats 4000000 in
set_option maxRecDepth 100000 in
theorem c_X0_busyTeachers (l : Launch) (dC : Nat → ClassId) (dI : Nat → Nat → Nat) (cyC cyI cyJ : ClassId) (h0 h0_barsOf h0_subjectOf h0_teacherOf h0_seatsOf h0_columnOf h0_columnsWith : Nat) (columnCount_ : Int32) (roomCount_ : Int32) (size_ : Int32) (teacherOf_ : Nat → Int32) (rr : Int32) (h : m_X0_busyTeachers size_ teacherOf_ = some rr) : uMi l yX0_busyTeachers wsX0_busyTeachers rmX0_busyTeachers (dC, dI) [(cyC, .char), (cyI, .int), (cyJ, .long)] [.ref h0] [(h0, .inr (0, [.int columnCount_, .int roomCount_, .int size_, .ref h0_barsOf, .ref h0_subjectOf, .ref h0_teacherOf, .ref h0_seatsOf, .ref h0_columnOf, .ref h0_columnsWith])), (h0_teacherOf, .inl (cyI, 16, .inl teacherOf_))] [(h0, .inr (0, [.int columnCount_, .int roomCount_, .int size_, .ref h0_barsOf, .ref h0_subjectOf, .ref h0_teacherOf, .ref h0_seatsOf, .ref h0_columnOf, .ref h0_columnsWith])), (h0_teacherOf, .inl (cyI, 16, .inl teacherOf_))] rr := by
  refine uMi.of (cc := cX0_busyTeachers) (maxL := 5) (by decide) rfl (Nat.le_of_ble_eq_true rfl) (fun p e s m args below meth c A ls Q hx hb hml hown hts hA hP hK hD hE hS hl hret => ?_)
  have hown : s.vm.findClass RX0 = some m.cls := hown
  have hl : lv_has ls 5 [(0, .ref h0)] := hl
  have hiX0 : ∀ w ∈ u_ws RX0 TX0 9, w ∈ wsX0_busyTeachers := fun _ h9 => List.mem_cons_of_mem _ (List.mem_append_right _ h9)
  have L6 : ∀ (n6 : Nat), ∀ (v1 : Int32), ∀ (v2 : Int32), ∀ (v3 : Int32), it3 (m_X0_busyTeachers_6 size_ teacherOf_) n6 v1 v2 v3 = some rr → ∀ (H : Heap) (locs : List Loc) (ls : Array Slot), va_P (dC, dI) vwCl [(h0, .inr (0, [.int columnCount_, .int roomCount_, .int size_, .ref h0_barsOf, .ref h0_subjectOf, .ref h0_teacherOf, .ref h0_seatsOf, .ref h0_columnOf, .ref h0_columnsWith])), (h0_teacherOf, .inl (cyI, 16, .inl teacherOf_))] H → va_D A [(h0, .inr (0, [.int columnCount_, .int roomCount_, .int size_, .ref h0_barsOf, .ref h0_subjectOf, .ref h0_teacherOf, .ref h0_seatsOf, .ref h0_columnOf, .ref h0_columnsWith])), (h0_teacherOf, .inl (cyI, 16, .inl teacherOf_))] → va_S A s.heap H locs → lv_has ls 5 [(0, .ref h0), (1, .int v1), (2, .int v2), (3, .int v3)] → W p l e rmX0_busyTeachers s m args below meth c H locs 0 0 Q (F0 m 6 ls []) := by
    intro n6
    induction n6 with
    | zero => intro v1 v2 v3 h; exact absurd h (fun z => it3_z z)
    | succ n6 ih6 =>
      intro v1 v2 v3 h H locs ls hP hD hS hl
      have h : m_X0_busyTeachers_6 size_ teacherOf_ (it3 (m_X0_busyTeachers_6 size_ teacherOf_) n6) v1 v2 v3 = some rr := h
      unfold m_X0_busyTeachers_6 at h
      refine lv_iload_n hx hb dX0_busyTeachers_6 rfl (lv_at hl 3 rfl) ?_
      refine lv_aload_n hx hb dX0_busyTeachers_7 rfl (lv_at hl 0 rfl) ?_
      refine va_get (D := (dC, dI)) (ci := 0) (v := .int size_) (C := RX0) (T := TX0) (N := 9) hx hb hts hiX0 hown hK hP 0 rfl rfl 2 (by decide) (hts (.fieldLink RX0 18 "OptionLattice$Plan" "size" "I") (by decide +kernel)) (fun _ h9 => h9) rfl dX0_busyTeachers_8 ?_
      refine lv_icmp_ge (tgt := 42) hx hb dX0_busyTeachers_11 (by decide) (fun c_ => ?_) (fun c_ => ?_)
      · have h := (if_pos c_).symm.trans h
        refine lv_iload_n hx hb dX0_busyTeachers_42 rfl (lv_at hl 2 rfl) ?_
        have h : some v2 = some rr := h
        have z0 := Option.some.inj h
        obtain rfl := z0
        exact hret _ _ _ _ hP hS rfl dX0_busyTeachers_43
      · have h := (if_neg c_).symm.trans h
        refine lv_iconst (v := 1) hx hb dX0_busyTeachers_14 (by decide) ?_
        refine lv_aload_n hx hb dX0_busyTeachers_15 rfl (lv_at hl 0 rfl) ?_
        refine va_get (D := (dC, dI)) (ci := 0) (v := .ref h0_teacherOf) (C := RX0) (T := TX0) (N := 9) hx hb hts hiX0 hown hK hP 0 rfl rfl 5 (by decide) (hts (.fieldLink RX0 28 "OptionLattice$Plan" "teacherOf" "[I") (by decide +kernel)) (fun _ h9 => h9) rfl dX0_busyTeachers_16 ?_
        refine lv_iload_n hx hb dX0_busyTeachers_19 rfl (lv_at hl 3 rfl) ?_
        obtain ⟨g_, h⟩ := gd_some h
        refine va_iald hx hb hK hP 1 1 rfl rfl (inb_in g_) dX0_busyTeachers_20 ?_
        refine lv_ishl hx hb dX0_busyTeachers_21 ?_
        refine lv_topi (fun v4_1 e_v4_1 => ?_)
        have h := lt_use e_v4_1 h
        refine lv_istore (lv' := [(4, .int v4_1), (0, .ref h0), (1, .int v1), (2, .int v2), (3, .int v3)]) hx hb dX0_busyTeachers_22 hl (by decide) rfl (fun ls hl => ?_)
        refine lv_iload_n hx hb dX0_busyTeachers_24 rfl (lv_at hl 3 rfl) ?_
        refine lv_iload_n hx hb dX0_busyTeachers_25 rfl (lv_at hl 2 rfl) ?_
        refine lv_iload hx hb dX0_busyTeachers_26 (lv_at hl 0 rfl) ?_
        refine lv_iand hx hb dX0_busyTeachers_28 ?_
        refine lv_ior hx hb dX0_busyTeachers_29 ?_
        refine lv_topi (fun v2_2 e_v2_2 => ?_)
        have h := lt_use e_v2_2 h
        refine lv_istore_n (lv' := [(2, .int v2_2), (4, .int v4_1), (0, .ref h0), (1, .int v1), (3, .int v3)]) hx hb dX0_busyTeachers_30 rfl hl (by decide) rfl (fun ls hl => ?_)
        refine lv_iload_n hx hb dX0_busyTeachers_31 rfl (lv_at hl 3 rfl) ?_
        refine lv_iload hx hb dX0_busyTeachers_32 (lv_at hl 1 rfl) ?_
        refine lv_ior hx hb dX0_busyTeachers_34 ?_
        refine lv_topi (fun v1_3 e_v1_3 => ?_)
        have h := lt_use e_v1_3 h
        refine lv_istore_n (lv' := [(1, .int v1_3), (2, .int v2_2), (4, .int v4_1), (0, .ref h0), (3, .int v3)]) hx hb dX0_busyTeachers_35 rfl hl (by decide) rfl (fun ls hl => ?_)
        obtain ⟨v3_4, e_v3_4⟩ : ∃ z : Int32, z = (v3 + 1) := ⟨_, rfl⟩
        have h := lt_use e_v3_4 h
        refine lv_iinc (v := v3_4) (lv' := [(3, .int v3_4), (1, .int v1_3), (2, .int v2_2), (4, .int v4_1), (0, .ref h0)]) hx hb dX0_busyTeachers_36 hl (k := 4) rfl (by rw [e_v3_4]; rfl) (by decide) rfl (fun ls hl => ?_)
        refine lv_goto (tgt := 6) hx hb dX0_busyTeachers_39 (by decide) ?_
        exact ih6 v1_3 v2_2 v3_4 h _ _ _ hP hD hS (lv_sub hl [4, 1, 2, 0] rfl)
  unfold m_X0_busyTeachers at h
  refine lv_iconst (v := 0) hx hb dX0_busyTeachers_0 (by decide) ?_
  refine lv_istore_n (lv' := [(1, .int 0), (0, .ref h0)]) hx hb dX0_busyTeachers_1 rfl hl (by decide) rfl (fun ls hl => ?_)
  refine lv_iconst (v := 0) hx hb dX0_busyTeachers_2 (by decide) ?_
  refine lv_istore_n (lv' := [(2, .int 0), (1, .int 0), (0, .ref h0)]) hx hb dX0_busyTeachers_3 rfl hl (by decide) rfl (fun ls hl => ?_)
  refine lv_iconst (v := 0) hx hb dX0_busyTeachers_4 (by decide) ?_
  refine lv_istore_n (lv' := [(3, .int 0), (2, .int 0), (1, .int 0), (0, .ref h0)]) hx hb dX0_busyTeachers_5 rfl hl (by decide) rfl (fun ls hl => ?_)
  exact L6  1100 0 0 0 h _ _ _ hP hD hS (lv_sub hl [3, 2, 1, 0] rfl)

def m_X0_obstacle_67 (roomCount_ : Int32) (barsOf_ : Nat → Int32) (v2 : Int32) (v3 : Int32) (v4 : Int32) (v5 : Int32) : Option (Int32) :=
  (if v5 = 0 then gd (inb v2 10) (bd1 (m_X5_hasBit (barsOf_ v2.toNatClampNeg) v3) (fun r_1 => (if r_1 = 0 then (if roomCount_ ≤ v4 then some 3 else some 0) else some 2))) else some 1)
def m_X0_obstacle_9 (roomCount_ : Int32) (size_ : Int32) (barsOf_ : Nat → Int32) (teacherOf_ : Nat → Int32) (columnOf_ : Nat → Int32) (v1 : Int32) (v2 : Int32) (v3 : Int32) (rec9 : Int32 → Int32 → Int32 → Option (Int32)) : Int32 → Int32 → Int32 → Option (Int32) := fun v4 v5 v6 =>
  (if size_ ≤ v6 then m_X0_obstacle_67 roomCount_ barsOf_ v2 v3 v4 v5 else (if v6 = v1 then lt' (v6 + 1) (fun v6_2 => rec9 v4 v5 v6_2) else gd (inb v6 16) ((if (columnOf_ v6.toNatClampNeg) = v3 then lt' (v4 + 1) (fun v4_4 => (if v5 = 0 then gd (inb v6 16) ((if (teacherOf_ v6.toNatClampNeg) = v2 then lt' (v6 + 1) (fun v6_7 => rec9 v4_4 1 v6_7) else lt' (v6 + 1) (fun v6_6 => rec9 v4_4 0 v6_6))) else lt' (v6 + 1) (fun v6_5 => rec9 v4_4 1 v6_5))) else lt' (v6 + 1) (fun v6_3 => rec9 v4 v5 v6_3)))))
def m_X0_obstacle (roomCount_ : Int32) (size_ : Int32) (barsOf_ : Nat → Int32) (teacherOf_ : Nat → Int32) (columnOf_ : Nat → Int32) (v1 : Int32) (v2 : Int32) (v3 : Int32) : Option (Int32) :=
  it3 (m_X0_obstacle_9 roomCount_ size_ barsOf_ teacherOf_ columnOf_ v1 v2 v3) 1100 0 0 0
abbrev rmX0_obstacle : Room := { frames := 1, cells := 0, slots := 0, locals := 21 }
set_option maxHeartbeats 4000000 in
set_option maxRecDepth 100000 in
theorem c_X0_obstacle (l : Launch) (dC : Nat → ClassId) (dI : Nat → Nat → Nat) (cyC cyI cyJ : ClassId) (h0 h0_barsOf h0_subjectOf h0_teacherOf h0_seatsOf h0_columnOf h0_columnsWith : Nat) (columnCount_ : Int32) (roomCount_ : Int32) (size_ : Int32) (barsOf_ : Nat → Int32) (teacherOf_ : Nat → Int32) (columnOf_ : Nat → Int32) (v1 : Int32) (v2 : Int32) (v3 : Int32) (rr : Int32) (h : m_X0_obstacle roomCount_ size_ barsOf_ teacherOf_ columnOf_ v1 v2 v3 = some rr) : uMi l yX0_obstacle wsX0_obstacle rmX0_obstacle (dC, dI) [(cyC, .char), (cyI, .int), (cyJ, .long)] [.ref h0, .int v1, .int v2, .int v3] [(h0, .inr (0, [.int columnCount_, .int roomCount_, .int size_, .ref h0_barsOf, .ref h0_subjectOf, .ref h0_teacherOf, .ref h0_seatsOf, .ref h0_columnOf, .ref h0_columnsWith])), (h0_barsOf, .inl (cyI, 10, .inl barsOf_)), (h0_teacherOf, .inl (cyI, 16, .inl teacherOf_)), (h0_columnOf, .inl (cyI, 16, .inl columnOf_))] [(h0, .inr (0, [.int columnCount_, .int roomCount_, .int size_, .ref h0_barsOf, .ref h0_subjectOf, .ref h0_teacherOf, .ref h0_seatsOf, .ref h0_columnOf, .ref h0_columnsWith])), (h0_barsOf, .inl (cyI, 10, .inl barsOf_)), (h0_teacherOf, .inl (cyI, 16, .inl teacherOf_)), (h0_columnOf, .inl (cyI, 16, .inl columnOf_))] rr := by
  refine uMi.of (cc := cX0_obstacle) (maxL := 7) (by decide) rfl (Nat.le_of_ble_eq_true rfl) (fun p e s m args below meth c A ls Q hx hb hml hown hts hA hP hK hD hE hS hl hret => ?_)
  have hown : s.vm.findClass RX0 = some m.cls := hown
  have hl : lv_has ls 7 [(0, .ref h0), (1, .int v1), (2, .int v2), (3, .int v3)] := hl
  have hiX0 : ∀ w ∈ u_ws RX0 TX0 9, w ∈ wsX0_obstacle := fun _ h9 => List.mem_cons_of_mem _ (List.mem_append_right _ h9)
  have J67 : ∀ (v4 : Int32), ∀ (v5 : Int32), m_X0_obstacle_67 roomCount_ barsOf_ v2 v3 v4 v5 = some rr → ∀ (H : Heap) (locs : List Loc) (ls : Array Slot), va_P (dC, dI) vwCl [(h0, .inr (0, [.int columnCount_, .int roomCount_, .int size_, .ref h0_barsOf, .ref h0_subjectOf, .ref h0_teacherOf, .ref h0_seatsOf, .ref h0_columnOf, .ref h0_columnsWith])), (h0_barsOf, .inl (cyI, 10, .inl barsOf_)), (h0_teacherOf, .inl (cyI, 16, .inl teacherOf_)), (h0_columnOf, .inl (cyI, 16, .inl columnOf_))] H → va_D A [(h0, .inr (0, [.int columnCount_, .int roomCount_, .int size_, .ref h0_barsOf, .ref h0_subjectOf, .ref h0_teacherOf, .ref h0_seatsOf, .ref h0_columnOf, .ref h0_columnsWith])), (h0_barsOf, .inl (cyI, 10, .inl barsOf_)), (h0_teacherOf, .inl (cyI, 16, .inl teacherOf_)), (h0_columnOf, .inl (cyI, 16, .inl columnOf_))] → va_S A s.heap H locs → lv_has ls 7 [(0, .ref h0), (2, .int v2), (3, .int v3), (4, .int v4), (5, .int v5)] → W p l e rmX0_obstacle s m args below meth c H locs 0 0 Q (F0 m 67 ls []) := by
    intro v4 v5 h H locs ls hP hD hS hl
    unfold m_X0_obstacle_67 at h
    refine lv_iload hx hb dX0_obstacle_67 (lv_at hl 4 rfl) ?_
    refine lv_if_eq (tgt := 74) hx hb dX0_obstacle_69 (by decide) (fun c_ => ?_) (fun c_ => ?_)
    · have h := (if_pos c_).symm.trans h
      refine lv_aload_n hx hb dX0_obstacle_74 rfl (lv_at hl 0 rfl) ?_
      refine va_get (D := (dC, dI)) (ci := 0) (v := .ref h0_barsOf) (C := RX0) (T := TX0) (N := 9) hx hb hts hiX0 hown hK hP 0 rfl rfl 3 (by decide) (hts (.fieldLink RX0 21 "OptionLattice$Plan" "barsOf" "[I") (by decide +kernel)) (fun _ h9 => h9) rfl dX0_obstacle_75 ?_
      refine lv_iload_n hx hb dX0_obstacle_78 rfl (lv_at hl 1 rfl) ?_
      obtain ⟨g_, h⟩ := gd_some h
      refine va_iald hx hb hK hP 1 1 rfl rfl (inb_in g_) dX0_obstacle_79 ?_
      refine lv_iload_n hx hb dX0_obstacle_80 rfl (lv_at hl 2 rfl) ?_
      obtain ⟨r_1, hq, h⟩ := bd1_some h
      refine uN_i (As := [.int (barsOf_ v2.toNatClampNeg), .int v3]) (rest := []) ⟨hx, hb, hml, hown, hts⟩ (c_X5_hasBit l dC dI cyC cyI cyJ (barsOf_ v2.toNatClampNeg) v3 r_1 hq) ⟨va_cnB 2 hts gX0_obstacle_X5_hasBit_n58 rfl rfl rfl (hE.2.1 ("OptionLattice$Plan", 58, ⟨"OptionLattice", "hasBit", "(II)Z"⟩) (List.mem_of_getElem? (i := 8) rfl)) (hts (.initialized RX5) (by decide +kernel)) (by decide +kernel) ⟨Nat.le_of_ble_eq_true rfl, Nat.le_of_ble_eq_true rfl⟩, (hts (.static yX5_hasBit) (by decide +kernel)), trivial⟩ hK hE hA hP hD hS [] rfl rfl rfl rfl hl.1 rfl (Nat.le_of_ble_eq_true rfl) ⟨Nat.zero_le _, Nat.zero_le _⟩ dX0_obstacle_81 (fun H locs hP hD hS => ?_)
      have hP : va_P (dC, dI) vwCl [(h0, .inr (0, [.int columnCount_, .int roomCount_, .int size_, .ref h0_barsOf, .ref h0_subjectOf, .ref h0_teacherOf, .ref h0_seatsOf, .ref h0_columnOf, .ref h0_columnsWith])), (h0_barsOf, .inl (cyI, 10, .inl barsOf_)), (h0_teacherOf, .inl (cyI, 16, .inl teacherOf_)), (h0_columnOf, .inl (cyI, 16, .inl columnOf_))] H := hP
      have hD : va_D A [(h0, .inr (0, [.int columnCount_, .int roomCount_, .int size_, .ref h0_barsOf, .ref h0_subjectOf, .ref h0_teacherOf, .ref h0_seatsOf, .ref h0_columnOf, .ref h0_columnsWith])), (h0_barsOf, .inl (cyI, 10, .inl barsOf_)), (h0_teacherOf, .inl (cyI, 16, .inl teacherOf_)), (h0_columnOf, .inl (cyI, 16, .inl columnOf_))] := hD
      refine lv_if_eq (tgt := 89) hx hb dX0_obstacle_84 (by decide) (fun c_ => ?_) (fun c_ => ?_)
      · have h := (if_pos c_).symm.trans h
        refine lv_iload hx hb dX0_obstacle_89 (lv_at hl 3 rfl) ?_
        refine lv_aload_n hx hb dX0_obstacle_91 rfl (lv_at hl 0 rfl) ?_
        refine va_get (D := (dC, dI)) (ci := 0) (v := .int roomCount_) (C := RX0) (T := TX0) (N := 9) hx hb hts hiX0 hown hK hP 0 rfl rfl 1 (by decide) (hts (.fieldLink RX0 15 "OptionLattice$Plan" "roomCount" "I") (by decide +kernel)) (fun _ h9 => h9) rfl dX0_obstacle_92 ?_
        refine lv_icmp_ge (tgt := 102) hx hb dX0_obstacle_95 (by decide) (fun c_ => ?_) (fun c_ => ?_)
        · have h := (if_pos c_).symm.trans h
          refine lv_iconst (v := 3) hx hb dX0_obstacle_102 (by decide) ?_
          have h : some 3 = some rr := h
          have z0 := Option.some.inj h
          obtain rfl := z0
          exact hret _ _ _ _ hP hS rfl dX0_obstacle_103
        · have h := (if_neg c_).symm.trans h
          refine lv_iconst (v := 0) hx hb dX0_obstacle_98 (by decide) ?_
          refine lv_goto (tgt := 103) hx hb dX0_obstacle_99 (by decide) ?_
          have h : some 0 = some rr := h
          have z0 := Option.some.inj h
          obtain rfl := z0
          exact hret _ _ _ _ hP hS rfl dX0_obstacle_103
      · have h := (if_neg c_).symm.trans h
        refine lv_iconst (v := 2) hx hb dX0_obstacle_87 (by decide) ?_
        have h : some 2 = some rr := h
        have z0 := Option.some.inj h
        obtain rfl := z0
        exact hret _ _ _ _ hP hS rfl dX0_obstacle_88
    · have h := (if_neg c_).symm.trans h
      refine lv_iconst (v := 1) hx hb dX0_obstacle_72 (by decide) ?_
      have h : some 1 = some rr := h
      have z0 := Option.some.inj h
      obtain rfl := z0
      exact hret _ _ _ _ hP hS rfl dX0_obstacle_73
  have L9 : ∀ (n9 : Nat), ∀ (v4 : Int32), ∀ (v5 : Int32), ∀ (v6 : Int32), it3 (m_X0_obstacle_9 roomCount_ size_ barsOf_ teacherOf_ columnOf_ v1 v2 v3) n9 v4 v5 v6 = some rr → ∀ (H : Heap) (locs : List Loc) (ls : Array Slot), va_P (dC, dI) vwCl [(h0, .inr (0, [.int columnCount_, .int roomCount_, .int size_, .ref h0_barsOf, .ref h0_subjectOf, .ref h0_teacherOf, .ref h0_seatsOf, .ref h0_columnOf, .ref h0_columnsWith])), (h0_barsOf, .inl (cyI, 10, .inl barsOf_)), (h0_teacherOf, .inl (cyI, 16, .inl teacherOf_)), (h0_columnOf, .inl (cyI, 16, .inl columnOf_))] H → va_D A [(h0, .inr (0, [.int columnCount_, .int roomCount_, .int size_, .ref h0_barsOf, .ref h0_subjectOf, .ref h0_teacherOf, .ref h0_seatsOf, .ref h0_columnOf, .ref h0_columnsWith])), (h0_barsOf, .inl (cyI, 10, .inl barsOf_)), (h0_teacherOf, .inl (cyI, 16, .inl teacherOf_)), (h0_columnOf, .inl (cyI, 16, .inl columnOf_))] → va_S A s.heap H locs → lv_has ls 7 [(0, .ref h0), (1, .int v1), (2, .int v2), (3, .int v3), (4, .int v4), (5, .int v5), (6, .int v6)] → W p l e rmX0_obstacle s m args below meth c H locs 0 0 Q (F0 m 9 ls []) := by
    intro n9
    induction n9 with
    | zero => intro v4 v5 v6 h; exact absurd h (fun z => it3_z z)
    | succ n9 ih9 =>
      intro v4 v5 v6 h H locs ls hP hD hS hl
      have h : m_X0_obstacle_9 roomCount_ size_ barsOf_ teacherOf_ columnOf_ v1 v2 v3 (it3 (m_X0_obstacle_9 roomCount_ size_ barsOf_ teacherOf_ columnOf_ v1 v2 v3) n9) v4 v5 v6 = some rr := h
      unfold m_X0_obstacle_9 at h
      refine lv_iload hx hb dX0_obstacle_9 (lv_at hl 6 rfl) ?_
      refine lv_aload_n hx hb dX0_obstacle_11 rfl (lv_at hl 0 rfl) ?_
      refine va_get (D := (dC, dI)) (ci := 0) (v := .int size_) (C := RX0) (T := TX0) (N := 9) hx hb hts hiX0 hown hK hP 0 rfl rfl 2 (by decide) (hts (.fieldLink RX0 18 "OptionLattice$Plan" "size" "I") (by decide +kernel)) (fun _ h9 => h9) rfl dX0_obstacle_12 ?_
      refine lv_icmp_ge (tgt := 67) hx hb dX0_obstacle_15 (by decide) (fun c_ => ?_) (fun c_ => ?_)
      · have h := (if_pos c_).symm.trans h
        exact J67 v4 v5 h _ _ _ hP hD hS (lv_sub hl [0, 2, 3, 4, 5] rfl)
      · have h := (if_neg c_).symm.trans h
        refine lv_iload hx hb dX0_obstacle_18 (lv_at hl 6 rfl) ?_
        refine lv_iload_n hx hb dX0_obstacle_20 rfl (lv_at hl 1 rfl) ?_
        refine lv_icmp_eq (tgt := 61) hx hb dX0_obstacle_21 (by decide) (fun c_ => ?_) (fun c_ => ?_)
        · have h := (if_pos c_).symm.trans h
          obtain ⟨v6_2, e_v6_2⟩ : ∃ z : Int32, z = (v6 + 1) := ⟨_, rfl⟩
          have h := lt_use e_v6_2 h
          refine lv_iinc (v := v6_2) (lv' := [(6, .int v6_2), (0, .ref h0), (1, .int v1), (2, .int v2), (3, .int v3), (4, .int v4), (5, .int v5)]) hx hb dX0_obstacle_61 hl (k := 6) rfl (by rw [e_v6_2]; rfl) (by decide) rfl (fun ls hl => ?_)
          refine lv_goto (tgt := 9) hx hb dX0_obstacle_64 (by decide) ?_
          exact ih9 v4 v5 v6_2 h _ _ _ hP hD hS (lv_sub hl [1, 2, 3, 4, 5, 6, 0] rfl)
        · have h := (if_neg c_).symm.trans h
          refine lv_aload_n hx hb dX0_obstacle_24 rfl (lv_at hl 0 rfl) ?_
          refine va_get (D := (dC, dI)) (ci := 0) (v := .ref h0_columnOf) (C := RX0) (T := TX0) (N := 9) hx hb hts hiX0 hown hK hP 0 rfl rfl 7 (by decide) (hts (.fieldLink RX0 34 "OptionLattice$Plan" "columnOf" "[I") (by decide +kernel)) (fun _ h9 => h9) rfl dX0_obstacle_25 ?_
          refine lv_iload hx hb dX0_obstacle_28 (lv_at hl 6 rfl) ?_
          obtain ⟨g_, h⟩ := gd_some h
          refine va_iald hx hb hK hP 3 1 rfl rfl (inb_in g_) dX0_obstacle_30 ?_
          refine lv_iload_n hx hb dX0_obstacle_31 rfl (lv_at hl 3 rfl) ?_
          refine lv_icmp_ne (tgt := 61) hx hb dX0_obstacle_32 (by decide) (fun c_ => ?_) (fun c_ => ?_)
          · have h := (if_neg c_).symm.trans h
            obtain ⟨v6_3, e_v6_3⟩ : ∃ z : Int32, z = (v6 + 1) := ⟨_, rfl⟩
            have h := lt_use e_v6_3 h
            refine lv_iinc (v := v6_3) (lv' := [(6, .int v6_3), (0, .ref h0), (1, .int v1), (2, .int v2), (3, .int v3), (4, .int v4), (5, .int v5)]) hx hb dX0_obstacle_61 hl (k := 6) rfl (by rw [e_v6_3]; rfl) (by decide) rfl (fun ls hl => ?_)
            refine lv_goto (tgt := 9) hx hb dX0_obstacle_64 (by decide) ?_
            exact ih9 v4 v5 v6_3 h _ _ _ hP hD hS (lv_sub hl [1, 2, 3, 4, 5, 6, 0] rfl)
          · have h := (if_pos c_).symm.trans h
            obtain ⟨v4_4, e_v4_4⟩ : ∃ z : Int32, z = (v4 + 1) := ⟨_, rfl⟩
            have h := lt_use e_v4_4 h
            refine lv_iinc (v := v4_4) (lv' := [(4, .int v4_4), (0, .ref h0), (1, .int v1), (2, .int v2), (3, .int v3), (5, .int v5), (6, .int v6)]) hx hb dX0_obstacle_35 hl (k := 4) rfl (by rw [e_v4_4]; rfl) (by decide) rfl (fun ls hl => ?_)
            refine lv_iload hx hb dX0_obstacle_38 (lv_at hl 5 rfl) ?_
            refine lv_if_ne (tgt := 54) hx hb dX0_obstacle_40 (by decide) (fun c_ => ?_) (fun c_ => ?_)
            · have h := (if_neg c_).symm.trans h
              refine lv_iconst (v := 1) hx hb dX0_obstacle_54 (by decide) ?_
              refine lv_goto (tgt := 59) hx hb dX0_obstacle_55 (by decide) ?_
              refine lv_istore (lv' := [(5, .int 1), (4, .int v4_4), (0, .ref h0), (1, .int v1), (2, .int v2), (3, .int v3), (6, .int v6)]) hx hb dX0_obstacle_59 hl (by decide) rfl (fun ls hl => ?_)
              obtain ⟨v6_5, e_v6_5⟩ : ∃ z : Int32, z = (v6 + 1) := ⟨_, rfl⟩
              have h := lt_use e_v6_5 h
              refine lv_iinc (v := v6_5) (lv' := [(6, .int v6_5), (5, .int 1), (4, .int v4_4), (0, .ref h0), (1, .int v1), (2, .int v2), (3, .int v3)]) hx hb dX0_obstacle_61 hl (k := 6) rfl (by rw [e_v6_5]; rfl) (by decide) rfl (fun ls hl => ?_)
              refine lv_goto (tgt := 9) hx hb dX0_obstacle_64 (by decide) ?_
              exact ih9 v4_4 1 v6_5 h _ _ _ hP hD hS (lv_sub hl [3, 4, 5, 6, 2, 1, 0] rfl)
            · have h := (if_pos c_).symm.trans h
              refine lv_aload_n hx hb dX0_obstacle_43 rfl (lv_at hl 1 rfl) ?_
              refine va_get (D := (dC, dI)) (ci := 0) (v := .ref h0_teacherOf) (C := RX0) (T := TX0) (N := 9) hx hb hts hiX0 hown hK hP 0 rfl rfl 5 (by decide) (hts (.fieldLink RX0 28 "OptionLattice$Plan" "teacherOf" "[I") (by decide +kernel)) (fun _ h9 => h9) rfl dX0_obstacle_44 ?_
              refine lv_iload hx hb dX0_obstacle_47 (lv_at hl 6 rfl) ?_
              obtain ⟨g_, h⟩ := gd_some h
              refine va_iald hx hb hK hP 2 1 rfl rfl (inb_in g_) dX0_obstacle_49 ?_
              refine lv_iload_n hx hb dX0_obstacle_50 rfl (lv_at hl 3 rfl) ?_
              refine lv_icmp_ne (tgt := 58) hx hb dX0_obstacle_51 (by decide) (fun c_ => ?_) (fun c_ => ?_)
              · have h := (if_neg c_).symm.trans h
                refine lv_iconst (v := 0) hx hb dX0_obstacle_58 (by decide) ?_
                refine lv_istore (lv' := [(5, .int 0), (4, .int v4_4), (0, .ref h0), (1, .int v1), (2, .int v2), (3, .int v3), (6, .int v6)]) hx hb dX0_obstacle_59 hl (by decide) rfl (fun ls hl => ?_)
                obtain ⟨v6_6, e_v6_6⟩ : ∃ z : Int32, z = (v6 + 1) := ⟨_, rfl⟩
                have h := lt_use e_v6_6 h
                refine lv_iinc (v := v6_6) (lv' := [(6, .int v6_6), (5, .int 0), (4, .int v4_4), (0, .ref h0), (1, .int v1), (2, .int v2), (3, .int v3)]) hx hb dX0_obstacle_61 hl (k := 6) rfl (by rw [e_v6_6]; rfl) (by decide) rfl (fun ls hl => ?_)
                refine lv_goto (tgt := 9) hx hb dX0_obstacle_64 (by decide) ?_
                exact ih9 v4_4 0 v6_6 h _ _ _ hP hD hS (lv_sub hl [3, 4, 5, 6, 2, 1, 0] rfl)
              · have h := (if_pos c_).symm.trans h
                refine lv_iconst (v := 1) hx hb dX0_obstacle_54 (by decide) ?_
                refine lv_goto (tgt := 59) hx hb dX0_obstacle_55 (by decide) ?_
                refine lv_istore (lv' := [(5, .int 1), (4, .int v4_4), (0, .ref h0), (1, .int v1), (2, .int v2), (3, .int v3), (6, .int v6)]) hx hb dX0_obstacle_59 hl (by decide) rfl (fun ls hl => ?_)
                obtain ⟨v6_7, e_v6_7⟩ : ∃ z : Int32, z = (v6 + 1) := ⟨_, rfl⟩
                have h := lt_use e_v6_7 h
                refine lv_iinc (v := v6_7) (lv' := [(6, .int v6_7), (5, .int 1), (4, .int v4_4), (0, .ref h0), (1, .int v1), (2, .int v2), (3, .int v3)]) hx hb dX0_obstacle_61 hl (k := 6) rfl (by rw [e_v6_7]; rfl) (by decide) rfl (fun ls hl => ?_)
                refine lv_goto (tgt := 9) hx hb dX0_obstacle_64 (by decide) ?_
                exact ih9 v4_4 1 v6_7 h _ _ _ hP hD hS (lv_sub hl [3, 4, 5, 6, 2, 1, 0] rfl)
  unfold m_X0_obstacle at h
  refine lv_iconst (v := 0) hx hb dX0_obstacle_0 (by decide) ?_
  refine lv_istore (lv' := [(4, .int 0), (0, .ref h0), (1, .int v1), (2, .int v2), (3, .int v3)]) hx hb dX0_obstacle_1 hl (by decide) rfl (fun ls hl => ?_)
  refine lv_iconst (v := 0) hx hb dX0_obstacle_3 (by decide) ?_
  refine lv_istore (lv' := [(5, .int 0), (4, .int 0), (0, .ref h0), (1, .int v1), (2, .int v2), (3, .int v3)]) hx hb dX0_obstacle_4 hl (by decide) rfl (fun ls hl => ?_)
  refine lv_iconst (v := 0) hx hb dX0_obstacle_6 (by decide) ?_
  refine lv_istore (lv' := [(6, .int 0), (5, .int 0), (4, .int 0), (0, .ref h0), (1, .int v1), (2, .int v2), (3, .int v3)]) hx hb dX0_obstacle_7 hl (by decide) rfl (fun ls hl => ?_)
  exact L9  1100 0 0 0 h _ _ _ hP hD hS (lv_sub hl [3, 4, 5, 6, 2, 1, 0] rfl)

def m_X0_lawfulColumns_5 (columnCount_ : Int32) (roomCount_ : Int32) (size_ : Int32) (barsOf_ : Nat → Int32) (teacherOf_ : Nat → Int32) (columnOf_ : Nat → Int32) (v1 : Int32) (v2 : Int32) (rec5 : Int32 → Int32 → Option (Int32)) : Int32 → Int32 → Option (Int32) := fun v3 v4 =>
  (if columnCount_ ≤ v4 then some v3 else bd1 (m_X0_obstacle roomCount_ size_ barsOf_ teacherOf_ columnOf_ v1 v2 v4) (fun r_1 => (if r_1 = 0 then lt' (v3 ||| ((1 : Int32) <<< (v4 &&& 31))) (fun v3_4 => lt' (v4 + 1) (fun v4_5 => rec5 v3_4 v4_5)) else lt' (v3 ||| 0) (fun v3_2 => lt' (v4 + 1) (fun v4_3 => rec5 v3_2 v4_3)))))
def m_X0_lawfulColumns (columnCount_ : Int32) (roomCount_ : Int32) (size_ : Int32) (barsOf_ : Nat → Int32) (teacherOf_ : Nat → Int32) (columnOf_ : Nat → Int32) (v1 : Int32) (v2 : Int32) : Option (Int32) :=
  it2 (m_X0_lawfulColumns_5 columnCount_ roomCount_ size_ barsOf_ teacherOf_ columnOf_ v1 v2) 1100 0 0
abbrev rmX0_lawfulColumns : Room := { frames := 2, cells := 0, slots := 0, locals := 47 }
set_option maxHeartbeats 4000000 in
set_option maxRecDepth 100000 in
theorem c_X0_lawfulColumns (l : Launch) (dC : Nat → ClassId) (dI : Nat → Nat → Nat) (cyC cyI cyJ : ClassId) (h0 h0_barsOf h0_subjectOf h0_teacherOf h0_seatsOf h0_columnOf h0_columnsWith : Nat) (columnCount_ : Int32) (roomCount_ : Int32) (size_ : Int32) (barsOf_ : Nat → Int32) (teacherOf_ : Nat → Int32) (columnOf_ : Nat → Int32) (v1 : Int32) (v2 : Int32) (rr : Int32) (h : m_X0_lawfulColumns columnCount_ roomCount_ size_ barsOf_ teacherOf_ columnOf_ v1 v2 = some rr) : uMi l yX0_lawfulColumns wsX0_lawfulColumns rmX0_lawfulColumns (dC, dI) [(cyC, .char), (cyI, .int), (cyJ, .long)] [.ref h0, .int v1, .int v2] [(h0, .inr (0, [.int columnCount_, .int roomCount_, .int size_, .ref h0_barsOf, .ref h0_subjectOf, .ref h0_teacherOf, .ref h0_seatsOf, .ref h0_columnOf, .ref h0_columnsWith])), (h0_barsOf, .inl (cyI, 10, .inl barsOf_)), (h0_teacherOf, .inl (cyI, 16, .inl teacherOf_)), (h0_columnOf, .inl (cyI, 16, .inl columnOf_))] [(h0, .inr (0, [.int columnCount_, .int roomCount_, .int size_, .ref h0_barsOf, .ref h0_subjectOf, .ref h0_teacherOf, .ref h0_seatsOf, .ref h0_columnOf, .ref h0_columnsWith])), (h0_barsOf, .inl (cyI, 10, .inl barsOf_)), (h0_teacherOf, .inl (cyI, 16, .inl teacherOf_)), (h0_columnOf, .inl (cyI, 16, .inl columnOf_))] rr := by
  refine uMi.of (cc := cX0_lawfulColumns) (maxL := 5) (by decide) rfl (Nat.le_of_ble_eq_true rfl) (fun p e s m args below meth c A ls Q hx hb hml hown hts hA hP hK hD hE hS hl hret => ?_)
  have hown : s.vm.findClass RX0 = some m.cls := hown
  have hl : lv_has ls 5 [(0, .ref h0), (1, .int v1), (2, .int v2)] := hl
  have hiX0 : ∀ w ∈ u_ws RX0 TX0 9, w ∈ wsX0_lawfulColumns := fun _ h9 => List.mem_cons_of_mem _ (List.mem_append_right _ h9)
  have L5 : ∀ (n5 : Nat), ∀ (v3 : Int32), ∀ (v4 : Int32), it2 (m_X0_lawfulColumns_5 columnCount_ roomCount_ size_ barsOf_ teacherOf_ columnOf_ v1 v2) n5 v3 v4 = some rr → ∀ (H : Heap) (locs : List Loc) (ls : Array Slot), va_P (dC, dI) vwCl [(h0, .inr (0, [.int columnCount_, .int roomCount_, .int size_, .ref h0_barsOf, .ref h0_subjectOf, .ref h0_teacherOf, .ref h0_seatsOf, .ref h0_columnOf, .ref h0_columnsWith])), (h0_barsOf, .inl (cyI, 10, .inl barsOf_)), (h0_teacherOf, .inl (cyI, 16, .inl teacherOf_)), (h0_columnOf, .inl (cyI, 16, .inl columnOf_))] H → va_D A [(h0, .inr (0, [.int columnCount_, .int roomCount_, .int size_, .ref h0_barsOf, .ref h0_subjectOf, .ref h0_teacherOf, .ref h0_seatsOf, .ref h0_columnOf, .ref h0_columnsWith])), (h0_barsOf, .inl (cyI, 10, .inl barsOf_)), (h0_teacherOf, .inl (cyI, 16, .inl teacherOf_)), (h0_columnOf, .inl (cyI, 16, .inl columnOf_))] → va_S A s.heap H locs → lv_has ls 5 [(0, .ref h0), (1, .int v1), (2, .int v2), (3, .int v3), (4, .int v4)] → W p l e rmX0_lawfulColumns s m args below meth c H locs 0 0 Q (F0 m 5 ls []) := by
    intro n5
    induction n5 with
    | zero => intro v3 v4 h; exact absurd h (fun z => it2_z z)
    | succ n5 ih5 =>
      intro v3 v4 h H locs ls hP hD hS hl
      have h : m_X0_lawfulColumns_5 columnCount_ roomCount_ size_ barsOf_ teacherOf_ columnOf_ v1 v2 (it2 (m_X0_lawfulColumns_5 columnCount_ roomCount_ size_ barsOf_ teacherOf_ columnOf_ v1 v2) n5) v3 v4 = some rr := h
      unfold m_X0_lawfulColumns_5 at h
      refine lv_iload hx hb dX0_lawfulColumns_5 (lv_at hl 4 rfl) ?_
      refine lv_aload_n hx hb dX0_lawfulColumns_7 rfl (lv_at hl 0 rfl) ?_
      refine va_get (D := (dC, dI)) (ci := 0) (v := .int columnCount_) (C := RX0) (T := TX0) (N := 9) hx hb hts hiX0 hown hK hP 0 rfl rfl 0 (by decide) (hts (.fieldLink RX0 9 "OptionLattice$Plan" "columnCount" "I") (by decide +kernel)) (fun _ h9 => h9) rfl dX0_lawfulColumns_8 ?_
      refine lv_icmp_ge (tgt := 42) hx hb dX0_lawfulColumns_11 (by decide) (fun c_ => ?_) (fun c_ => ?_)
      · have h := (if_pos c_).symm.trans h
        refine lv_iload_n hx hb dX0_lawfulColumns_42 rfl (lv_at hl 3 rfl) ?_
        have h : some v3 = some rr := h
        have z0 := Option.some.inj h
        obtain rfl := z0
        exact hret _ _ _ _ hP hS rfl dX0_lawfulColumns_43
      · have h := (if_neg c_).symm.trans h
        refine lv_iload_n hx hb dX0_lawfulColumns_14 rfl (lv_at hl 3 rfl) ?_
        refine lv_aload_n hx hb dX0_lawfulColumns_15 rfl (lv_at hl 0 rfl) ?_
        refine lv_iload_n hx hb dX0_lawfulColumns_16 rfl (lv_at hl 1 rfl) ?_
        refine lv_iload_n hx hb dX0_lawfulColumns_17 rfl (lv_at hl 2 rfl) ?_
        refine lv_iload hx hb dX0_lawfulColumns_18 (lv_at hl 4 rfl) ?_
        obtain ⟨r_1, hq, h⟩ := bd1_some h
        refine uV_i (b := h0) (As := [.int v1, .int v2, .int v4]) (rest := [.int v3]) ⟨hx, hb, hml, hown, hts⟩ (c_X0_obstacle l dC dI cyC cyI cyJ h0 h0_barsOf h0_subjectOf h0_teacherOf h0_seatsOf h0_columnOf h0_columnsWith columnCount_ roomCount_ size_ barsOf_ teacherOf_ columnOf_ v1 v2 v4 r_1 hq) (cwV 3 hts gX0_lawfulColumns_X0_obstacle rfl rfl rfl (by decide +kernel) ⟨Nat.le_of_ble_eq_true rfl, Nat.le_of_ble_eq_true rfl⟩) hK hE hA hP hD hS [0, 1, 2, 3] rfl rfl rfl 0 0 rfl rfl rfl hl.1 rfl (Nat.le_of_ble_eq_true rfl) ⟨Nat.zero_le _, Nat.zero_le _⟩ dX0_lawfulColumns_20 (fun H locs hP hD hS => ?_)
        have hP : va_P (dC, dI) vwCl [(h0, .inr (0, [.int columnCount_, .int roomCount_, .int size_, .ref h0_barsOf, .ref h0_subjectOf, .ref h0_teacherOf, .ref h0_seatsOf, .ref h0_columnOf, .ref h0_columnsWith])), (h0_barsOf, .inl (cyI, 10, .inl barsOf_)), (h0_teacherOf, .inl (cyI, 16, .inl teacherOf_)), (h0_columnOf, .inl (cyI, 16, .inl columnOf_))] H := hP
        have hD : va_D A [(h0, .inr (0, [.int columnCount_, .int roomCount_, .int size_, .ref h0_barsOf, .ref h0_subjectOf, .ref h0_teacherOf, .ref h0_seatsOf, .ref h0_columnOf, .ref h0_columnsWith])), (h0_barsOf, .inl (cyI, 10, .inl barsOf_)), (h0_teacherOf, .inl (cyI, 16, .inl teacherOf_)), (h0_columnOf, .inl (cyI, 16, .inl columnOf_))] := hD
        refine lv_if_ne (tgt := 33) hx hb dX0_lawfulColumns_23 (by decide) (fun c_ => ?_) (fun c_ => ?_)
        · have h := (if_neg c_).symm.trans h
          refine lv_iconst (v := 0) hx hb dX0_lawfulColumns_33 (by decide) ?_
          refine lv_ior hx hb dX0_lawfulColumns_34 ?_
          refine lv_topi (fun v3_2 e_v3_2 => ?_)
          have h := lt_use e_v3_2 h
          refine lv_istore_n (lv' := [(3, .int v3_2), (0, .ref h0), (1, .int v1), (2, .int v2), (4, .int v4)]) hx hb dX0_lawfulColumns_35 rfl hl (by decide) rfl (fun ls hl => ?_)
          obtain ⟨v4_3, e_v4_3⟩ : ∃ z : Int32, z = (v4 + 1) := ⟨_, rfl⟩
          have h := lt_use e_v4_3 h
          refine lv_iinc (v := v4_3) (lv' := [(4, .int v4_3), (3, .int v3_2), (0, .ref h0), (1, .int v1), (2, .int v2)]) hx hb dX0_lawfulColumns_36 hl (k := 4) rfl (by rw [e_v4_3]; rfl) (by decide) rfl (fun ls hl => ?_)
          refine lv_goto (tgt := 5) hx hb dX0_lawfulColumns_39 (by decide) ?_
          exact ih5 v3_2 v4_3 h _ _ _ hP hD hS (lv_sub hl [2, 3, 4, 1, 0] rfl)
        · have h := (if_pos c_).symm.trans h
          refine lv_iconst (v := 1) hx hb dX0_lawfulColumns_26 (by decide) ?_
          refine lv_iload hx hb dX0_lawfulColumns_27 (lv_at hl 4 rfl) ?_
          refine lv_ishl hx hb dX0_lawfulColumns_29 ?_
          refine lv_goto (tgt := 34) hx hb dX0_lawfulColumns_30 (by decide) ?_
          refine lv_ior hx hb dX0_lawfulColumns_34 ?_
          refine lv_topi (fun v3_4 e_v3_4 => ?_)
          have h := lt_use e_v3_4 h
          refine lv_istore_n (lv' := [(3, .int v3_4), (0, .ref h0), (1, .int v1), (2, .int v2), (4, .int v4)]) hx hb dX0_lawfulColumns_35 rfl hl (by decide) rfl (fun ls hl => ?_)
          obtain ⟨v4_5, e_v4_5⟩ : ∃ z : Int32, z = (v4 + 1) := ⟨_, rfl⟩
          have h := lt_use e_v4_5 h
          refine lv_iinc (v := v4_5) (lv' := [(4, .int v4_5), (3, .int v3_4), (0, .ref h0), (1, .int v1), (2, .int v2)]) hx hb dX0_lawfulColumns_36 hl (k := 4) rfl (by rw [e_v4_5]; rfl) (by decide) rfl (fun ls hl => ?_)
          refine lv_goto (tgt := 5) hx hb dX0_lawfulColumns_39 (by decide) ?_
          exact ih5 v3_4 v4_5 h _ _ _ hP hD hS (lv_sub hl [2, 3, 4, 1, 0] rfl)
  unfold m_X0_lawfulColumns at h
  refine lv_iconst (v := 0) hx hb dX0_lawfulColumns_0 (by decide) ?_
  refine lv_istore_n (lv' := [(3, .int 0), (0, .ref h0), (1, .int v1), (2, .int v2)]) hx hb dX0_lawfulColumns_1 rfl hl (by decide) rfl (fun ls hl => ?_)
  refine lv_iconst (v := 0) hx hb dX0_lawfulColumns_2 (by decide) ?_
  refine lv_istore (lv' := [(4, .int 0), (3, .int 0), (0, .ref h0), (1, .int v1), (2, .int v2)]) hx hb dX0_lawfulColumns_3 hl (by decide) rfl (fun ls hl => ?_)
  exact L5  1100 0 0 h _ _ _ hP hD hS (lv_sub hl [2, 3, 4, 1, 0] rfl)

def m_X0_mayMove (roomCount_ : Int32) (size_ : Int32) (barsOf_ : Nat → Int32) (teacherOf_ : Nat → Int32) (columnOf_ : Nat → Int32) (v1 : Int32) (v2 : Int32) : Option (Int32) :=
  gd (inb v1 16) ((if (columnOf_ v1.toNatClampNeg) = v2 then some 0 else gd (inb v1 16) (bd1 (m_X0_obstacle roomCount_ size_ barsOf_ teacherOf_ columnOf_ v1 (teacherOf_ v1.toNatClampNeg) v2) (fun r_1 => (if r_1 = 0 then some 1 else some 0)))))
abbrev rmX0_mayMove : Room := { frames := 2, cells := 0, slots := 0, locals := 47 }
set_option maxHeartbeats 4000000 in
set_option maxRecDepth 100000 in
theorem c_X0_mayMove (l : Launch) (dC : Nat → ClassId) (dI : Nat → Nat → Nat) (cyC cyI cyJ : ClassId) (h0 h0_barsOf h0_subjectOf h0_teacherOf h0_seatsOf h0_columnOf h0_columnsWith : Nat) (columnCount_ : Int32) (roomCount_ : Int32) (size_ : Int32) (barsOf_ : Nat → Int32) (teacherOf_ : Nat → Int32) (columnOf_ : Nat → Int32) (v1 : Int32) (v2 : Int32) (rr : Int32) (h : m_X0_mayMove roomCount_ size_ barsOf_ teacherOf_ columnOf_ v1 v2 = some rr) : uMi l yX0_mayMove wsX0_mayMove rmX0_mayMove (dC, dI) [(cyC, .char), (cyI, .int), (cyJ, .long)] [.ref h0, .int v1, .int v2] [(h0, .inr (0, [.int columnCount_, .int roomCount_, .int size_, .ref h0_barsOf, .ref h0_subjectOf, .ref h0_teacherOf, .ref h0_seatsOf, .ref h0_columnOf, .ref h0_columnsWith])), (h0_barsOf, .inl (cyI, 10, .inl barsOf_)), (h0_teacherOf, .inl (cyI, 16, .inl teacherOf_)), (h0_columnOf, .inl (cyI, 16, .inl columnOf_))] [(h0, .inr (0, [.int columnCount_, .int roomCount_, .int size_, .ref h0_barsOf, .ref h0_subjectOf, .ref h0_teacherOf, .ref h0_seatsOf, .ref h0_columnOf, .ref h0_columnsWith])), (h0_barsOf, .inl (cyI, 10, .inl barsOf_)), (h0_teacherOf, .inl (cyI, 16, .inl teacherOf_)), (h0_columnOf, .inl (cyI, 16, .inl columnOf_))] rr := by
  refine uMi.of (cc := cX0_mayMove) (maxL := 3) (by decide) rfl (Nat.le_of_ble_eq_true rfl) (fun p e s m args below meth c A ls Q hx hb hml hown hts hA hP hK hD hE hS hl hret => ?_)
  have hown : s.vm.findClass RX0 = some m.cls := hown
  have hl : lv_has ls 3 [(0, .ref h0), (1, .int v1), (2, .int v2)] := hl
  have hiX0 : ∀ w ∈ u_ws RX0 TX0 9, w ∈ wsX0_mayMove := fun _ h9 => List.mem_cons_of_mem _ (List.mem_append_right _ h9)
  unfold m_X0_mayMove at h
  refine lv_aload_n hx hb dX0_mayMove_0 rfl (lv_at hl 0 rfl) ?_
  refine va_get (D := (dC, dI)) (ci := 0) (v := .ref h0_columnOf) (C := RX0) (T := TX0) (N := 9) hx hb hts hiX0 hown hK hP 0 rfl rfl 7 (by decide) (hts (.fieldLink RX0 34 "OptionLattice$Plan" "columnOf" "[I") (by decide +kernel)) (fun _ h9 => h9) rfl dX0_mayMove_1 ?_
  refine lv_iload_n hx hb dX0_mayMove_4 rfl (lv_at hl 1 rfl) ?_
  obtain ⟨g_, h⟩ := gd_some h
  refine va_iald hx hb hK hP 3 1 rfl rfl (inb_in g_) dX0_mayMove_5 ?_
  refine lv_iload_n hx hb dX0_mayMove_6 rfl (lv_at hl 2 rfl) ?_
  refine lv_icmp_eq (tgt := 29) hx hb dX0_mayMove_7 (by decide) (fun c_ => ?_) (fun c_ => ?_)
  · have h := (if_pos c_).symm.trans h
    refine lv_iconst (v := 0) hx hb dX0_mayMove_29 (by decide) ?_
    have h : some 0 = some rr := h
    have z0 := Option.some.inj h
    obtain rfl := z0
    exact hret _ _ _ _ hP hS rfl dX0_mayMove_30
  · have h := (if_neg c_).symm.trans h
    refine lv_aload_n hx hb dX0_mayMove_10 rfl (lv_at hl 0 rfl) ?_
    refine lv_iload_n hx hb dX0_mayMove_11 rfl (lv_at hl 1 rfl) ?_
    refine lv_aload_n hx hb dX0_mayMove_12 rfl (lv_at hl 0 rfl) ?_
    refine va_get (D := (dC, dI)) (ci := 0) (v := .ref h0_teacherOf) (C := RX0) (T := TX0) (N := 9) hx hb hts hiX0 hown hK hP 0 rfl rfl 5 (by decide) (hts (.fieldLink RX0 28 "OptionLattice$Plan" "teacherOf" "[I") (by decide +kernel)) (fun _ h9 => h9) rfl dX0_mayMove_13 ?_
    refine lv_iload_n hx hb dX0_mayMove_16 rfl (lv_at hl 1 rfl) ?_
    obtain ⟨g_, h⟩ := gd_some h
    refine va_iald hx hb hK hP 2 1 rfl rfl (inb_in g_) dX0_mayMove_17 ?_
    refine lv_iload_n hx hb dX0_mayMove_18 rfl (lv_at hl 2 rfl) ?_
    obtain ⟨r_1, hq, h⟩ := bd1_some h
    refine uV_i (b := h0) (As := [.int v1, .int (teacherOf_ v1.toNatClampNeg), .int v2]) (rest := []) ⟨hx, hb, hml, hown, hts⟩ (c_X0_obstacle l dC dI cyC cyI cyJ h0 h0_barsOf h0_subjectOf h0_teacherOf h0_seatsOf h0_columnOf h0_columnsWith columnCount_ roomCount_ size_ barsOf_ teacherOf_ columnOf_ v1 (teacherOf_ v1.toNatClampNeg) v2 r_1 hq) (cwV 3 hts gX0_mayMove_X0_obstacle rfl rfl rfl (by decide +kernel) ⟨Nat.le_of_ble_eq_true rfl, Nat.le_of_ble_eq_true rfl⟩) hK hE hA hP hD hS [0, 1, 2, 3] rfl rfl rfl 0 0 rfl rfl rfl hl.1 rfl (Nat.le_of_ble_eq_true rfl) ⟨Nat.zero_le _, Nat.zero_le _⟩ dX0_mayMove_19 (fun H locs hP hD hS => ?_)
    have hP : va_P (dC, dI) vwCl [(h0, .inr (0, [.int columnCount_, .int roomCount_, .int size_, .ref h0_barsOf, .ref h0_subjectOf, .ref h0_teacherOf, .ref h0_seatsOf, .ref h0_columnOf, .ref h0_columnsWith])), (h0_barsOf, .inl (cyI, 10, .inl barsOf_)), (h0_teacherOf, .inl (cyI, 16, .inl teacherOf_)), (h0_columnOf, .inl (cyI, 16, .inl columnOf_))] H := hP
    have hD : va_D A [(h0, .inr (0, [.int columnCount_, .int roomCount_, .int size_, .ref h0_barsOf, .ref h0_subjectOf, .ref h0_teacherOf, .ref h0_seatsOf, .ref h0_columnOf, .ref h0_columnsWith])), (h0_barsOf, .inl (cyI, 10, .inl barsOf_)), (h0_teacherOf, .inl (cyI, 16, .inl teacherOf_)), (h0_columnOf, .inl (cyI, 16, .inl columnOf_))] := hD
    refine lv_if_ne (tgt := 29) hx hb dX0_mayMove_22 (by decide) (fun c_ => ?_) (fun c_ => ?_)
    · have h := (if_neg c_).symm.trans h
      refine lv_iconst (v := 0) hx hb dX0_mayMove_29 (by decide) ?_
      have h : some 0 = some rr := h
      have z0 := Option.some.inj h
      obtain rfl := z0
      exact hret _ _ _ _ hP hS rfl dX0_mayMove_30
    · have h := (if_pos c_).symm.trans h
      refine lv_iconst (v := 1) hx hb dX0_mayMove_25 (by decide) ?_
      refine lv_goto (tgt := 30) hx hb dX0_mayMove_26 (by decide) ?_
      have h : some 1 = some rr := h
      have z0 := Option.some.inj h
      obtain rfl := z0
      exact hret _ _ _ _ hP hS rfl dX0_mayMove_30

def m_X0_teaches_2 (size_ : Int32) (teacherOf_ : Nat → Int32) (columnOf_ : Nat → Int32) (v1 : Int32) (v2 : Int32) (rec2 : Int32 → Option (Int32)) : Int32 → Option (Int32) := fun v3 =>
  (if size_ ≤ v3 then some 0 else gd (inb v3 16) ((if (teacherOf_ v3.toNatClampNeg) = v1 then gd (inb v3 16) ((if (columnOf_ v3.toNatClampNeg) = v2 then some 1 else lt' (v3 + 1) (fun v3_2 => rec2 v3_2))) else lt' (v3 + 1) (fun v3_1 => rec2 v3_1))))
def m_X0_teaches (size_ : Int32) (teacherOf_ : Nat → Int32) (columnOf_ : Nat → Int32) (v1 : Int32) (v2 : Int32) : Option (Int32) :=
  it1 (m_X0_teaches_2 size_ teacherOf_ columnOf_ v1 v2) 1100 0
abbrev rmX0_teaches : Room := { frames := 0, cells := 0, slots := 0, locals := 0 }
set_option maxHeartbeats 4000000 in
set_option maxRecDepth 100000 in
theorem c_X0_teaches (l : Launch) (dC : Nat → ClassId) (dI : Nat → Nat → Nat) (cyC cyI cyJ : ClassId) (h0 h0_barsOf h0_subjectOf h0_teacherOf h0_seatsOf h0_columnOf h0_columnsWith : Nat) (columnCount_ : Int32) (roomCount_ : Int32) (size_ : Int32) (teacherOf_ : Nat → Int32) (columnOf_ : Nat → Int32) (v1 : Int32) (v2 : Int32) (rr : Int32) (h : m_X0_teaches size_ teacherOf_ columnOf_ v1 v2 = some rr) : uMi l yX0_teaches wsX0_teaches rmX0_teaches (dC, dI) [(cyC, .char), (cyI, .int), (cyJ, .long)] [.ref h0, .int v1, .int v2] [(h0, .inr (0, [.int columnCount_, .int roomCount_, .int size_, .ref h0_barsOf, .ref h0_subjectOf, .ref h0_teacherOf, .ref h0_seatsOf, .ref h0_columnOf, .ref h0_columnsWith])), (h0_teacherOf, .inl (cyI, 16, .inl teacherOf_)), (h0_columnOf, .inl (cyI, 16, .inl columnOf_))] [(h0, .inr (0, [.int columnCount_, .int roomCount_, .int size_, .ref h0_barsOf, .ref h0_subjectOf, .ref h0_teacherOf, .ref h0_seatsOf, .ref h0_columnOf, .ref h0_columnsWith])), (h0_teacherOf, .inl (cyI, 16, .inl teacherOf_)), (h0_columnOf, .inl (cyI, 16, .inl columnOf_))] rr := by
  refine uMi.of (cc := cX0_teaches) (maxL := 4) (by decide) rfl (Nat.le_of_ble_eq_true rfl) (fun p e s m args below meth c A ls Q hx hb hml hown hts hA hP hK hD hE hS hl hret => ?_)
  have hown : s.vm.findClass RX0 = some m.cls := hown
  have hl : lv_has ls 4 [(0, .ref h0), (1, .int v1), (2, .int v2)] := hl
  have hiX0 : ∀ w ∈ u_ws RX0 TX0 9, w ∈ wsX0_teaches := fun _ h9 => List.mem_cons_of_mem _ (List.mem_append_right _ h9)
  have L2 : ∀ (n2 : Nat), ∀ (v3 : Int32), it1 (m_X0_teaches_2 size_ teacherOf_ columnOf_ v1 v2) n2 v3 = some rr → ∀ (H : Heap) (locs : List Loc) (ls : Array Slot), va_P (dC, dI) vwCl [(h0, .inr (0, [.int columnCount_, .int roomCount_, .int size_, .ref h0_barsOf, .ref h0_subjectOf, .ref h0_teacherOf, .ref h0_seatsOf, .ref h0_columnOf, .ref h0_columnsWith])), (h0_teacherOf, .inl (cyI, 16, .inl teacherOf_)), (h0_columnOf, .inl (cyI, 16, .inl columnOf_))] H → va_D A [(h0, .inr (0, [.int columnCount_, .int roomCount_, .int size_, .ref h0_barsOf, .ref h0_subjectOf, .ref h0_teacherOf, .ref h0_seatsOf, .ref h0_columnOf, .ref h0_columnsWith])), (h0_teacherOf, .inl (cyI, 16, .inl teacherOf_)), (h0_columnOf, .inl (cyI, 16, .inl columnOf_))] → va_S A s.heap H locs → lv_has ls 4 [(0, .ref h0), (1, .int v1), (2, .int v2), (3, .int v3)] → W p l e rmX0_teaches s m args below meth c H locs 0 0 Q (F0 m 2 ls []) := by
    intro n2
    induction n2 with
    | zero => intro v3 h; exact absurd h (fun z => it1_z z)
    | succ n2 ih2 =>
      intro v3 h H locs ls hP hD hS hl
      have h : m_X0_teaches_2 size_ teacherOf_ columnOf_ v1 v2 (it1 (m_X0_teaches_2 size_ teacherOf_ columnOf_ v1 v2) n2) v3 = some rr := h
      unfold m_X0_teaches_2 at h
      refine lv_iload_n hx hb dX0_teaches_2 rfl (lv_at hl 3 rfl) ?_
      refine lv_aload_n hx hb dX0_teaches_3 rfl (lv_at hl 0 rfl) ?_
      refine va_get (D := (dC, dI)) (ci := 0) (v := .int size_) (C := RX0) (T := TX0) (N := 9) hx hb hts hiX0 hown hK hP 0 rfl rfl 2 (by decide) (hts (.fieldLink RX0 18 "OptionLattice$Plan" "size" "I") (by decide +kernel)) (fun _ h9 => h9) rfl dX0_teaches_4 ?_
      refine lv_icmp_ge (tgt := 38) hx hb dX0_teaches_7 (by decide) (fun c_ => ?_) (fun c_ => ?_)
      · have h := (if_pos c_).symm.trans h
        refine lv_iconst (v := 0) hx hb dX0_teaches_38 (by decide) ?_
        have h : some 0 = some rr := h
        have z0 := Option.some.inj h
        obtain rfl := z0
        exact hret _ _ _ _ hP hS rfl dX0_teaches_39
      · have h := (if_neg c_).symm.trans h
        refine lv_aload_n hx hb dX0_teaches_10 rfl (lv_at hl 0 rfl) ?_
        refine va_get (D := (dC, dI)) (ci := 0) (v := .ref h0_teacherOf) (C := RX0) (T := TX0) (N := 9) hx hb hts hiX0 hown hK hP 0 rfl rfl 5 (by decide) (hts (.fieldLink RX0 28 "OptionLattice$Plan" "teacherOf" "[I") (by decide +kernel)) (fun _ h9 => h9) rfl dX0_teaches_11 ?_
        refine lv_iload_n hx hb dX0_teaches_14 rfl (lv_at hl 3 rfl) ?_
        obtain ⟨g_, h⟩ := gd_some h
        refine va_iald hx hb hK hP 1 1 rfl rfl (inb_in g_) dX0_teaches_15 ?_
        refine lv_iload_n hx hb dX0_teaches_16 rfl (lv_at hl 1 rfl) ?_
        refine lv_icmp_ne (tgt := 32) hx hb dX0_teaches_17 (by decide) (fun c_ => ?_) (fun c_ => ?_)
        · have h := (if_neg c_).symm.trans h
          obtain ⟨v3_1, e_v3_1⟩ : ∃ z : Int32, z = (v3 + 1) := ⟨_, rfl⟩
          have h := lt_use e_v3_1 h
          refine lv_iinc (v := v3_1) (lv' := [(3, .int v3_1), (0, .ref h0), (1, .int v1), (2, .int v2)]) hx hb dX0_teaches_32 hl (k := 3) rfl (by rw [e_v3_1]; rfl) (by decide) rfl (fun ls hl => ?_)
          refine lv_goto (tgt := 2) hx hb dX0_teaches_35 (by decide) ?_
          exact ih2 v3_1 h _ _ _ hP hD hS (lv_sub hl [1, 2, 3, 0] rfl)
        · have h := (if_pos c_).symm.trans h
          refine lv_aload_n hx hb dX0_teaches_20 rfl (lv_at hl 0 rfl) ?_
          refine va_get (D := (dC, dI)) (ci := 0) (v := .ref h0_columnOf) (C := RX0) (T := TX0) (N := 9) hx hb hts hiX0 hown hK hP 0 rfl rfl 7 (by decide) (hts (.fieldLink RX0 34 "OptionLattice$Plan" "columnOf" "[I") (by decide +kernel)) (fun _ h9 => h9) rfl dX0_teaches_21 ?_
          refine lv_iload_n hx hb dX0_teaches_24 rfl (lv_at hl 3 rfl) ?_
          obtain ⟨g_, h⟩ := gd_some h
          refine va_iald hx hb hK hP 2 1 rfl rfl (inb_in g_) dX0_teaches_25 ?_
          refine lv_iload_n hx hb dX0_teaches_26 rfl (lv_at hl 2 rfl) ?_
          refine lv_icmp_ne (tgt := 32) hx hb dX0_teaches_27 (by decide) (fun c_ => ?_) (fun c_ => ?_)
          · have h := (if_neg c_).symm.trans h
            obtain ⟨v3_2, e_v3_2⟩ : ∃ z : Int32, z = (v3 + 1) := ⟨_, rfl⟩
            have h := lt_use e_v3_2 h
            refine lv_iinc (v := v3_2) (lv' := [(3, .int v3_2), (0, .ref h0), (1, .int v1), (2, .int v2)]) hx hb dX0_teaches_32 hl (k := 3) rfl (by rw [e_v3_2]; rfl) (by decide) rfl (fun ls hl => ?_)
            refine lv_goto (tgt := 2) hx hb dX0_teaches_35 (by decide) ?_
            exact ih2 v3_2 h _ _ _ hP hD hS (lv_sub hl [1, 2, 3, 0] rfl)
          · have h := (if_pos c_).symm.trans h
            refine lv_iconst (v := 1) hx hb dX0_teaches_30 (by decide) ?_
            have h : some 1 = some rr := h
            have z0 := Option.some.inj h
            obtain rfl := z0
            exact hret _ _ _ _ hP hS rfl dX0_teaches_31
  unfold m_X0_teaches at h
  refine lv_iconst (v := 0) hx hb dX0_teaches_0 (by decide) ?_
  refine lv_istore_n (lv' := [(3, .int 0), (0, .ref h0), (1, .int v1), (2, .int v2)]) hx hb dX0_teaches_1 rfl hl (by decide) rfl (fun ls hl => ?_)
  exact L2  1100 0 h _ _ _ hP hD hS (lv_sub hl [1, 2, 3, 0] rfl)

def m_X0_areApart (columnOf_ : Nat → Int32) (v1 : Int32) (v2 : Int32) : Option (Int32) :=
  gd (inb v1 16) ((if (columnOf_ v1.toNatClampNeg) = (-1) then some 0 else gd (inb v2 16) ((if (columnOf_ v2.toNatClampNeg) = (-1) then some 0 else gd (inb v1 16) (gd (inb v2 16) ((if (columnOf_ v1.toNatClampNeg) = (columnOf_ v2.toNatClampNeg) then some 0 else some 1)))))))
abbrev rmX0_areApart : Room := { frames := 0, cells := 0, slots := 0, locals := 0 }
set_option maxHeartbeats 4000000 in
set_option maxRecDepth 100000 in
theorem c_X0_areApart (l : Launch) (dC : Nat → ClassId) (dI : Nat → Nat → Nat) (cyC cyI cyJ : ClassId) (h0 h0_barsOf h0_subjectOf h0_teacherOf h0_seatsOf h0_columnOf h0_columnsWith : Nat) (columnCount_ : Int32) (roomCount_ : Int32) (size_ : Int32) (columnOf_ : Nat → Int32) (v1 : Int32) (v2 : Int32) (rr : Int32) (h : m_X0_areApart columnOf_ v1 v2 = some rr) : uMi l yX0_areApart wsX0_areApart rmX0_areApart (dC, dI) [(cyC, .char), (cyI, .int), (cyJ, .long)] [.ref h0, .int v1, .int v2] [(h0, .inr (0, [.int columnCount_, .int roomCount_, .int size_, .ref h0_barsOf, .ref h0_subjectOf, .ref h0_teacherOf, .ref h0_seatsOf, .ref h0_columnOf, .ref h0_columnsWith])), (h0_columnOf, .inl (cyI, 16, .inl columnOf_))] [(h0, .inr (0, [.int columnCount_, .int roomCount_, .int size_, .ref h0_barsOf, .ref h0_subjectOf, .ref h0_teacherOf, .ref h0_seatsOf, .ref h0_columnOf, .ref h0_columnsWith])), (h0_columnOf, .inl (cyI, 16, .inl columnOf_))] rr := by
  refine uMi.of (cc := cX0_areApart) (maxL := 3) (by decide) rfl (Nat.le_of_ble_eq_true rfl) (fun p e s m args below meth c A ls Q hx hb hml hown hts hA hP hK hD hE hS hl hret => ?_)
  have hown : s.vm.findClass RX0 = some m.cls := hown
  have hl : lv_has ls 3 [(0, .ref h0), (1, .int v1), (2, .int v2)] := hl
  have hiX0 : ∀ w ∈ u_ws RX0 TX0 9, w ∈ wsX0_areApart := fun _ h9 => List.mem_cons_of_mem _ (List.mem_append_right _ h9)
  unfold m_X0_areApart at h
  refine lv_aload_n hx hb dX0_areApart_0 rfl (lv_at hl 0 rfl) ?_
  refine va_get (D := (dC, dI)) (ci := 0) (v := .ref h0_columnOf) (C := RX0) (T := TX0) (N := 9) hx hb hts hiX0 hown hK hP 0 rfl rfl 7 (by decide) (hts (.fieldLink RX0 34 "OptionLattice$Plan" "columnOf" "[I") (by decide +kernel)) (fun _ h9 => h9) rfl dX0_areApart_1 ?_
  refine lv_iload_n hx hb dX0_areApart_4 rfl (lv_at hl 1 rfl) ?_
  obtain ⟨g_, h⟩ := gd_some h
  refine va_iald hx hb hK hP 1 1 rfl rfl (inb_in g_) dX0_areApart_5 ?_
  refine lv_iconst (v := (-1)) hx hb dX0_areApart_6 (by decide) ?_
  refine lv_icmp_eq (tgt := 39) hx hb dX0_areApart_7 (by decide) (fun c_ => ?_) (fun c_ => ?_)
  · have h := (if_pos c_).symm.trans h
    refine lv_iconst (v := 0) hx hb dX0_areApart_39 (by decide) ?_
    have h : some 0 = some rr := h
    have z0 := Option.some.inj h
    obtain rfl := z0
    exact hret _ _ _ _ hP hS rfl dX0_areApart_40
  · have h := (if_neg c_).symm.trans h
    refine lv_aload_n hx hb dX0_areApart_10 rfl (lv_at hl 0 rfl) ?_
    refine va_get (D := (dC, dI)) (ci := 0) (v := .ref h0_columnOf) (C := RX0) (T := TX0) (N := 9) hx hb hts hiX0 hown hK hP 0 rfl rfl 7 (by decide) (hts (.fieldLink RX0 34 "OptionLattice$Plan" "columnOf" "[I") (by decide +kernel)) (fun _ h9 => h9) rfl dX0_areApart_11 ?_
    refine lv_iload_n hx hb dX0_areApart_14 rfl (lv_at hl 2 rfl) ?_
    obtain ⟨g_, h⟩ := gd_some h
    refine va_iald hx hb hK hP 1 1 rfl rfl (inb_in g_) dX0_areApart_15 ?_
    refine lv_iconst (v := (-1)) hx hb dX0_areApart_16 (by decide) ?_
    refine lv_icmp_eq (tgt := 39) hx hb dX0_areApart_17 (by decide) (fun c_ => ?_) (fun c_ => ?_)
    · have h := (if_pos c_).symm.trans h
      refine lv_iconst (v := 0) hx hb dX0_areApart_39 (by decide) ?_
      have h : some 0 = some rr := h
      have z0 := Option.some.inj h
      obtain rfl := z0
      exact hret _ _ _ _ hP hS rfl dX0_areApart_40
    · have h := (if_neg c_).symm.trans h
      refine lv_aload_n hx hb dX0_areApart_20 rfl (lv_at hl 0 rfl) ?_
      refine va_get (D := (dC, dI)) (ci := 0) (v := .ref h0_columnOf) (C := RX0) (T := TX0) (N := 9) hx hb hts hiX0 hown hK hP 0 rfl rfl 7 (by decide) (hts (.fieldLink RX0 34 "OptionLattice$Plan" "columnOf" "[I") (by decide +kernel)) (fun _ h9 => h9) rfl dX0_areApart_21 ?_
      refine lv_iload_n hx hb dX0_areApart_24 rfl (lv_at hl 1 rfl) ?_
      obtain ⟨g_, h⟩ := gd_some h
      refine va_iald hx hb hK hP 1 1 rfl rfl (inb_in g_) dX0_areApart_25 ?_
      refine lv_aload_n hx hb dX0_areApart_26 rfl (lv_at hl 0 rfl) ?_
      refine va_get (D := (dC, dI)) (ci := 0) (v := .ref h0_columnOf) (C := RX0) (T := TX0) (N := 9) hx hb hts hiX0 hown hK hP 0 rfl rfl 7 (by decide) (hts (.fieldLink RX0 34 "OptionLattice$Plan" "columnOf" "[I") (by decide +kernel)) (fun _ h9 => h9) rfl dX0_areApart_27 ?_
      refine lv_iload_n hx hb dX0_areApart_30 rfl (lv_at hl 2 rfl) ?_
      obtain ⟨g_, h⟩ := gd_some h
      refine va_iald hx hb hK hP 1 1 rfl rfl (inb_in g_) dX0_areApart_31 ?_
      refine lv_icmp_eq (tgt := 39) hx hb dX0_areApart_32 (by decide) (fun c_ => ?_) (fun c_ => ?_)
      · have h := (if_pos c_).symm.trans h
        refine lv_iconst (v := 0) hx hb dX0_areApart_39 (by decide) ?_
        have h : some 0 = some rr := h
        have z0 := Option.some.inj h
        obtain rfl := z0
        exact hret _ _ _ _ hP hS rfl dX0_areApart_40
      · have h := (if_neg c_).symm.trans h
        refine lv_iconst (v := 1) hx hb dX0_areApart_35 (by decide) ?_
        refine lv_goto (tgt := 40) hx hb dX0_areApart_36 (by decide) ?_
        have h : some 1 = some rr := h
        have z0 := Option.some.inj h
        obtain rfl := z0
        exact hret _ _ _ _ hP hS rfl dX0_areApart_40

def m_X0_mayReplace_41 (columnOf_ : Nat → Int32) (v2 : Int32) (v3 : Int32) (t0 : Int32) : Option (Int32 × (Nat → Int32)) :=
  gd (inb v2 16) (gd (isb t0) (some (t0, (upd columnOf_ v2.toNatClampNeg v3))))
def m_X0_mayReplace (roomCount_ : Int32) (size_ : Int32) (barsOf_ : Nat → Int32) (teacherOf_ : Nat → Int32) (columnOf_ : Nat → Int32) (v1 : Int32) (v2 : Int32) : Option (Int32 × (Nat → Int32)) :=
  gd (inb v2 16) (lt' (columnOf_ v2.toNatClampNeg) (fun v3_1 => (if v3_1 = (-1) then some (1, columnOf_) else gd (inb v2 16) (gd (inb v1 16) (bd1 (m_X0_obstacle roomCount_ size_ barsOf_ teacherOf_ (upd columnOf_ v2.toNatClampNeg (-1)) v1 (teacherOf_ v1.toNatClampNeg) v3_1) (fun r_2 => (if r_2 = 0 then m_X0_mayReplace_41 (upd columnOf_ v2.toNatClampNeg (-1)) v2 v3_1 1 else m_X0_mayReplace_41 (upd columnOf_ v2.toNatClampNeg (-1)) v2 v3_1 0)))))))
abbrev rmX0_mayReplace : Room := { frames := 2, cells := 0, slots := 0, locals := 47 }
set_option maxHeartbeats 4000000 in
set_option maxRecDepth 100000 in
theorem c_X0_mayReplace (l : Launch) (dC : Nat → ClassId) (dI : Nat → Nat → Nat) (cyC cyI cyJ : ClassId) (h0 h0_barsOf h0_subjectOf h0_teacherOf h0_seatsOf h0_columnOf h0_columnsWith : Nat) (columnCount_ : Int32) (roomCount_ : Int32) (size_ : Int32) (barsOf_ : Nat → Int32) (teacherOf_ : Nat → Int32) (columnOf_ : Nat → Int32) (v1 : Int32) (v2 : Int32) (rr : Int32) (o0 : Nat → Int32) (h : m_X0_mayReplace roomCount_ size_ barsOf_ teacherOf_ columnOf_ v1 v2 = some (rr, o0)) : uMi l yX0_mayReplace wsX0_mayReplace rmX0_mayReplace (dC, dI) [(cyC, .char), (cyI, .int), (cyJ, .long)] [.ref h0, .int v1, .int v2] [(h0, .inr (0, [.int columnCount_, .int roomCount_, .int size_, .ref h0_barsOf, .ref h0_subjectOf, .ref h0_teacherOf, .ref h0_seatsOf, .ref h0_columnOf, .ref h0_columnsWith])), (h0_barsOf, .inl (cyI, 10, .inl barsOf_)), (h0_teacherOf, .inl (cyI, 16, .inl teacherOf_)), (h0_columnOf, .inl (cyI, 16, .inl columnOf_))] [(h0, .inr (0, [.int columnCount_, .int roomCount_, .int size_, .ref h0_barsOf, .ref h0_subjectOf, .ref h0_teacherOf, .ref h0_seatsOf, .ref h0_columnOf, .ref h0_columnsWith])), (h0_barsOf, .inl (cyI, 10, .inl barsOf_)), (h0_teacherOf, .inl (cyI, 16, .inl teacherOf_)), (h0_columnOf, .inl (cyI, 16, .inl o0))] rr := by
  refine uMi.of (cc := cX0_mayReplace) (maxL := 5) (by decide) rfl (Nat.le_of_ble_eq_true rfl) (fun p e s m args below meth c A ls Q hx hb hml hown hts hA hP hK hD hE hS hl hret => ?_)
  have hown : s.vm.findClass RX0 = some m.cls := hown
  have hl : lv_has ls 5 [(0, .ref h0), (1, .int v1), (2, .int v2)] := hl
  have hiX0 : ∀ w ∈ u_ws RX0 TX0 9, w ∈ wsX0_mayReplace := fun _ h9 => List.mem_cons_of_mem _ (List.mem_append_right _ h9)
  have J41 : ∀ (v3 : Int32), ∀ (t0 : Int32), ∀ (columnOf_ : Nat → Int32), m_X0_mayReplace_41 columnOf_ v2 v3 t0 = some (rr, o0) → ∀ (H : Heap) (locs : List Loc) (ls : Array Slot), va_P (dC, dI) vwCl [(h0, .inr (0, [.int columnCount_, .int roomCount_, .int size_, .ref h0_barsOf, .ref h0_subjectOf, .ref h0_teacherOf, .ref h0_seatsOf, .ref h0_columnOf, .ref h0_columnsWith])), (h0_barsOf, .inl (cyI, 10, .inl barsOf_)), (h0_teacherOf, .inl (cyI, 16, .inl teacherOf_)), (h0_columnOf, .inl (cyI, 16, .inl columnOf_))] H → va_D A [(h0, .inr (0, [.int columnCount_, .int roomCount_, .int size_, .ref h0_barsOf, .ref h0_subjectOf, .ref h0_teacherOf, .ref h0_seatsOf, .ref h0_columnOf, .ref h0_columnsWith])), (h0_barsOf, .inl (cyI, 10, .inl barsOf_)), (h0_teacherOf, .inl (cyI, 16, .inl teacherOf_)), (h0_columnOf, .inl (cyI, 16, .inl columnOf_))] → va_S A s.heap H locs → lv_has ls 5 [(0, .ref h0), (2, .int v2), (3, .int v3)] → W p l e rmX0_mayReplace s m args below meth c H locs 0 0 Q (F0 m 41 ls [.int t0]) := by
    intro v3 t0 columnOf_ h H locs ls hP hD hS hl
    unfold m_X0_mayReplace_41 at h
    refine lv_istore (lv' := [(4, .int t0), (0, .ref h0), (2, .int v2), (3, .int v3)]) hx hb dX0_mayReplace_41 hl (by decide) rfl (fun ls hl => ?_)
    refine lv_aload_n hx hb dX0_mayReplace_43 rfl (lv_at hl 1 rfl) ?_
    refine va_get (D := (dC, dI)) (ci := 0) (v := .ref h0_columnOf) (C := RX0) (T := TX0) (N := 9) hx hb hts hiX0 hown hK hP 0 rfl rfl 7 (by decide) (hts (.fieldLink RX0 34 "OptionLattice$Plan" "columnOf" "[I") (by decide +kernel)) (fun _ h9 => h9) rfl dX0_mayReplace_44 ?_
    refine lv_iload_n hx hb dX0_mayReplace_47 rfl (lv_at hl 2 rfl) ?_
    refine lv_iload_n hx hb dX0_mayReplace_48 rfl (lv_at hl 3 rfl) ?_
    obtain ⟨g_, h⟩ := gd_some h
    refine va_iast hx hb hK hP hD hS 3 1 rfl rfl (inb_in g_) dX0_mayReplace_49 (fun H locs hP hD hS => ?_)
    have hP : va_P (dC, dI) vwCl [(h0, .inr (0, [.int columnCount_, .int roomCount_, .int size_, .ref h0_barsOf, .ref h0_subjectOf, .ref h0_teacherOf, .ref h0_seatsOf, .ref h0_columnOf, .ref h0_columnsWith])), (h0_barsOf, .inl (cyI, 10, .inl barsOf_)), (h0_teacherOf, .inl (cyI, 16, .inl teacherOf_)), (h0_columnOf, .inl (cyI, 16, .inl (upd columnOf_ v2.toNatClampNeg v3)))] H := hP
    have hD : va_D A [(h0, .inr (0, [.int columnCount_, .int roomCount_, .int size_, .ref h0_barsOf, .ref h0_subjectOf, .ref h0_teacherOf, .ref h0_seatsOf, .ref h0_columnOf, .ref h0_columnsWith])), (h0_barsOf, .inl (cyI, 10, .inl barsOf_)), (h0_teacherOf, .inl (cyI, 16, .inl teacherOf_)), (h0_columnOf, .inl (cyI, 16, .inl (upd columnOf_ v2.toNatClampNeg v3)))] := hD
    refine lv_iload hx hb dX0_mayReplace_50 (lv_at hl 0 rfl) ?_
    obtain ⟨g_, h⟩ := gd_some h
    have h : some (t0, (upd columnOf_ v2.toNatClampNeg v3)) = some (rr, o0) := h
    have z0 := Option.some.inj h
    obtain ⟨rfl, z1⟩ := Prod.mk.inj z0
    obtain rfl := z1
    exact hret _ _ _ _ hP hS (isb_of g_) dX0_mayReplace_52
  unfold m_X0_mayReplace at h
  refine lv_aload_n hx hb dX0_mayReplace_0 rfl (lv_at hl 0 rfl) ?_
  refine va_get (D := (dC, dI)) (ci := 0) (v := .ref h0_columnOf) (C := RX0) (T := TX0) (N := 9) hx hb hts hiX0 hown hK hP 0 rfl rfl 7 (by decide) (hts (.fieldLink RX0 34 "OptionLattice$Plan" "columnOf" "[I") (by decide +kernel)) (fun _ h9 => h9) rfl dX0_mayReplace_1 ?_
  refine lv_iload_n hx hb dX0_mayReplace_4 rfl (lv_at hl 2 rfl) ?_
  obtain ⟨g_, h⟩ := gd_some h
  refine va_iald hx hb hK hP 3 1 rfl rfl (inb_in g_) dX0_mayReplace_5 ?_
  refine lv_topi (fun v3_1 e_v3_1 => ?_)
  have h := lt_use e_v3_1 h
  refine lv_istore_n (lv' := [(3, .int v3_1), (0, .ref h0), (1, .int v1), (2, .int v2)]) hx hb dX0_mayReplace_6 rfl hl (by decide) rfl (fun ls hl => ?_)
  refine lv_iload_n hx hb dX0_mayReplace_7 rfl (lv_at hl 0 rfl) ?_
  refine lv_iconst (v := (-1)) hx hb dX0_mayReplace_8 (by decide) ?_
  refine lv_icmp_ne (tgt := 14) hx hb dX0_mayReplace_9 (by decide) (fun c_ => ?_) (fun c_ => ?_)
  · have h := (if_neg c_).symm.trans h
    refine lv_aload_n hx hb dX0_mayReplace_14 rfl (lv_at hl 1 rfl) ?_
    refine va_get (D := (dC, dI)) (ci := 0) (v := .ref h0_columnOf) (C := RX0) (T := TX0) (N := 9) hx hb hts hiX0 hown hK hP 0 rfl rfl 7 (by decide) (hts (.fieldLink RX0 34 "OptionLattice$Plan" "columnOf" "[I") (by decide +kernel)) (fun _ h9 => h9) rfl dX0_mayReplace_15 ?_
    refine lv_iload_n hx hb dX0_mayReplace_18 rfl (lv_at hl 3 rfl) ?_
    refine lv_iconst (v := (-1)) hx hb dX0_mayReplace_19 (by decide) ?_
    obtain ⟨g_, h⟩ := gd_some h
    refine va_iast hx hb hK hP hD hS 3 1 rfl rfl (inb_in g_) dX0_mayReplace_20 (fun H locs hP hD hS => ?_)
    have hP : va_P (dC, dI) vwCl [(h0, .inr (0, [.int columnCount_, .int roomCount_, .int size_, .ref h0_barsOf, .ref h0_subjectOf, .ref h0_teacherOf, .ref h0_seatsOf, .ref h0_columnOf, .ref h0_columnsWith])), (h0_barsOf, .inl (cyI, 10, .inl barsOf_)), (h0_teacherOf, .inl (cyI, 16, .inl teacherOf_)), (h0_columnOf, .inl (cyI, 16, .inl (upd columnOf_ v2.toNatClampNeg (-1))))] H := hP
    have hD : va_D A [(h0, .inr (0, [.int columnCount_, .int roomCount_, .int size_, .ref h0_barsOf, .ref h0_subjectOf, .ref h0_teacherOf, .ref h0_seatsOf, .ref h0_columnOf, .ref h0_columnsWith])), (h0_barsOf, .inl (cyI, 10, .inl barsOf_)), (h0_teacherOf, .inl (cyI, 16, .inl teacherOf_)), (h0_columnOf, .inl (cyI, 16, .inl (upd columnOf_ v2.toNatClampNeg (-1))))] := hD
    refine lv_aload_n hx hb dX0_mayReplace_21 rfl (lv_at hl 1 rfl) ?_
    refine lv_iload_n hx hb dX0_mayReplace_22 rfl (lv_at hl 2 rfl) ?_
    refine lv_aload_n hx hb dX0_mayReplace_23 rfl (lv_at hl 1 rfl) ?_
    refine va_get (D := (dC, dI)) (ci := 0) (v := .ref h0_teacherOf) (C := RX0) (T := TX0) (N := 9) hx hb hts hiX0 hown hK hP 0 rfl rfl 5 (by decide) (hts (.fieldLink RX0 28 "OptionLattice$Plan" "teacherOf" "[I") (by decide +kernel)) (fun _ h9 => h9) rfl dX0_mayReplace_24 ?_
    refine lv_iload_n hx hb dX0_mayReplace_27 rfl (lv_at hl 2 rfl) ?_
    obtain ⟨g_, h⟩ := gd_some h
    refine va_iald hx hb hK hP 2 1 rfl rfl (inb_in g_) dX0_mayReplace_28 ?_
    refine lv_iload_n hx hb dX0_mayReplace_29 rfl (lv_at hl 0 rfl) ?_
    obtain ⟨r_2, hq, h⟩ := bd1_some h
    refine uV_i (b := h0) (As := [.int v1, .int (teacherOf_ v1.toNatClampNeg), .int v3_1]) (rest := []) ⟨hx, hb, hml, hown, hts⟩ (c_X0_obstacle l dC dI cyC cyI cyJ h0 h0_barsOf h0_subjectOf h0_teacherOf h0_seatsOf h0_columnOf h0_columnsWith columnCount_ roomCount_ size_ barsOf_ teacherOf_ (upd columnOf_ v2.toNatClampNeg (-1)) v1 (teacherOf_ v1.toNatClampNeg) v3_1 r_2 hq) (cwV 3 hts gX0_mayReplace_X0_obstacle rfl rfl rfl (by decide +kernel) ⟨Nat.le_of_ble_eq_true rfl, Nat.le_of_ble_eq_true rfl⟩) hK hE hA hP hD hS [0, 1, 2, 3] rfl rfl rfl 0 0 rfl rfl rfl hl.1 rfl (Nat.le_of_ble_eq_true rfl) ⟨Nat.zero_le _, Nat.zero_le _⟩ dX0_mayReplace_30 (fun H locs hP hD hS => ?_)
    have hP : va_P (dC, dI) vwCl [(h0, .inr (0, [.int columnCount_, .int roomCount_, .int size_, .ref h0_barsOf, .ref h0_subjectOf, .ref h0_teacherOf, .ref h0_seatsOf, .ref h0_columnOf, .ref h0_columnsWith])), (h0_barsOf, .inl (cyI, 10, .inl barsOf_)), (h0_teacherOf, .inl (cyI, 16, .inl teacherOf_)), (h0_columnOf, .inl (cyI, 16, .inl (upd columnOf_ v2.toNatClampNeg (-1))))] H := hP
    have hD : va_D A [(h0, .inr (0, [.int columnCount_, .int roomCount_, .int size_, .ref h0_barsOf, .ref h0_subjectOf, .ref h0_teacherOf, .ref h0_seatsOf, .ref h0_columnOf, .ref h0_columnsWith])), (h0_barsOf, .inl (cyI, 10, .inl barsOf_)), (h0_teacherOf, .inl (cyI, 16, .inl teacherOf_)), (h0_columnOf, .inl (cyI, 16, .inl (upd columnOf_ v2.toNatClampNeg (-1))))] := hD
    refine lv_if_ne (tgt := 40) hx hb dX0_mayReplace_33 (by decide) (fun c_ => ?_) (fun c_ => ?_)
    · have h := (if_neg c_).symm.trans h
      refine lv_iconst (v := 0) hx hb dX0_mayReplace_40 (by decide) ?_
      exact J41 v3_1 0 (upd columnOf_ v2.toNatClampNeg (-1)) h _ _ _ hP hD hS (lv_sub hl [1, 3, 0] rfl)
    · have h := (if_pos c_).symm.trans h
      refine lv_iconst (v := 1) hx hb dX0_mayReplace_36 (by decide) ?_
      refine lv_goto (tgt := 41) hx hb dX0_mayReplace_37 (by decide) ?_
      exact J41 v3_1 1 (upd columnOf_ v2.toNatClampNeg (-1)) h _ _ _ hP hD hS (lv_sub hl [1, 3, 0] rfl)
  · have h := (if_pos c_).symm.trans h
    refine lv_iconst (v := 1) hx hb dX0_mayReplace_12 (by decide) ?_
    have h : some (1, columnOf_) = some (rr, o0) := h
    have z0 := Option.some.inj h
    obtain ⟨rfl, z1⟩ := Prod.mk.inj z0
    obtain rfl := z1
    exact hret _ _ _ _ hP hS rfl dX0_mayReplace_13

def m_X0_mayTrade (roomCount_ : Int32) (size_ : Int32) (barsOf_ : Nat → Int32) (teacherOf_ : Nat → Int32) (columnOf_ : Nat → Int32) (v1 : Int32) (v2 : Int32) : Option (Int32 × (Nat → Int32)) :=
  bd2 (m_X0_mayReplace roomCount_ size_ barsOf_ teacherOf_ columnOf_ v1 v2) (fun r_1 columnOf_2 => (if r_1 = 0 then some (0, columnOf_2) else bd2 (m_X0_mayReplace roomCount_ size_ barsOf_ teacherOf_ columnOf_2 v2 v1) (fun r_3 columnOf_4 => (if r_3 = 0 then some (0, columnOf_4) else some (1, columnOf_4)))))
abbrev rmX0_mayTrade : Room := { frames := 3, cells := 0, slots := 0, locals := 71 }
set_option maxHeartbeats 4000000 in
set_option maxRecDepth 100000 in
theorem c_X0_mayTrade (l : Launch) (dC : Nat → ClassId) (dI : Nat → Nat → Nat) (cyC cyI cyJ : ClassId) (h0 h0_barsOf h0_subjectOf h0_teacherOf h0_seatsOf h0_columnOf h0_columnsWith : Nat) (columnCount_ : Int32) (roomCount_ : Int32) (size_ : Int32) (barsOf_ : Nat → Int32) (teacherOf_ : Nat → Int32) (columnOf_ : Nat → Int32) (v1 : Int32) (v2 : Int32) (rr : Int32) (o0 : Nat → Int32) (h : m_X0_mayTrade roomCount_ size_ barsOf_ teacherOf_ columnOf_ v1 v2 = some (rr, o0)) : uMi l yX0_mayTrade wsX0_mayTrade rmX0_mayTrade (dC, dI) [(cyC, .char), (cyI, .int), (cyJ, .long)] [.ref h0, .int v1, .int v2] [(h0, .inr (0, [.int columnCount_, .int roomCount_, .int size_, .ref h0_barsOf, .ref h0_subjectOf, .ref h0_teacherOf, .ref h0_seatsOf, .ref h0_columnOf, .ref h0_columnsWith])), (h0_barsOf, .inl (cyI, 10, .inl barsOf_)), (h0_teacherOf, .inl (cyI, 16, .inl teacherOf_)), (h0_columnOf, .inl (cyI, 16, .inl columnOf_))] [(h0, .inr (0, [.int columnCount_, .int roomCount_, .int size_, .ref h0_barsOf, .ref h0_subjectOf, .ref h0_teacherOf, .ref h0_seatsOf, .ref h0_columnOf, .ref h0_columnsWith])), (h0_barsOf, .inl (cyI, 10, .inl barsOf_)), (h0_teacherOf, .inl (cyI, 16, .inl teacherOf_)), (h0_columnOf, .inl (cyI, 16, .inl o0))] rr := by
  refine uMi.of (cc := cX0_mayTrade) (maxL := 3) (by decide) rfl (Nat.le_of_ble_eq_true rfl) (fun p e s m args below meth c A ls Q hx hb hml hown hts hA hP hK hD hE hS hl hret => ?_)
  have hown : s.vm.findClass RX0 = some m.cls := hown
  have hl : lv_has ls 3 [(0, .ref h0), (1, .int v1), (2, .int v2)] := hl
  unfold m_X0_mayTrade at h
  refine lv_aload_n hx hb dX0_mayTrade_0 rfl (lv_at hl 0 rfl) ?_
  refine lv_iload_n hx hb dX0_mayTrade_1 rfl (lv_at hl 1 rfl) ?_
  refine lv_iload_n hx hb dX0_mayTrade_2 rfl (lv_at hl 2 rfl) ?_
  obtain ⟨r_1, columnOf_2, hq, h⟩ := bd2_some h
  refine uV_i (b := h0) (As := [.int v1, .int v2]) (rest := []) ⟨hx, hb, hml, hown, hts⟩ (c_X0_mayReplace l dC dI cyC cyI cyJ h0 h0_barsOf h0_subjectOf h0_teacherOf h0_seatsOf h0_columnOf h0_columnsWith columnCount_ roomCount_ size_ barsOf_ teacherOf_ columnOf_ v1 v2 r_1 columnOf_2 hq) (cwV 2 hts gX0_mayTrade_X0_mayReplace rfl rfl rfl (by decide +kernel) ⟨Nat.le_of_ble_eq_true rfl, Nat.le_of_ble_eq_true rfl⟩) hK hE hA hP hD hS [0, 1, 2, 3] rfl rfl rfl 0 0 rfl rfl rfl hl.1 rfl (Nat.le_of_ble_eq_true rfl) ⟨Nat.zero_le _, Nat.zero_le _⟩ dX0_mayTrade_3 (fun H locs hP hD hS => ?_)
  have hP : va_P (dC, dI) vwCl [(h0, .inr (0, [.int columnCount_, .int roomCount_, .int size_, .ref h0_barsOf, .ref h0_subjectOf, .ref h0_teacherOf, .ref h0_seatsOf, .ref h0_columnOf, .ref h0_columnsWith])), (h0_barsOf, .inl (cyI, 10, .inl barsOf_)), (h0_teacherOf, .inl (cyI, 16, .inl teacherOf_)), (h0_columnOf, .inl (cyI, 16, .inl columnOf_2))] H := hP
  have hD : va_D A [(h0, .inr (0, [.int columnCount_, .int roomCount_, .int size_, .ref h0_barsOf, .ref h0_subjectOf, .ref h0_teacherOf, .ref h0_seatsOf, .ref h0_columnOf, .ref h0_columnsWith])), (h0_barsOf, .inl (cyI, 10, .inl barsOf_)), (h0_teacherOf, .inl (cyI, 16, .inl teacherOf_)), (h0_columnOf, .inl (cyI, 16, .inl columnOf_2))] := hD
  refine lv_if_eq (tgt := 22) hx hb dX0_mayTrade_6 (by decide) (fun c_ => ?_) (fun c_ => ?_)
  · have h := (if_pos c_).symm.trans h
    refine lv_iconst (v := 0) hx hb dX0_mayTrade_22 (by decide) ?_
    have h : some (0, columnOf_2) = some (rr, o0) := h
    have z0 := Option.some.inj h
    obtain ⟨rfl, z1⟩ := Prod.mk.inj z0
    obtain rfl := z1
    exact hret _ _ _ _ hP hS rfl dX0_mayTrade_23
  · have h := (if_neg c_).symm.trans h
    refine lv_aload_n hx hb dX0_mayTrade_9 rfl (lv_at hl 0 rfl) ?_
    refine lv_iload_n hx hb dX0_mayTrade_10 rfl (lv_at hl 2 rfl) ?_
    refine lv_iload_n hx hb dX0_mayTrade_11 rfl (lv_at hl 1 rfl) ?_
    obtain ⟨r_3, columnOf_4, hq, h⟩ := bd2_some h
    refine uV_i (b := h0) (As := [.int v2, .int v1]) (rest := []) ⟨hx, hb, hml, hown, hts⟩ (c_X0_mayReplace l dC dI cyC cyI cyJ h0 h0_barsOf h0_subjectOf h0_teacherOf h0_seatsOf h0_columnOf h0_columnsWith columnCount_ roomCount_ size_ barsOf_ teacherOf_ columnOf_2 v2 v1 r_3 columnOf_4 hq) (cwV 2 hts gX0_mayTrade_X0_mayReplace rfl rfl rfl (by decide +kernel) ⟨Nat.le_of_ble_eq_true rfl, Nat.le_of_ble_eq_true rfl⟩) hK hE hA hP hD hS [0, 1, 2, 3] rfl rfl rfl 0 0 rfl rfl rfl hl.1 rfl (Nat.le_of_ble_eq_true rfl) ⟨Nat.zero_le _, Nat.zero_le _⟩ dX0_mayTrade_12 (fun H locs hP hD hS => ?_)
    have hP : va_P (dC, dI) vwCl [(h0, .inr (0, [.int columnCount_, .int roomCount_, .int size_, .ref h0_barsOf, .ref h0_subjectOf, .ref h0_teacherOf, .ref h0_seatsOf, .ref h0_columnOf, .ref h0_columnsWith])), (h0_barsOf, .inl (cyI, 10, .inl barsOf_)), (h0_teacherOf, .inl (cyI, 16, .inl teacherOf_)), (h0_columnOf, .inl (cyI, 16, .inl columnOf_4))] H := hP
    have hD : va_D A [(h0, .inr (0, [.int columnCount_, .int roomCount_, .int size_, .ref h0_barsOf, .ref h0_subjectOf, .ref h0_teacherOf, .ref h0_seatsOf, .ref h0_columnOf, .ref h0_columnsWith])), (h0_barsOf, .inl (cyI, 10, .inl barsOf_)), (h0_teacherOf, .inl (cyI, 16, .inl teacherOf_)), (h0_columnOf, .inl (cyI, 16, .inl columnOf_4))] := hD
    refine lv_if_eq (tgt := 22) hx hb dX0_mayTrade_15 (by decide) (fun c_ => ?_) (fun c_ => ?_)
    · have h := (if_pos c_).symm.trans h
      refine lv_iconst (v := 0) hx hb dX0_mayTrade_22 (by decide) ?_
      have h : some (0, columnOf_4) = some (rr, o0) := h
      have z0 := Option.some.inj h
      obtain ⟨rfl, z1⟩ := Prod.mk.inj z0
      obtain rfl := z1
      exact hret _ _ _ _ hP hS rfl dX0_mayTrade_23
    · have h := (if_neg c_).symm.trans h
      refine lv_iconst (v := 1) hx hb dX0_mayTrade_18 (by decide) ?_
      refine lv_goto (tgt := 23) hx hb dX0_mayTrade_19 (by decide) ?_
      have h : some (1, columnOf_4) = some (rr, o0) := h
      have z0 := Option.some.inj h
      obtain ⟨rfl, z1⟩ := Prod.mk.inj z0
      obtain rfl := z1
      exact hret _ _ _ _ hP hS rfl dX0_mayTrade_23

def m_X4_startsBefore_5 (v0 : Int64) (v2 : Int32) (rec5 : Int64 → Int32 → Option (Int64)) : Int64 → Int32 → Option (Int64) := fun v3 v5 =>
  (if 6 ≤ v5 then some v3 else bd1 (m_X5_hasBit v2 v5) (fun r_1 => (if r_1 = 0 then lt' (v5 + 1) (fun v5_2 => rec5 v3 v5_2) else gd (inb v5 6) (lt' (v3 ||| ((lushr v0 ((1 : Int32) <<< (v5 &&& 31))) &&& (ev_sw v5.toNatClampNeg))) (fun v3_3 => lt' (v5 + 1) (fun v5_4 => rec5 v3_3 v5_4))))))
def m_X4_startsBefore (v0 : Int64) (v2 : Int32) : Option (Int64) :=
  it2 (m_X4_startsBefore_5 v0 v2) 1100 0 0
abbrev rmX4_startsBefore : Room := { frames := 1, cells := 0, slots := 0, locals := 21 }
set_option maxHeartbeats 4000000 in
set_option maxRecDepth 100000 in
theorem c_X4_startsBefore (l : Launch) (dC : Nat → ClassId) (dI : Nat → Nat → Nat) (cyC cyI cyJ : ClassId) (v0 : Int64) (v2 : Int32) (rr : Int64) (h : m_X4_startsBefore v0 v2 = some rr) : uMl l yX4_startsBefore wsX4_startsBefore rmX4_startsBefore (dC, dI) [(cyC, .char), (cyI, .int), (cyJ, .long)] [.long v0, .int v2] [] [] rr := by
  refine uMl.of (cc := cX4_startsBefore) (maxL := 6) (by decide) rfl (Nat.le_of_ble_eq_true rfl) (fun p e s m args below meth c A ls Q hx hb hml hown hts hA hP hK hD hE hS hl hret => ?_)
  have hown : s.vm.findClass RX4 = some m.cls := hown
  have hl : lv_has ls 6 [(0, .long v0), (2, .int v2)] := hl
  obtain ⟨t9, hz9, ht9⟩ := hE.2.2
  have L5 : ∀ (n5 : Nat), ∀ (v3 : Int64), ∀ (v5 : Int32), it2 (m_X4_startsBefore_5 v0 v2) n5 v3 v5 = some rr → ∀ (H : Heap) (locs : List Loc) (ls : Array Slot), va_P (dC, dI) vwCl [] H → va_D A [] → va_S A s.heap H locs → lv_has ls 6 [(0, .long v0), (2, .int v2), (3, .long v3), (5, .int v5)] → W p l e rmX4_startsBefore s m args below meth c H locs 0 0 Q (F0 m 5 ls []) := by
    intro n5
    induction n5 with
    | zero => intro v3 v5 h; exact absurd h (fun z => it2_z z)
    | succ n5 ih5 =>
      intro v3 v5 h H locs ls hP hD hS hl
      have h : m_X4_startsBefore_5 v0 v2 (it2 (m_X4_startsBefore_5 v0 v2) n5) v3 v5 = some rr := h
      unfold m_X4_startsBefore_5 at h
      refine lv_iload hx hb dX4_startsBefore_5 (lv_at hl 3 rfl) ?_
      refine lv_bipush (v := 6) hx hb dX4_startsBefore_7 (by decide) ?_
      refine lv_icmp_ge (tgt := 43) hx hb dX4_startsBefore_9 (by decide) (fun c_ => ?_) (fun c_ => ?_)
      · have h := (if_pos c_).symm.trans h
        refine lv_lload_n hx hb dX4_startsBefore_43 rfl (lv_at hl 2 rfl) ?_
        have h : some v3 = some rr := h
        have z0 := Option.some.inj h
        obtain rfl := z0
        exact hret _ _ _ _ hP hS dX4_startsBefore_44
      · have h := (if_neg c_).symm.trans h
        refine lv_iload_n hx hb dX4_startsBefore_12 rfl (lv_at hl 1 rfl) ?_
        refine lv_iload hx hb dX4_startsBefore_13 (lv_at hl 3 rfl) ?_
        obtain ⟨r_1, hq, h⟩ := bd1_some h
        refine uN_i (As := [.int v2, .int v5]) (rest := []) ⟨hx, hb, hml, hown, hts⟩ (c_X5_hasBit l dC dI cyC cyI cyJ v2 v5 r_1 hq) ⟨va_cnB 2 hts gX4_startsBefore_X5_hasBit_n24 rfl rfl rfl (hE.2.1 ("OptionLattice$Ways", 24, ⟨"OptionLattice", "hasBit", "(II)Z"⟩) (List.mem_of_getElem? (i := 10) rfl)) (hts (.initialized RX5) (by decide +kernel)) (by decide +kernel) ⟨Nat.le_of_ble_eq_true rfl, Nat.le_of_ble_eq_true rfl⟩, (hts (.static yX5_hasBit) (by decide +kernel)), trivial⟩ hK hE hA hP hD hS [] rfl rfl rfl rfl hl.1 rfl (Nat.le_of_ble_eq_true rfl) ⟨Nat.zero_le _, Nat.zero_le _⟩ dX4_startsBefore_15 (fun H locs hP hD hS => ?_)
        refine lv_if_eq (tgt := 37) hx hb dX4_startsBefore_18 (by decide) (fun c_ => ?_) (fun c_ => ?_)
        · have h := (if_pos c_).symm.trans h
          obtain ⟨v5_2, e_v5_2⟩ : ∃ z : Int32, z = (v5 + 1) := ⟨_, rfl⟩
          have h := lt_use e_v5_2 h
          refine lv_iinc (v := v5_2) (lv' := [(5, .int v5_2), (0, .long v0), (2, .int v2), (3, .long v3)]) hx hb dX4_startsBefore_37 hl (k := 3) rfl (by rw [e_v5_2]; rfl) (by decide) rfl (fun ls hl => ?_)
          refine lv_goto (tgt := 5) hx hb dX4_startsBefore_40 (by decide) ?_
          exact ih5 v3 v5_2 h _ _ _ hP hD hS (lv_sub hl [1, 2, 3, 0] rfl)
        · have h := (if_neg c_).symm.trans h
          refine lv_lload_n hx hb dX4_startsBefore_21 rfl (lv_at hl 2 rfl) ?_
          refine lv_lload_n hx hb dX4_startsBefore_22 rfl (lv_at hl 0 rfl) ?_
          refine lv_iconst (v := 1) hx hb dX4_startsBefore_23 (by decide) ?_
          refine lv_iload hx hb dX4_startsBefore_24 (lv_at hl 3 rfl) ?_
          refine lv_ishl hx hb dX4_startsBefore_26 ?_
          refine lv_lushr (v := (lushr v0 ((1 : Int32) <<< (v5 &&& 31)))) hx hb dX4_startsBefore_27 rfl ?_
          refine va_gets hx hb hz9 hS hown (hts (.fieldLink RX4 32 "OptionLattice$Ways" "SETS_WITHOUT" "[J") (by decide +kernel)) (fun _ h9 => h9) dX4_startsBefore_28 ?_
          refine lv_iload hx hb dX4_startsBefore_31 (lv_at hl 3 rfl) ?_
          obtain ⟨g_, h⟩ := gd_some h
          refine va_tl hx hb ht9 hS (inb_in g_) rfl dX4_startsBefore_33 ?_
          refine lv_land hx hb dX4_startsBefore_34 ?_
          refine lv_lor hx hb dX4_startsBefore_35 ?_
          refine lv_topl (fun v3_3 e_v3_3 => ?_)
          have h := lt_use e_v3_3 h
          refine lv_lstore_n (lv' := [(3, .long v3_3), (0, .long v0), (2, .int v2), (5, .int v5)]) hx hb dX4_startsBefore_36 rfl hl (by decide) rfl (fun ls hl => ?_)
          obtain ⟨v5_4, e_v5_4⟩ : ∃ z : Int32, z = (v5 + 1) := ⟨_, rfl⟩
          have h := lt_use e_v5_4 h
          refine lv_iinc (v := v5_4) (lv' := [(5, .int v5_4), (3, .long v3_3), (0, .long v0), (2, .int v2)]) hx hb dX4_startsBefore_37 hl (k := 3) rfl (by rw [e_v5_4]; rfl) (by decide) rfl (fun ls hl => ?_)
          refine lv_goto (tgt := 5) hx hb dX4_startsBefore_40 (by decide) ?_
          exact ih5 v3_3 v5_4 h _ _ _ hP hD hS (lv_sub hl [2, 3, 1, 0] rfl)
  unfold m_X4_startsBefore at h
  refine lv_lconst (v := 0) hx hb dX4_startsBefore_0 (by decide) ?_
  refine lv_lstore_n (lv' := [(3, .long 0), (0, .long v0), (2, .int v2)]) hx hb dX4_startsBefore_1 rfl hl (by decide) rfl (fun ls hl => ?_)
  refine lv_iconst (v := 0) hx hb dX4_startsBefore_2 (by decide) ?_
  refine lv_istore (lv' := [(5, .int 0), (3, .long 0), (0, .long v0), (2, .int v2)]) hx hb dX4_startsBefore_3 hl (by decide) rfl (fun ls hl => ?_)
  exact L5  1100 0 0 h _ _ _ hP hD hS (lv_sub hl [2, 3, 1, 0] rfl)

def m_X4_startsFor_7 (arr_ : Nat → Int32) (v1 : Int32) (rec7 : Int64 → Int32 → Option (Int64)) : Int64 → Int32 → Option (Int64) := fun v2 v4 =>
  (if 10 ≤ v4 then some v2 else (if (lg_cmp v2 0) = 0 then some v2 else bd1 (m_X5_hasBit v1 v4) (fun r_1 => (if r_1 = 0 then lt' (v4 + 1) (fun v4_2 => rec7 v2 v4_2) else gd (inb v4 10) (bd1 (m_X4_startsBefore v2 (arr_ v4.toNatClampNeg)) (fun r_3 => lt' (v4 + 1) (fun v4_4 => rec7 r_3 v4_4)))))))
def m_X4_startsFor (arr_ : Nat → Int32) (v1 : Int32) : Option (Int64) :=
  it2 (m_X4_startsFor_7 arr_ v1) 1100 (-1) 0
abbrev rmX4_startsFor : Room := { frames := 2, cells := 0, slots := 0, locals := 46 }
set_option maxHeartbeats 4000000 in
set_option maxRecDepth 100000 in
theorem c_X4_startsFor (l : Launch) (dC : Nat → ClassId) (dI : Nat → Nat → Nat) (cyC cyI cyJ : ClassId) (h0 : Nat) (arr_ : Nat → Int32) (v1 : Int32) (rr : Int64) (h : m_X4_startsFor arr_ v1 = some rr) : uMl l yX4_startsFor wsX4_startsFor rmX4_startsFor (dC, dI) [(cyC, .char), (cyI, .int), (cyJ, .long)] [.ref h0, .int v1] [(h0, .inl (cyI, 10, .inl arr_))] [(h0, .inl (cyI, 10, .inl arr_))] rr := by
  refine uMl.of (cc := cX4_startsFor) (maxL := 5) (by decide) rfl (Nat.le_of_ble_eq_true rfl) (fun p e s m args below meth c A ls Q hx hb hml hown hts hA hP hK hD hE hS hl hret => ?_)
  have hown : s.vm.findClass RX4 = some m.cls := hown
  have hl : lv_has ls 5 [(0, .ref h0), (1, .int v1)] := hl
  have L7 : ∀ (n7 : Nat), ∀ (v2 : Int64), ∀ (v4 : Int32), it2 (m_X4_startsFor_7 arr_ v1) n7 v2 v4 = some rr → ∀ (H : Heap) (locs : List Loc) (ls : Array Slot), va_P (dC, dI) vwCl [(h0, .inl (cyI, 10, .inl arr_))] H → va_D A [(h0, .inl (cyI, 10, .inl arr_))] → va_S A s.heap H locs → lv_has ls 5 [(0, .ref h0), (1, .int v1), (2, .long v2), (4, .int v4)] → W p l e rmX4_startsFor s m args below meth c H locs 0 0 Q (F0 m 7 ls []) := by
    intro n7
    induction n7 with
    | zero => intro v2 v4 h; exact absurd h (fun z => it2_z z)
    | succ n7 ih7 =>
      intro v2 v4 h H locs ls hP hD hS hl
      have h : m_X4_startsFor_7 arr_ v1 (it2 (m_X4_startsFor_7 arr_ v1) n7) v2 v4 = some rr := h
      unfold m_X4_startsFor_7 at h
      refine lv_iload hx hb dX4_startsFor_7 (lv_at hl 3 rfl) ?_
      refine lv_bipush (v := 10) hx hb dX4_startsFor_9 (by decide) ?_
      refine lv_icmp_ge (tgt := 44) hx hb dX4_startsFor_11 (by decide) (fun c_ => ?_) (fun c_ => ?_)
      · have h := (if_pos c_).symm.trans h
        refine lv_lload_n hx hb dX4_startsFor_44 rfl (lv_at hl 2 rfl) ?_
        have h : some v2 = some rr := h
        have z0 := Option.some.inj h
        obtain rfl := z0
        exact hret _ _ _ _ hP hS dX4_startsFor_45
      · have h := (if_neg c_).symm.trans h
        refine lv_lload_n hx hb dX4_startsFor_14 rfl (lv_at hl 2 rfl) ?_
        refine lv_lconst (v := 0) hx hb dX4_startsFor_15 (by decide) ?_
        refine W.lcmp hx hb dX4_startsFor_16 ?_
        refine lv_if_eq (tgt := 44) hx hb dX4_startsFor_17 (by decide) (fun c_ => ?_) (fun c_ => ?_)
        · have h := (if_pos c_).symm.trans h
          refine lv_lload_n hx hb dX4_startsFor_44 rfl (lv_at hl 2 rfl) ?_
          have h : some v2 = some rr := h
          have z0 := Option.some.inj h
          obtain rfl := z0
          exact hret _ _ _ _ hP hS dX4_startsFor_45
        · have h := (if_neg c_).symm.trans h
          refine lv_iload_n hx hb dX4_startsFor_20 rfl (lv_at hl 1 rfl) ?_
          refine lv_iload hx hb dX4_startsFor_21 (lv_at hl 3 rfl) ?_
          obtain ⟨r_1, hq, h⟩ := bd1_some h
          refine uN_i (As := [.int v1, .int v4]) (rest := []) ⟨hx, hb, hml, hown, hts⟩ (c_X5_hasBit l dC dI cyC cyI cyJ v1 v4 r_1 hq) ⟨va_cnB 2 hts gX4_startsFor_X5_hasBit_n24 rfl rfl rfl (hE.2.1 ("OptionLattice$Ways", 24, ⟨"OptionLattice", "hasBit", "(II)Z"⟩) (List.mem_of_getElem? (i := 10) rfl)) (hts (.initialized RX5) (by decide +kernel)) (by decide +kernel) ⟨Nat.le_of_ble_eq_true rfl, Nat.le_of_ble_eq_true rfl⟩, (hts (.static yX5_hasBit) (by decide +kernel)), trivial⟩ hK hE hA hP hD hS [] rfl rfl rfl rfl hl.1 rfl (Nat.le_of_ble_eq_true rfl) ⟨Nat.zero_le _, Nat.zero_le _⟩ dX4_startsFor_23 (fun H locs hP hD hS => ?_)
          have hP : va_P (dC, dI) vwCl [(h0, .inl (cyI, 10, .inl arr_))] H := hP
          have hD : va_D A [(h0, .inl (cyI, 10, .inl arr_))] := hD
          refine lv_if_eq (tgt := 38) hx hb dX4_startsFor_26 (by decide) (fun c_ => ?_) (fun c_ => ?_)
          · have h := (if_pos c_).symm.trans h
            obtain ⟨v4_2, e_v4_2⟩ : ∃ z : Int32, z = (v4 + 1) := ⟨_, rfl⟩
            have h := lt_use e_v4_2 h
            refine lv_iinc (v := v4_2) (lv' := [(4, .int v4_2), (0, .ref h0), (1, .int v1), (2, .long v2)]) hx hb dX4_startsFor_38 hl (k := 3) rfl (by rw [e_v4_2]; rfl) (by decide) rfl (fun ls hl => ?_)
            refine lv_goto (tgt := 7) hx hb dX4_startsFor_41 (by decide) ?_
            exact ih7 v2 v4_2 h _ _ _ hP hD hS (lv_sub hl [1, 2, 3, 0] rfl)
          · have h := (if_neg c_).symm.trans h
            refine lv_lload_n hx hb dX4_startsFor_29 rfl (lv_at hl 2 rfl) ?_
            refine lv_aload_n hx hb dX4_startsFor_30 rfl (lv_at hl 0 rfl) ?_
            refine lv_iload hx hb dX4_startsFor_31 (lv_at hl 3 rfl) ?_
            obtain ⟨g_, h⟩ := gd_some h
            refine va_iald hx hb hK hP 0 1 rfl rfl (inb_in g_) dX4_startsFor_33 ?_
            obtain ⟨r_3, hq, h⟩ := bd1_some h
            refine uS_l (As := [.long v2, .int (arr_ v4.toNatClampNeg)]) (rest := []) ⟨hx, hb, hml, hown, hts⟩ (c_X4_startsBefore l dC dI cyC cyI cyJ v2 (arr_ v4.toNatClampNeg) r_3 hq) (va_cwS 2 hts gX4_startsFor_X4_startsBefore rfl rfl rfl (by decide +kernel) ⟨Nat.le_of_ble_eq_true rfl, Nat.le_of_ble_eq_true rfl⟩) hK hE hA hP hD hS [] rfl rfl rfl rfl hl.1 rfl (Nat.le_of_ble_eq_true rfl) ⟨Nat.zero_le _, Nat.zero_le _⟩ dX4_startsFor_34 (fun H locs hP hD hS => ?_)
            have hP : va_P (dC, dI) vwCl [(h0, .inl (cyI, 10, .inl arr_))] H := hP
            have hD : va_D A [(h0, .inl (cyI, 10, .inl arr_))] := hD
            refine lv_lstore_n (lv' := [(2, .long r_3), (0, .ref h0), (1, .int v1), (4, .int v4)]) hx hb dX4_startsFor_37 rfl hl (by decide) rfl (fun ls hl => ?_)
            obtain ⟨v4_4, e_v4_4⟩ : ∃ z : Int32, z = (v4 + 1) := ⟨_, rfl⟩
            have h := lt_use e_v4_4 h
            refine lv_iinc (v := v4_4) (lv' := [(4, .int v4_4), (2, .long r_3), (0, .ref h0), (1, .int v1)]) hx hb dX4_startsFor_38 hl (k := 3) rfl (by rw [e_v4_4]; rfl) (by decide) rfl (fun ls hl => ?_)
            refine lv_goto (tgt := 7) hx hb dX4_startsFor_41 (by decide) ?_
            exact ih7 r_3 v4_4 h _ _ _ hP hD hS (lv_sub hl [2, 3, 1, 0] rfl)
  unfold m_X4_startsFor at h
  refine lv_ldc2 hx hb hown (hts (.constantLong RX4 22 (-1)) (by decide +kernel)) dX4_startsFor_0 ?_
  refine lv_lstore_n (lv' := [(2, .long (-1)), (0, .ref h0), (1, .int v1)]) hx hb dX4_startsFor_3 rfl hl (by decide) rfl (fun ls hl => ?_)
  refine lv_iconst (v := 0) hx hb dX4_startsFor_4 (by decide) ?_
  refine lv_istore (lv' := [(4, .int 0), (2, .long (-1)), (0, .ref h0), (1, .int v1)]) hx hb dX4_startsFor_5 hl (by decide) rfl (fun ls hl => ?_)
  exact L7  1100 (-1) 0 h _ _ _ hP hD hS (lv_sub hl [2, 3, 1, 0] rfl)

def m_X4_isStart (v0 : Int64) (v2 : Int32) : Option (Int32) :=
  (if (lg_cmp ((lushr v0 v2) &&& 1) 0) = 0 then some 0 else some 1)
abbrev rmX4_isStart : Room := { frames := 0, cells := 0, slots := 0, locals := 0 }
set_option maxHeartbeats 4000000 in
set_option maxRecDepth 100000 in
theorem c_X4_isStart (l : Launch) (dC : Nat → ClassId) (dI : Nat → Nat → Nat) (cyC cyI cyJ : ClassId) (v0 : Int64) (v2 : Int32) (rr : Int32) (h : m_X4_isStart v0 v2 = some rr) : uMi l yX4_isStart wsX4_isStart rmX4_isStart (dC, dI) [(cyC, .char), (cyI, .int), (cyJ, .long)] [.long v0, .int v2] [] [] rr := by
  refine uMi.of (cc := cX4_isStart) (maxL := 3) (by decide) rfl (Nat.le_of_ble_eq_true rfl) (fun p e s m args below meth c A ls Q hx hb hml hown hts hA hP hK hD hE hS hl hret => ?_)
  have hown : s.vm.findClass RX4 = some m.cls := hown
  have hl : lv_has ls 3 [(0, .long v0), (2, .int v2)] := hl
  unfold m_X4_isStart at h
  refine lv_lload_n hx hb dX4_isStart_0 rfl (lv_at hl 0 rfl) ?_
  refine lv_iload_n hx hb dX4_isStart_1 rfl (lv_at hl 1 rfl) ?_
  refine lv_lushr (v := (lushr v0 v2)) hx hb dX4_isStart_2 rfl ?_
  refine lv_lconst (v := 1) hx hb dX4_isStart_3 (by decide) ?_
  refine lv_land hx hb dX4_isStart_4 ?_
  refine lv_lconst (v := 0) hx hb dX4_isStart_5 (by decide) ?_
  refine W.lcmp hx hb dX4_isStart_6 ?_
  refine lv_if_eq (tgt := 14) hx hb dX4_isStart_7 (by decide) (fun c_ => ?_) (fun c_ => ?_)
  · have h := (if_pos c_).symm.trans h
    refine lv_iconst (v := 0) hx hb dX4_isStart_14 (by decide) ?_
    have h : some 0 = some rr := h
    have z0 := Option.some.inj h
    obtain rfl := z0
    exact hret _ _ _ _ hP hS rfl dX4_isStart_15
  · have h := (if_neg c_).symm.trans h
    refine lv_iconst (v := 1) hx hb dX4_isStart_10 (by decide) ?_
    refine lv_goto (tgt := 15) hx hb dX4_isStart_11 (by decide) ?_
    have h : some 1 = some rr := h
    have z0 := Option.some.inj h
    obtain rfl := z0
    exact hret _ _ _ _ hP hS rfl dX4_isStart_15

def m_X0_hasWay (columnsWith_ : Nat → Int32) (v1 : Int32) : Option (Int32) :=
  bd1 (m_X4_startsFor columnsWith_ v1) (fun r_1 => bd1 (m_X4_isStart r_1 0) (fun r_2 => gd (isb r_2) (some r_2)))
abbrev rmX0_hasWay : Room := { frames := 3, cells := 0, slots := 0, locals := 70 }
set_option maxHeartbeats 4000000 in
set_option maxRecDepth 100000 in
theorem c_X0_hasWay (l : Launch) (dC : Nat → ClassId) (dI : Nat → Nat → Nat) (cyC cyI cyJ : ClassId) (h0 h0_barsOf h0_subjectOf h0_teacherOf h0_seatsOf h0_columnOf h0_columnsWith : Nat) (columnCount_ : Int32) (roomCount_ : Int32) (size_ : Int32) (columnsWith_ : Nat → Int32) (v1 : Int32) (rr : Int32) (h : m_X0_hasWay columnsWith_ v1 = some rr) : uMi l yX0_hasWay wsX0_hasWay rmX0_hasWay (dC, dI) [(cyC, .char), (cyI, .int), (cyJ, .long)] [.ref h0, .int v1] [(h0, .inr (0, [.int columnCount_, .int roomCount_, .int size_, .ref h0_barsOf, .ref h0_subjectOf, .ref h0_teacherOf, .ref h0_seatsOf, .ref h0_columnOf, .ref h0_columnsWith])), (h0_columnsWith, .inl (cyI, 10, .inl columnsWith_))] [(h0, .inr (0, [.int columnCount_, .int roomCount_, .int size_, .ref h0_barsOf, .ref h0_subjectOf, .ref h0_teacherOf, .ref h0_seatsOf, .ref h0_columnOf, .ref h0_columnsWith])), (h0_columnsWith, .inl (cyI, 10, .inl columnsWith_))] rr := by
  refine uMi.of (cc := cX0_hasWay) (maxL := 2) (by decide) rfl (Nat.le_of_ble_eq_true rfl) (fun p e s m args below meth c A ls Q hx hb hml hown hts hA hP hK hD hE hS hl hret => ?_)
  have hown : s.vm.findClass RX0 = some m.cls := hown
  have hl : lv_has ls 2 [(0, .ref h0), (1, .int v1)] := hl
  have hiX0 : ∀ w ∈ u_ws RX0 TX0 9, w ∈ wsX0_hasWay := fun _ h9 => List.mem_cons_of_mem _ (List.mem_append_right _ h9)
  unfold m_X0_hasWay at h
  refine lv_aload_n hx hb dX0_hasWay_0 rfl (lv_at hl 0 rfl) ?_
  refine va_get (D := (dC, dI)) (ci := 0) (v := .ref h0_columnsWith) (C := RX0) (T := TX0) (N := 9) hx hb hts hiX0 hown hK hP 0 rfl rfl 8 (by decide) (hts (.fieldLink RX0 37 "OptionLattice$Plan" "columnsWith" "[I") (by decide +kernel)) (fun _ h9 => h9) rfl dX0_hasWay_1 ?_
  refine lv_iload_n hx hb dX0_hasWay_4 rfl (lv_at hl 1 rfl) ?_
  obtain ⟨r_1, hq, h⟩ := bd1_some h
  refine uS_l (As := [.ref h0_columnsWith, .int v1]) (rest := []) ⟨hx, hb, hml, hown, hts⟩ (c_X4_startsFor l dC dI cyC cyI cyJ h0_columnsWith columnsWith_ v1 r_1 hq) (va_cwS 2 hts gX0_hasWay_X4_startsFor rfl rfl rfl (by decide +kernel) ⟨Nat.le_of_ble_eq_true rfl, Nat.le_of_ble_eq_true rfl⟩) hK hE hA hP hD hS [1] rfl rfl rfl rfl hl.1 rfl (Nat.le_of_ble_eq_true rfl) ⟨Nat.zero_le _, Nat.zero_le _⟩ dX0_hasWay_5 (fun H locs hP hD hS => ?_)
  have hP : va_P (dC, dI) vwCl [(h0, .inr (0, [.int columnCount_, .int roomCount_, .int size_, .ref h0_barsOf, .ref h0_subjectOf, .ref h0_teacherOf, .ref h0_seatsOf, .ref h0_columnOf, .ref h0_columnsWith])), (h0_columnsWith, .inl (cyI, 10, .inl columnsWith_))] H := hP
  have hD : va_D A [(h0, .inr (0, [.int columnCount_, .int roomCount_, .int size_, .ref h0_barsOf, .ref h0_subjectOf, .ref h0_teacherOf, .ref h0_seatsOf, .ref h0_columnOf, .ref h0_columnsWith])), (h0_columnsWith, .inl (cyI, 10, .inl columnsWith_))] := hD
  refine lv_iconst (v := 0) hx hb dX0_hasWay_8 (by decide) ?_
  obtain ⟨r_2, hq, h⟩ := bd1_some h
  refine uS_i (As := [.long r_1, .int 0]) (rest := []) ⟨hx, hb, hml, hown, hts⟩ (c_X4_isStart l dC dI cyC cyI cyJ r_1 0 r_2 hq) (va_cwS 2 hts gX0_hasWay_X4_isStart rfl rfl rfl (by decide +kernel) ⟨Nat.le_of_ble_eq_true rfl, Nat.le_of_ble_eq_true rfl⟩) hK hE hA hP hD hS [] rfl rfl rfl rfl hl.1 rfl (Nat.le_of_ble_eq_true rfl) ⟨Nat.zero_le _, Nat.zero_le _⟩ dX0_hasWay_9 (fun H locs hP hD hS => ?_)
  have hP : va_P (dC, dI) vwCl [(h0, .inr (0, [.int columnCount_, .int roomCount_, .int size_, .ref h0_barsOf, .ref h0_subjectOf, .ref h0_teacherOf, .ref h0_seatsOf, .ref h0_columnOf, .ref h0_columnsWith])), (h0_columnsWith, .inl (cyI, 10, .inl columnsWith_))] H := hP
  have hD : va_D A [(h0, .inr (0, [.int columnCount_, .int roomCount_, .int size_, .ref h0_barsOf, .ref h0_subjectOf, .ref h0_teacherOf, .ref h0_seatsOf, .ref h0_columnOf, .ref h0_columnsWith])), (h0_columnsWith, .inl (cyI, 10, .inl columnsWith_))] := hD
  obtain ⟨g_, h⟩ := gd_some h
  have h : some r_2 = some rr := h
  have z0 := Option.some.inj h
  obtain rfl := z0
  exact hret _ _ _ _ hP hS (isb_of g_) dX0_hasWay_12

def m_X0_columnsOfAny_4 (columnsWith_ : Nat → Int32) (v1 : Int32) (rec4 : Int32 → Int32 → Option (Int32)) : Int32 → Int32 → Option (Int32) := fun v2 v3 =>
  (if 10 ≤ v3 then some v2 else bd1 (m_X5_hasBit v1 v3) (fun r_1 => (if r_1 = 0 then lt' (v2 ||| 0) (fun v2_2 => lt' (v3 + 1) (fun v3_3 => rec4 v2_2 v3_3)) else gd (inb v3 10) (lt' (v2 ||| (columnsWith_ v3.toNatClampNeg)) (fun v2_4 => lt' (v3 + 1) (fun v3_5 => rec4 v2_4 v3_5))))))
def m_X0_columnsOfAny (columnsWith_ : Nat → Int32) (v1 : Int32) : Option (Int32) :=
  it2 (m_X0_columnsOfAny_4 columnsWith_ v1) 1100 0 0
abbrev rmX0_columnsOfAny : Room := { frames := 1, cells := 0, slots := 0, locals := 21 }
set_option maxHeartbeats 4000000 in
set_option maxRecDepth 100000 in
theorem c_X0_columnsOfAny (l : Launch) (dC : Nat → ClassId) (dI : Nat → Nat → Nat) (cyC cyI cyJ : ClassId) (h0 h0_barsOf h0_subjectOf h0_teacherOf h0_seatsOf h0_columnOf h0_columnsWith : Nat) (columnCount_ : Int32) (roomCount_ : Int32) (size_ : Int32) (columnsWith_ : Nat → Int32) (v1 : Int32) (rr : Int32) (h : m_X0_columnsOfAny columnsWith_ v1 = some rr) : uMi l yX0_columnsOfAny wsX0_columnsOfAny rmX0_columnsOfAny (dC, dI) [(cyC, .char), (cyI, .int), (cyJ, .long)] [.ref h0, .int v1] [(h0, .inr (0, [.int columnCount_, .int roomCount_, .int size_, .ref h0_barsOf, .ref h0_subjectOf, .ref h0_teacherOf, .ref h0_seatsOf, .ref h0_columnOf, .ref h0_columnsWith])), (h0_columnsWith, .inl (cyI, 10, .inl columnsWith_))] [(h0, .inr (0, [.int columnCount_, .int roomCount_, .int size_, .ref h0_barsOf, .ref h0_subjectOf, .ref h0_teacherOf, .ref h0_seatsOf, .ref h0_columnOf, .ref h0_columnsWith])), (h0_columnsWith, .inl (cyI, 10, .inl columnsWith_))] rr := by
  refine uMi.of (cc := cX0_columnsOfAny) (maxL := 4) (by decide) rfl (Nat.le_of_ble_eq_true rfl) (fun p e s m args below meth c A ls Q hx hb hml hown hts hA hP hK hD hE hS hl hret => ?_)
  have hown : s.vm.findClass RX0 = some m.cls := hown
  have hl : lv_has ls 4 [(0, .ref h0), (1, .int v1)] := hl
  have hiX0 : ∀ w ∈ u_ws RX0 TX0 9, w ∈ wsX0_columnsOfAny := fun _ h9 => List.mem_cons_of_mem _ (List.mem_append_right _ h9)
  have L4 : ∀ (n4 : Nat), ∀ (v2 : Int32), ∀ (v3 : Int32), it2 (m_X0_columnsOfAny_4 columnsWith_ v1) n4 v2 v3 = some rr → ∀ (H : Heap) (locs : List Loc) (ls : Array Slot), va_P (dC, dI) vwCl [(h0, .inr (0, [.int columnCount_, .int roomCount_, .int size_, .ref h0_barsOf, .ref h0_subjectOf, .ref h0_teacherOf, .ref h0_seatsOf, .ref h0_columnOf, .ref h0_columnsWith])), (h0_columnsWith, .inl (cyI, 10, .inl columnsWith_))] H → va_D A [(h0, .inr (0, [.int columnCount_, .int roomCount_, .int size_, .ref h0_barsOf, .ref h0_subjectOf, .ref h0_teacherOf, .ref h0_seatsOf, .ref h0_columnOf, .ref h0_columnsWith])), (h0_columnsWith, .inl (cyI, 10, .inl columnsWith_))] → va_S A s.heap H locs → lv_has ls 4 [(0, .ref h0), (1, .int v1), (2, .int v2), (3, .int v3)] → W p l e rmX0_columnsOfAny s m args below meth c H locs 0 0 Q (F0 m 4 ls []) := by
    intro n4
    induction n4 with
    | zero => intro v2 v3 h; exact absurd h (fun z => it2_z z)
    | succ n4 ih4 =>
      intro v2 v3 h H locs ls hP hD hS hl
      have h : m_X0_columnsOfAny_4 columnsWith_ v1 (it2 (m_X0_columnsOfAny_4 columnsWith_ v1) n4) v2 v3 = some rr := h
      unfold m_X0_columnsOfAny_4 at h
      refine lv_iload_n hx hb dX0_columnsOfAny_4 rfl (lv_at hl 3 rfl) ?_
      refine lv_bipush (v := 10) hx hb dX0_columnsOfAny_5 (by decide) ?_
      refine lv_icmp_ge (tgt := 37) hx hb dX0_columnsOfAny_7 (by decide) (fun c_ => ?_) (fun c_ => ?_)
      · have h := (if_pos c_).symm.trans h
        refine lv_iload_n hx hb dX0_columnsOfAny_37 rfl (lv_at hl 2 rfl) ?_
        have h : some v2 = some rr := h
        have z0 := Option.some.inj h
        obtain rfl := z0
        exact hret _ _ _ _ hP hS rfl dX0_columnsOfAny_38
      · have h := (if_neg c_).symm.trans h
        refine lv_iload_n hx hb dX0_columnsOfAny_10 rfl (lv_at hl 2 rfl) ?_
        refine lv_iload_n hx hb dX0_columnsOfAny_11 rfl (lv_at hl 1 rfl) ?_
        refine lv_iload_n hx hb dX0_columnsOfAny_12 rfl (lv_at hl 3 rfl) ?_
        obtain ⟨r_1, hq, h⟩ := bd1_some h
        refine uN_i (As := [.int v1, .int v3]) (rest := [.int v2]) ⟨hx, hb, hml, hown, hts⟩ (c_X5_hasBit l dC dI cyC cyI cyJ v1 v3 r_1 hq) ⟨va_cnB 2 hts gX0_columnsOfAny_X5_hasBit_n58 rfl rfl rfl (hE.2.1 ("OptionLattice$Plan", 58, ⟨"OptionLattice", "hasBit", "(II)Z"⟩) (List.mem_of_getElem? (i := 8) rfl)) (hts (.initialized RX5) (by decide +kernel)) (by decide +kernel) ⟨Nat.le_of_ble_eq_true rfl, Nat.le_of_ble_eq_true rfl⟩, (hts (.static yX5_hasBit) (by decide +kernel)), trivial⟩ hK hE hA hP hD hS [] rfl rfl rfl rfl hl.1 rfl (Nat.le_of_ble_eq_true rfl) ⟨Nat.zero_le _, Nat.zero_le _⟩ dX0_columnsOfAny_13 (fun H locs hP hD hS => ?_)
        have hP : va_P (dC, dI) vwCl [(h0, .inr (0, [.int columnCount_, .int roomCount_, .int size_, .ref h0_barsOf, .ref h0_subjectOf, .ref h0_teacherOf, .ref h0_seatsOf, .ref h0_columnOf, .ref h0_columnsWith])), (h0_columnsWith, .inl (cyI, 10, .inl columnsWith_))] H := hP
        have hD : va_D A [(h0, .inr (0, [.int columnCount_, .int roomCount_, .int size_, .ref h0_barsOf, .ref h0_subjectOf, .ref h0_teacherOf, .ref h0_seatsOf, .ref h0_columnOf, .ref h0_columnsWith])), (h0_columnsWith, .inl (cyI, 10, .inl columnsWith_))] := hD
        refine lv_if_eq (tgt := 28) hx hb dX0_columnsOfAny_16 (by decide) (fun c_ => ?_) (fun c_ => ?_)
        · have h := (if_pos c_).symm.trans h
          refine lv_iconst (v := 0) hx hb dX0_columnsOfAny_28 (by decide) ?_
          refine lv_ior hx hb dX0_columnsOfAny_29 ?_
          refine lv_topi (fun v2_2 e_v2_2 => ?_)
          have h := lt_use e_v2_2 h
          refine lv_istore_n (lv' := [(2, .int v2_2), (0, .ref h0), (1, .int v1), (3, .int v3)]) hx hb dX0_columnsOfAny_30 rfl hl (by decide) rfl (fun ls hl => ?_)
          obtain ⟨v3_3, e_v3_3⟩ : ∃ z : Int32, z = (v3 + 1) := ⟨_, rfl⟩
          have h := lt_use e_v3_3 h
          refine lv_iinc (v := v3_3) (lv' := [(3, .int v3_3), (2, .int v2_2), (0, .ref h0), (1, .int v1)]) hx hb dX0_columnsOfAny_31 hl (k := 3) rfl (by rw [e_v3_3]; rfl) (by decide) rfl (fun ls hl => ?_)
          refine lv_goto (tgt := 4) hx hb dX0_columnsOfAny_34 (by decide) ?_
          exact ih4 v2_2 v3_3 h _ _ _ hP hD hS (lv_sub hl [2, 3, 1, 0] rfl)
        · have h := (if_neg c_).symm.trans h
          refine lv_aload_n hx hb dX0_columnsOfAny_19 rfl (lv_at hl 0 rfl) ?_
          refine va_get (D := (dC, dI)) (ci := 0) (v := .ref h0_columnsWith) (C := RX0) (T := TX0) (N := 9) hx hb hts hiX0 hown hK hP 0 rfl rfl 8 (by decide) (hts (.fieldLink RX0 37 "OptionLattice$Plan" "columnsWith" "[I") (by decide +kernel)) (fun _ h9 => h9) rfl dX0_columnsOfAny_20 ?_
          refine lv_iload_n hx hb dX0_columnsOfAny_23 rfl (lv_at hl 3 rfl) ?_
          obtain ⟨g_, h⟩ := gd_some h
          refine va_iald hx hb hK hP 1 1 rfl rfl (inb_in g_) dX0_columnsOfAny_24 ?_
          refine lv_goto (tgt := 29) hx hb dX0_columnsOfAny_25 (by decide) ?_
          refine lv_ior hx hb dX0_columnsOfAny_29 ?_
          refine lv_topi (fun v2_4 e_v2_4 => ?_)
          have h := lt_use e_v2_4 h
          refine lv_istore_n (lv' := [(2, .int v2_4), (0, .ref h0), (1, .int v1), (3, .int v3)]) hx hb dX0_columnsOfAny_30 rfl hl (by decide) rfl (fun ls hl => ?_)
          obtain ⟨v3_5, e_v3_5⟩ : ∃ z : Int32, z = (v3 + 1) := ⟨_, rfl⟩
          have h := lt_use e_v3_5 h
          refine lv_iinc (v := v3_5) (lv' := [(3, .int v3_5), (2, .int v2_4), (0, .ref h0), (1, .int v1)]) hx hb dX0_columnsOfAny_31 hl (k := 3) rfl (by rw [e_v3_5]; rfl) (by decide) rfl (fun ls hl => ?_)
          refine lv_goto (tgt := 4) hx hb dX0_columnsOfAny_34 (by decide) ?_
          exact ih4 v2_4 v3_5 h _ _ _ hP hD hS (lv_sub hl [2, 3, 1, 0] rfl)
  unfold m_X0_columnsOfAny at h
  refine lv_iconst (v := 0) hx hb dX0_columnsOfAny_0 (by decide) ?_
  refine lv_istore_n (lv' := [(2, .int 0), (0, .ref h0), (1, .int v1)]) hx hb dX0_columnsOfAny_1 rfl hl (by decide) rfl (fun ls hl => ?_)
  refine lv_iconst (v := 0) hx hb dX0_columnsOfAny_2 (by decide) ?_
  refine lv_istore_n (lv' := [(3, .int 0), (2, .int 0), (0, .ref h0), (1, .int v1)]) hx hb dX0_columnsOfAny_3 rfl hl (by decide) rfl (fun ls hl => ?_)
  exact L4  1100 0 0 h _ _ _ hP hD hS (lv_sub hl [2, 3, 1, 0] rfl)

def m_X0_isCrowded (columnsWith_ : Nat → Int32) (v1 : Int32) : Option (Int32) :=
  bd1 (m_X0_columnsOfAny columnsWith_ v1) (fun r_1 => bd1 (m_J6_bitCount_0f7a4 r_1) (fun r_2 => bd1 (m_J6_bitCount_0f7a4 v1) (fun r_3 => (if r_3 ≤ r_2 then some 0 else some 1))))
abbrev rmX0_isCrowded : Room := { frames := 2, cells := 0, slots := 0, locals := 44 }
set_option maxHeartbeats 4000000 in
set_option maxRecDepth 100000 in
theorem c_X0_isCrowded (l : Launch) (dC : Nat → ClassId) (dI : Nat → Nat → Nat) (cyC cyI cyJ : ClassId) (h0 h0_barsOf h0_subjectOf h0_teacherOf h0_seatsOf h0_columnOf h0_columnsWith : Nat) (columnCount_ : Int32) (roomCount_ : Int32) (size_ : Int32) (columnsWith_ : Nat → Int32) (v1 : Int32) (rr : Int32) (h : m_X0_isCrowded columnsWith_ v1 = some rr) : uMi l yX0_isCrowded wsX0_isCrowded rmX0_isCrowded (dC, dI) [(cyC, .char), (cyI, .int), (cyJ, .long)] [.ref h0, .int v1] [(h0, .inr (0, [.int columnCount_, .int roomCount_, .int size_, .ref h0_barsOf, .ref h0_subjectOf, .ref h0_teacherOf, .ref h0_seatsOf, .ref h0_columnOf, .ref h0_columnsWith])), (h0_columnsWith, .inl (cyI, 10, .inl columnsWith_))] [(h0, .inr (0, [.int columnCount_, .int roomCount_, .int size_, .ref h0_barsOf, .ref h0_subjectOf, .ref h0_teacherOf, .ref h0_seatsOf, .ref h0_columnOf, .ref h0_columnsWith])), (h0_columnsWith, .inl (cyI, 10, .inl columnsWith_))] rr := by
  refine uMi.of (cc := cX0_isCrowded) (maxL := 2) (by decide) rfl (Nat.le_of_ble_eq_true rfl) (fun p e s m args below meth c A ls Q hx hb hml hown hts hA hP hK hD hE hS hl hret => ?_)
  have hown : s.vm.findClass RX0 = some m.cls := hown
  have hl : lv_has ls 2 [(0, .ref h0), (1, .int v1)] := hl
  unfold m_X0_isCrowded at h
  refine lv_aload_n hx hb dX0_isCrowded_0 rfl (lv_at hl 0 rfl) ?_
  refine lv_iload_n hx hb dX0_isCrowded_1 rfl (lv_at hl 1 rfl) ?_
  obtain ⟨r_1, hq, h⟩ := bd1_some h
  refine uV_i (b := h0) (As := [.int v1]) (rest := []) ⟨hx, hb, hml, hown, hts⟩ (c_X0_columnsOfAny l dC dI cyC cyI cyJ h0 h0_barsOf h0_subjectOf h0_teacherOf h0_seatsOf h0_columnOf h0_columnsWith columnCount_ roomCount_ size_ columnsWith_ v1 r_1 hq) (cwV 1 hts gX0_isCrowded_X0_columnsOfAny rfl rfl rfl (by decide +kernel) ⟨Nat.le_of_ble_eq_true rfl, Nat.le_of_ble_eq_true rfl⟩) hK hE hA hP hD hS [0, 1] rfl rfl rfl 0 0 rfl rfl rfl hl.1 rfl (Nat.le_of_ble_eq_true rfl) ⟨Nat.zero_le _, Nat.zero_le _⟩ dX0_isCrowded_2 (fun H locs hP hD hS => ?_)
  have hP : va_P (dC, dI) vwCl [(h0, .inr (0, [.int columnCount_, .int roomCount_, .int size_, .ref h0_barsOf, .ref h0_subjectOf, .ref h0_teacherOf, .ref h0_seatsOf, .ref h0_columnOf, .ref h0_columnsWith])), (h0_columnsWith, .inl (cyI, 10, .inl columnsWith_))] H := hP
  have hD : va_D A [(h0, .inr (0, [.int columnCount_, .int roomCount_, .int size_, .ref h0_barsOf, .ref h0_subjectOf, .ref h0_teacherOf, .ref h0_seatsOf, .ref h0_columnOf, .ref h0_columnsWith])), (h0_columnsWith, .inl (cyI, 10, .inl columnsWith_))] := hD
  obtain ⟨r_2, hq, h⟩ := bd1_some h
  refine uS_i (As := [.int r_1]) (rest := []) ⟨hx, hb, hml, hown, hts⟩ (c_J6_bitCount_0f7a4 l dC dI cyC cyI cyJ r_1 r_2 hq) (va_cwS 1 hts gX0_isCrowded_J6_bitCount_0f7a4 rfl rfl rfl (by decide +kernel) ⟨Nat.le_of_ble_eq_true rfl, Nat.le_of_ble_eq_true rfl⟩) hK hE hA hP hD hS [] rfl rfl rfl rfl hl.1 rfl (Nat.le_of_ble_eq_true rfl) ⟨Nat.zero_le _, Nat.zero_le _⟩ dX0_isCrowded_5 (fun H locs hP hD hS => ?_)
  have hP : va_P (dC, dI) vwCl [(h0, .inr (0, [.int columnCount_, .int roomCount_, .int size_, .ref h0_barsOf, .ref h0_subjectOf, .ref h0_teacherOf, .ref h0_seatsOf, .ref h0_columnOf, .ref h0_columnsWith])), (h0_columnsWith, .inl (cyI, 10, .inl columnsWith_))] H := hP
  have hD : va_D A [(h0, .inr (0, [.int columnCount_, .int roomCount_, .int size_, .ref h0_barsOf, .ref h0_subjectOf, .ref h0_teacherOf, .ref h0_seatsOf, .ref h0_columnOf, .ref h0_columnsWith])), (h0_columnsWith, .inl (cyI, 10, .inl columnsWith_))] := hD
  refine lv_iload_n hx hb dX0_isCrowded_8 rfl (lv_at hl 1 rfl) ?_
  obtain ⟨r_3, hq, h⟩ := bd1_some h
  refine uS_i (As := [.int v1]) (rest := [.int r_2]) ⟨hx, hb, hml, hown, hts⟩ (c_J6_bitCount_0f7a4 l dC dI cyC cyI cyJ v1 r_3 hq) (va_cwS 1 hts gX0_isCrowded_J6_bitCount_0f7a4 rfl rfl rfl (by decide +kernel) ⟨Nat.le_of_ble_eq_true rfl, Nat.le_of_ble_eq_true rfl⟩) hK hE hA hP hD hS [] rfl rfl rfl rfl hl.1 rfl (Nat.le_of_ble_eq_true rfl) ⟨Nat.zero_le _, Nat.zero_le _⟩ dX0_isCrowded_9 (fun H locs hP hD hS => ?_)
  have hP : va_P (dC, dI) vwCl [(h0, .inr (0, [.int columnCount_, .int roomCount_, .int size_, .ref h0_barsOf, .ref h0_subjectOf, .ref h0_teacherOf, .ref h0_seatsOf, .ref h0_columnOf, .ref h0_columnsWith])), (h0_columnsWith, .inl (cyI, 10, .inl columnsWith_))] H := hP
  have hD : va_D A [(h0, .inr (0, [.int columnCount_, .int roomCount_, .int size_, .ref h0_barsOf, .ref h0_subjectOf, .ref h0_teacherOf, .ref h0_seatsOf, .ref h0_columnOf, .ref h0_columnsWith])), (h0_columnsWith, .inl (cyI, 10, .inl columnsWith_))] := hD
  refine lv_icmp_ge (tgt := 19) hx hb dX0_isCrowded_12 (by decide) (fun c_ => ?_) (fun c_ => ?_)
  · have h := (if_pos c_).symm.trans h
    refine lv_iconst (v := 0) hx hb dX0_isCrowded_19 (by decide) ?_
    have h : some 0 = some rr := h
    have z0 := Option.some.inj h
    obtain rfl := z0
    exact hret _ _ _ _ hP hS rfl dX0_isCrowded_20
  · have h := (if_neg c_).symm.trans h
    refine lv_iconst (v := 1) hx hb dX0_isCrowded_15 (by decide) ?_
    refine lv_goto (tgt := 20) hx hb dX0_isCrowded_16 (by decide) ?_
    have h : some 1 = some rr := h
    have z0 := Option.some.inj h
    obtain rfl := z0
    exact hret _ _ _ _ hP hS rfl dX0_isCrowded_20

def m_X0_shareTheirOnlyColumn (columnsWith_ : Nat → Int32) (v1 : Int32) (v2 : Int32) : Option (Int32) :=
  gd (inb v1 10) (gd (inb v2 10) ((if (columnsWith_ v1.toNatClampNeg) = (columnsWith_ v2.toNatClampNeg) then gd (inb v1 10) (bd1 (m_J6_bitCount_0f7a4 (columnsWith_ v1.toNatClampNeg)) (fun r_1 => (if r_1 = 1 then some 1 else some 0))) else some 0)))
abbrev rmX0_shareTheirOnlyColumn : Room := { frames := 1, cells := 0, slots := 0, locals := 20 }
set_option maxHeartbeats 4000000 in
set_option maxRecDepth 100000 in
theorem c_X0_shareTheirOnlyColumn (l : Launch) (dC : Nat → ClassId) (dI : Nat → Nat → Nat) (cyC cyI cyJ : ClassId) (h0 h0_barsOf h0_subjectOf h0_teacherOf h0_seatsOf h0_columnOf h0_columnsWith : Nat) (columnCount_ : Int32) (roomCount_ : Int32) (size_ : Int32) (columnsWith_ : Nat → Int32) (v1 : Int32) (v2 : Int32) (rr : Int32) (h : m_X0_shareTheirOnlyColumn columnsWith_ v1 v2 = some rr) : uMi l yX0_shareTheirOnlyColumn wsX0_shareTheirOnlyColumn rmX0_shareTheirOnlyColumn (dC, dI) [(cyC, .char), (cyI, .int), (cyJ, .long)] [.ref h0, .int v1, .int v2] [(h0, .inr (0, [.int columnCount_, .int roomCount_, .int size_, .ref h0_barsOf, .ref h0_subjectOf, .ref h0_teacherOf, .ref h0_seatsOf, .ref h0_columnOf, .ref h0_columnsWith])), (h0_columnsWith, .inl (cyI, 10, .inl columnsWith_))] [(h0, .inr (0, [.int columnCount_, .int roomCount_, .int size_, .ref h0_barsOf, .ref h0_subjectOf, .ref h0_teacherOf, .ref h0_seatsOf, .ref h0_columnOf, .ref h0_columnsWith])), (h0_columnsWith, .inl (cyI, 10, .inl columnsWith_))] rr := by
  refine uMi.of (cc := cX0_shareTheirOnlyColumn) (maxL := 3) (by decide) rfl (Nat.le_of_ble_eq_true rfl) (fun p e s m args below meth c A ls Q hx hb hml hown hts hA hP hK hD hE hS hl hret => ?_)
  have hown : s.vm.findClass RX0 = some m.cls := hown
  have hl : lv_has ls 3 [(0, .ref h0), (1, .int v1), (2, .int v2)] := hl
  have hiX0 : ∀ w ∈ u_ws RX0 TX0 9, w ∈ wsX0_shareTheirOnlyColumn := fun _ h9 => List.mem_cons_of_mem _ (List.mem_append_right _ h9)
  unfold m_X0_shareTheirOnlyColumn at h
  refine lv_aload_n hx hb dX0_shareTheirOnlyColumn_0 rfl (lv_at hl 0 rfl) ?_
  refine va_get (D := (dC, dI)) (ci := 0) (v := .ref h0_columnsWith) (C := RX0) (T := TX0) (N := 9) hx hb hts hiX0 hown hK hP 0 rfl rfl 8 (by decide) (hts (.fieldLink RX0 37 "OptionLattice$Plan" "columnsWith" "[I") (by decide +kernel)) (fun _ h9 => h9) rfl dX0_shareTheirOnlyColumn_1 ?_
  refine lv_iload_n hx hb dX0_shareTheirOnlyColumn_4 rfl (lv_at hl 1 rfl) ?_
  obtain ⟨g_, h⟩ := gd_some h
  refine va_iald hx hb hK hP 1 1 rfl rfl (inb_in g_) dX0_shareTheirOnlyColumn_5 ?_
  refine lv_aload_n hx hb dX0_shareTheirOnlyColumn_6 rfl (lv_at hl 0 rfl) ?_
  refine va_get (D := (dC, dI)) (ci := 0) (v := .ref h0_columnsWith) (C := RX0) (T := TX0) (N := 9) hx hb hts hiX0 hown hK hP 0 rfl rfl 8 (by decide) (hts (.fieldLink RX0 37 "OptionLattice$Plan" "columnsWith" "[I") (by decide +kernel)) (fun _ h9 => h9) rfl dX0_shareTheirOnlyColumn_7 ?_
  refine lv_iload_n hx hb dX0_shareTheirOnlyColumn_10 rfl (lv_at hl 2 rfl) ?_
  obtain ⟨g_, h⟩ := gd_some h
  refine va_iald hx hb hK hP 1 1 rfl rfl (inb_in g_) dX0_shareTheirOnlyColumn_11 ?_
  refine lv_icmp_ne (tgt := 32) hx hb dX0_shareTheirOnlyColumn_12 (by decide) (fun c_ => ?_) (fun c_ => ?_)
  · have h := (if_neg c_).symm.trans h
    refine lv_iconst (v := 0) hx hb dX0_shareTheirOnlyColumn_32 (by decide) ?_
    have h : some 0 = some rr := h
    have z0 := Option.some.inj h
    obtain rfl := z0
    exact hret _ _ _ _ hP hS rfl dX0_shareTheirOnlyColumn_33
  · have h := (if_pos c_).symm.trans h
    refine lv_aload_n hx hb dX0_shareTheirOnlyColumn_15 rfl (lv_at hl 0 rfl) ?_
    refine va_get (D := (dC, dI)) (ci := 0) (v := .ref h0_columnsWith) (C := RX0) (T := TX0) (N := 9) hx hb hts hiX0 hown hK hP 0 rfl rfl 8 (by decide) (hts (.fieldLink RX0 37 "OptionLattice$Plan" "columnsWith" "[I") (by decide +kernel)) (fun _ h9 => h9) rfl dX0_shareTheirOnlyColumn_16 ?_
    refine lv_iload_n hx hb dX0_shareTheirOnlyColumn_19 rfl (lv_at hl 1 rfl) ?_
    obtain ⟨g_, h⟩ := gd_some h
    refine va_iald hx hb hK hP 1 1 rfl rfl (inb_in g_) dX0_shareTheirOnlyColumn_20 ?_
    obtain ⟨r_1, hq, h⟩ := bd1_some h
    refine uS_i (As := [.int (columnsWith_ v1.toNatClampNeg)]) (rest := []) ⟨hx, hb, hml, hown, hts⟩ (c_J6_bitCount_0f7a4 l dC dI cyC cyI cyJ (columnsWith_ v1.toNatClampNeg) r_1 hq) (va_cwS 1 hts gX0_shareTheirOnlyColumn_J6_bitCount_0f7a4 rfl rfl rfl (by decide +kernel) ⟨Nat.le_of_ble_eq_true rfl, Nat.le_of_ble_eq_true rfl⟩) hK hE hA hP hD hS [] rfl rfl rfl rfl hl.1 rfl (Nat.le_of_ble_eq_true rfl) ⟨Nat.zero_le _, Nat.zero_le _⟩ dX0_shareTheirOnlyColumn_21 (fun H locs hP hD hS => ?_)
    have hP : va_P (dC, dI) vwCl [(h0, .inr (0, [.int columnCount_, .int roomCount_, .int size_, .ref h0_barsOf, .ref h0_subjectOf, .ref h0_teacherOf, .ref h0_seatsOf, .ref h0_columnOf, .ref h0_columnsWith])), (h0_columnsWith, .inl (cyI, 10, .inl columnsWith_))] H := hP
    have hD : va_D A [(h0, .inr (0, [.int columnCount_, .int roomCount_, .int size_, .ref h0_barsOf, .ref h0_subjectOf, .ref h0_teacherOf, .ref h0_seatsOf, .ref h0_columnOf, .ref h0_columnsWith])), (h0_columnsWith, .inl (cyI, 10, .inl columnsWith_))] := hD
    refine lv_iconst (v := 1) hx hb dX0_shareTheirOnlyColumn_24 (by decide) ?_
    refine lv_icmp_ne (tgt := 32) hx hb dX0_shareTheirOnlyColumn_25 (by decide) (fun c_ => ?_) (fun c_ => ?_)
    · have h := (if_neg c_).symm.trans h
      refine lv_iconst (v := 0) hx hb dX0_shareTheirOnlyColumn_32 (by decide) ?_
      have h : some 0 = some rr := h
      have z0 := Option.some.inj h
      obtain rfl := z0
      exact hret _ _ _ _ hP hS rfl dX0_shareTheirOnlyColumn_33
    · have h := (if_pos c_).symm.trans h
      refine lv_iconst (v := 1) hx hb dX0_shareTheirOnlyColumn_28 (by decide) ?_
      refine lv_goto (tgt := 33) hx hb dX0_shareTheirOnlyColumn_29 (by decide) ?_
      have h : some 1 = some rr := h
      have z0 := Option.some.inj h
      obtain rfl := z0
      exact hret _ _ _ _ hP hS rfl dX0_shareTheirOnlyColumn_33

def m_X0_helpfulColumns_92 (size_ : Int32) (subjectOf_ : Nat → Int32) (columnOf_ : Nat → Int32) (v1 : Int32) (v3 : Int32) (v6 : Int32) : Option (Int32) :=
  bd1 (m_X0_columnsWithout size_ subjectOf_ columnOf_ v3 v1) (fun r_1 => (if (r_1 &&& v6) = 0 then some v6 else some 63))
def m_X0_helpfulColumns_52 (columnCount_ : Int32) (size_ : Int32) (subjectOf_ : Nat → Int32) (columnOf_ : Nat → Int32) (v1 : Int32) (v3 : Int32) (v4 : Int64) (rec52 : Int32 → Int32 → Option (Int32)) : Int32 → Int32 → Option (Int32) := fun v6 v7 =>
  (if columnCount_ ≤ v7 then m_X0_helpfulColumns_92 size_ subjectOf_ columnOf_ v1 v3 v6 else bd1 (m_X4_isStart v4 ((1 : Int32) <<< (v7 &&& 31))) (fun r_2 => (if r_2 = 0 then lt' (v6 ||| 0) (fun v6_3 => lt' (v7 + 1) (fun v7_4 => rec52 v6_3 v7_4)) else lt' (v6 ||| ((1 : Int32) <<< (v7 &&& 31))) (fun v6_5 => lt' (v7 + 1) (fun v7_6 => rec52 v6_5 v7_6)))))
def m_X0_helpfulColumns (columnCount_ : Int32) (size_ : Int32) (subjectOf_ : Nat → Int32) (columnOf_ : Nat → Int32) (columnsWith_ : Nat → Int32) (v1 : Int32) (v2 : Int32) : Option (Int32) :=
  gd (inb v1 16) (lt' (subjectOf_ v1.toNatClampNeg) (fun v3_7 => bd1 (m_X5_hasBit v2 v3_7) (fun r_8 => (if r_8 = 0 then bd1 (m_X0_hasWay columnsWith_ v2) (fun r_10 => (if r_10 = 0 then some 0 else some 63)) else bd1 (m_X4_startsFor columnsWith_ (v2 &&& (((1 : Int32) <<< (v3_7 &&& 31)) ^^^ (-1)))) (fun r_9 => it2 (m_X0_helpfulColumns_52 columnCount_ size_ subjectOf_ columnOf_ v1 v3_7 r_9) 1100 0 0)))))
abbrev rmX0_helpfulColumns : Room := { frames := 4, cells := 0, slots := 0, locals := 91 }
set_option maxHeartbeats 4000000 in
set_option maxRecDepth 100000 in
theorem c_X0_helpfulColumns (l : Launch) (dC : Nat → ClassId) (dI : Nat → Nat → Nat) (cyC cyI cyJ : ClassId) (h0 h0_barsOf h0_subjectOf h0_teacherOf h0_seatsOf h0_columnOf h0_columnsWith : Nat) (columnCount_ : Int32) (roomCount_ : Int32) (size_ : Int32) (subjectOf_ : Nat → Int32) (columnOf_ : Nat → Int32) (columnsWith_ : Nat → Int32) (v1 : Int32) (v2 : Int32) (rr : Int32) (h : m_X0_helpfulColumns columnCount_ size_ subjectOf_ columnOf_ columnsWith_ v1 v2 = some rr) : uMi l yX0_helpfulColumns wsX0_helpfulColumns rmX0_helpfulColumns (dC, dI) [(cyC, .char), (cyI, .int), (cyJ, .long)] [.ref h0, .int v1, .int v2] [(h0, .inr (0, [.int columnCount_, .int roomCount_, .int size_, .ref h0_barsOf, .ref h0_subjectOf, .ref h0_teacherOf, .ref h0_seatsOf, .ref h0_columnOf, .ref h0_columnsWith])), (h0_subjectOf, .inl (cyI, 16, .inl subjectOf_)), (h0_columnOf, .inl (cyI, 16, .inl columnOf_)), (h0_columnsWith, .inl (cyI, 10, .inl columnsWith_))] [(h0, .inr (0, [.int columnCount_, .int roomCount_, .int size_, .ref h0_barsOf, .ref h0_subjectOf, .ref h0_teacherOf, .ref h0_seatsOf, .ref h0_columnOf, .ref h0_columnsWith])), (h0_subjectOf, .inl (cyI, 16, .inl subjectOf_)), (h0_columnOf, .inl (cyI, 16, .inl columnOf_)), (h0_columnsWith, .inl (cyI, 10, .inl columnsWith_))] rr := by
  refine uMi.of (cc := cX0_helpfulColumns) (maxL := 8) (by decide) rfl (Nat.le_of_ble_eq_true rfl) (fun p e s m args below meth c A ls Q hx hb hml hown hts hA hP hK hD hE hS hl hret => ?_)
  have hown : s.vm.findClass RX0 = some m.cls := hown
  have hl : lv_has ls 8 [(0, .ref h0), (1, .int v1), (2, .int v2)] := hl
  have hiX0 : ∀ w ∈ u_ws RX0 TX0 9, w ∈ wsX0_helpfulColumns := fun _ h9 => List.mem_cons_of_mem _ (List.mem_append_right _ h9)
  have J92 : ∀ (v3 : Int32), ∀ (v6 : Int32), m_X0_helpfulColumns_92 size_ subjectOf_ columnOf_ v1 v3 v6 = some rr → ∀ (H : Heap) (locs : List Loc) (ls : Array Slot), va_P (dC, dI) vwCl [(h0, .inr (0, [.int columnCount_, .int roomCount_, .int size_, .ref h0_barsOf, .ref h0_subjectOf, .ref h0_teacherOf, .ref h0_seatsOf, .ref h0_columnOf, .ref h0_columnsWith])), (h0_subjectOf, .inl (cyI, 16, .inl subjectOf_)), (h0_columnOf, .inl (cyI, 16, .inl columnOf_)), (h0_columnsWith, .inl (cyI, 10, .inl columnsWith_))] H → va_D A [(h0, .inr (0, [.int columnCount_, .int roomCount_, .int size_, .ref h0_barsOf, .ref h0_subjectOf, .ref h0_teacherOf, .ref h0_seatsOf, .ref h0_columnOf, .ref h0_columnsWith])), (h0_subjectOf, .inl (cyI, 16, .inl subjectOf_)), (h0_columnOf, .inl (cyI, 16, .inl columnOf_)), (h0_columnsWith, .inl (cyI, 10, .inl columnsWith_))] → va_S A s.heap H locs → lv_has ls 8 [(0, .ref h0), (1, .int v1), (3, .int v3), (6, .int v6)] → W p l e rmX0_helpfulColumns s m args below meth c H locs 0 0 Q (F0 m 92 ls []) := by
    intro v3 v6 h H locs ls hP hD hS hl
    unfold m_X0_helpfulColumns_92 at h
    refine lv_aload_n hx hb dX0_helpfulColumns_92 rfl (lv_at hl 0 rfl) ?_
    refine lv_iload_n hx hb dX0_helpfulColumns_93 rfl (lv_at hl 2 rfl) ?_
    refine lv_iload_n hx hb dX0_helpfulColumns_94 rfl (lv_at hl 1 rfl) ?_
    obtain ⟨r_1, hq, h⟩ := bd1_some h
    refine uV_i (b := h0) (As := [.int v3, .int v1]) (rest := []) ⟨hx, hb, hml, hown, hts⟩ (c_X0_columnsWithout l dC dI cyC cyI cyJ h0 h0_barsOf h0_subjectOf h0_teacherOf h0_seatsOf h0_columnOf h0_columnsWith columnCount_ roomCount_ size_ subjectOf_ columnOf_ v3 v1 r_1 hq) (cwV 2 hts gX0_helpfulColumns_X0_columnsWithout rfl rfl rfl (by decide +kernel) ⟨Nat.le_of_ble_eq_true rfl, Nat.le_of_ble_eq_true rfl⟩) hK hE hA hP hD hS [0, 1, 2] rfl rfl rfl 0 0 rfl rfl rfl hl.1 rfl (Nat.le_of_ble_eq_true rfl) ⟨Nat.zero_le _, Nat.zero_le _⟩ dX0_helpfulColumns_95 (fun H locs hP hD hS => ?_)
    have hP : va_P (dC, dI) vwCl [(h0, .inr (0, [.int columnCount_, .int roomCount_, .int size_, .ref h0_barsOf, .ref h0_subjectOf, .ref h0_teacherOf, .ref h0_seatsOf, .ref h0_columnOf, .ref h0_columnsWith])), (h0_subjectOf, .inl (cyI, 16, .inl subjectOf_)), (h0_columnOf, .inl (cyI, 16, .inl columnOf_)), (h0_columnsWith, .inl (cyI, 10, .inl columnsWith_))] H := hP
    have hD : va_D A [(h0, .inr (0, [.int columnCount_, .int roomCount_, .int size_, .ref h0_barsOf, .ref h0_subjectOf, .ref h0_teacherOf, .ref h0_seatsOf, .ref h0_columnOf, .ref h0_columnsWith])), (h0_subjectOf, .inl (cyI, 16, .inl subjectOf_)), (h0_columnOf, .inl (cyI, 16, .inl columnOf_)), (h0_columnsWith, .inl (cyI, 10, .inl columnsWith_))] := hD
    refine lv_iload hx hb dX0_helpfulColumns_98 (lv_at hl 3 rfl) ?_
    refine lv_iand hx hb dX0_helpfulColumns_100 ?_
    refine lv_if_eq (tgt := 109) hx hb dX0_helpfulColumns_101 (by decide) (fun c_ => ?_) (fun c_ => ?_)
    · have h := (if_pos c_).symm.trans h
      refine lv_iload hx hb dX0_helpfulColumns_109 (lv_at hl 3 rfl) ?_
      have h : some v6 = some rr := h
      have z0 := Option.some.inj h
      obtain rfl := z0
      exact hret _ _ _ _ hP hS rfl dX0_helpfulColumns_111
    · have h := (if_neg c_).symm.trans h
      refine lv_bipush (v := 63) hx hb dX0_helpfulColumns_104 (by decide) ?_
      refine lv_goto (tgt := 111) hx hb dX0_helpfulColumns_106 (by decide) ?_
      have h : some 63 = some rr := h
      have z0 := Option.some.inj h
      obtain rfl := z0
      exact hret _ _ _ _ hP hS rfl dX0_helpfulColumns_111
  have L52 : ∀ (v3 : Int32), ∀ (v4 : Int64), ∀ (n52 : Nat), ∀ (v6 : Int32), ∀ (v7 : Int32), it2 (m_X0_helpfulColumns_52 columnCount_ size_ subjectOf_ columnOf_ v1 v3 v4) n52 v6 v7 = some rr → ∀ (H : Heap) (locs : List Loc) (ls : Array Slot), va_P (dC, dI) vwCl [(h0, .inr (0, [.int columnCount_, .int roomCount_, .int size_, .ref h0_barsOf, .ref h0_subjectOf, .ref h0_teacherOf, .ref h0_seatsOf, .ref h0_columnOf, .ref h0_columnsWith])), (h0_subjectOf, .inl (cyI, 16, .inl subjectOf_)), (h0_columnOf, .inl (cyI, 16, .inl columnOf_)), (h0_columnsWith, .inl (cyI, 10, .inl columnsWith_))] H → va_D A [(h0, .inr (0, [.int columnCount_, .int roomCount_, .int size_, .ref h0_barsOf, .ref h0_subjectOf, .ref h0_teacherOf, .ref h0_seatsOf, .ref h0_columnOf, .ref h0_columnsWith])), (h0_subjectOf, .inl (cyI, 16, .inl subjectOf_)), (h0_columnOf, .inl (cyI, 16, .inl columnOf_)), (h0_columnsWith, .inl (cyI, 10, .inl columnsWith_))] → va_S A s.heap H locs → lv_has ls 8 [(0, .ref h0), (1, .int v1), (3, .int v3), (4, .long v4), (6, .int v6), (7, .int v7)] → W p l e rmX0_helpfulColumns s m args below meth c H locs 0 0 Q (F0 m 52 ls []) := by
    intro v3 v4 n52
    induction n52 with
    | zero => intro v6 v7 h; exact absurd h (fun z => it2_z z)
    | succ n52 ih52 =>
      intro v6 v7 h H locs ls hP hD hS hl
      have h : m_X0_helpfulColumns_52 columnCount_ size_ subjectOf_ columnOf_ v1 v3 v4 (it2 (m_X0_helpfulColumns_52 columnCount_ size_ subjectOf_ columnOf_ v1 v3 v4) n52) v6 v7 = some rr := h
      unfold m_X0_helpfulColumns_52 at h
      refine lv_iload hx hb dX0_helpfulColumns_52 (lv_at hl 5 rfl) ?_
      refine lv_aload_n hx hb dX0_helpfulColumns_54 rfl (lv_at hl 0 rfl) ?_
      refine va_get (D := (dC, dI)) (ci := 0) (v := .int columnCount_) (C := RX0) (T := TX0) (N := 9) hx hb hts hiX0 hown hK hP 0 rfl rfl 0 (by decide) (hts (.fieldLink RX0 9 "OptionLattice$Plan" "columnCount" "I") (by decide +kernel)) (fun _ h9 => h9) rfl dX0_helpfulColumns_55 ?_
      refine lv_icmp_ge (tgt := 92) hx hb dX0_helpfulColumns_58 (by decide) (fun c_ => ?_) (fun c_ => ?_)
      · have h := (if_pos c_).symm.trans h
        exact J92 v3 v6 h _ _ _ hP hD hS (lv_sub hl [0, 1, 2, 4] rfl)
      · have h := (if_neg c_).symm.trans h
        refine lv_iload hx hb dX0_helpfulColumns_61 (lv_at hl 4 rfl) ?_
        refine lv_lload hx hb dX0_helpfulColumns_63 (lv_at hl 3 rfl) ?_
        refine lv_iconst (v := 1) hx hb dX0_helpfulColumns_65 (by decide) ?_
        refine lv_iload hx hb dX0_helpfulColumns_66 (lv_at hl 5 rfl) ?_
        refine lv_ishl hx hb dX0_helpfulColumns_68 ?_
        obtain ⟨r_2, hq, h⟩ := bd1_some h
        refine uS_i (As := [.long v4, .int ((1 : Int32) <<< (v7 &&& 31))]) (rest := [.int v6]) ⟨hx, hb, hml, hown, hts⟩ (c_X4_isStart l dC dI cyC cyI cyJ v4 ((1 : Int32) <<< (v7 &&& 31)) r_2 hq) (va_cwS 2 hts gX0_helpfulColumns_X4_isStart rfl rfl rfl (by decide +kernel) ⟨Nat.le_of_ble_eq_true rfl, Nat.le_of_ble_eq_true rfl⟩) hK hE hA hP hD hS [] rfl rfl rfl rfl hl.1 rfl (Nat.le_of_ble_eq_true rfl) ⟨Nat.zero_le _, Nat.zero_le _⟩ dX0_helpfulColumns_69 (fun H locs hP hD hS => ?_)
        have hP : va_P (dC, dI) vwCl [(h0, .inr (0, [.int columnCount_, .int roomCount_, .int size_, .ref h0_barsOf, .ref h0_subjectOf, .ref h0_teacherOf, .ref h0_seatsOf, .ref h0_columnOf, .ref h0_columnsWith])), (h0_subjectOf, .inl (cyI, 16, .inl subjectOf_)), (h0_columnOf, .inl (cyI, 16, .inl columnOf_)), (h0_columnsWith, .inl (cyI, 10, .inl columnsWith_))] H := hP
        have hD : va_D A [(h0, .inr (0, [.int columnCount_, .int roomCount_, .int size_, .ref h0_barsOf, .ref h0_subjectOf, .ref h0_teacherOf, .ref h0_seatsOf, .ref h0_columnOf, .ref h0_columnsWith])), (h0_subjectOf, .inl (cyI, 16, .inl subjectOf_)), (h0_columnOf, .inl (cyI, 16, .inl columnOf_)), (h0_columnsWith, .inl (cyI, 10, .inl columnsWith_))] := hD
        refine lv_if_eq (tgt := 82) hx hb dX0_helpfulColumns_72 (by decide) (fun c_ => ?_) (fun c_ => ?_)
        · have h := (if_pos c_).symm.trans h
          refine lv_iconst (v := 0) hx hb dX0_helpfulColumns_82 (by decide) ?_
          refine lv_ior hx hb dX0_helpfulColumns_83 ?_
          refine lv_topi (fun v6_3 e_v6_3 => ?_)
          have h := lt_use e_v6_3 h
          refine lv_istore (lv' := [(6, .int v6_3), (0, .ref h0), (1, .int v1), (3, .int v3), (4, .long v4), (7, .int v7)]) hx hb dX0_helpfulColumns_84 hl (by decide) rfl (fun ls hl => ?_)
          obtain ⟨v7_4, e_v7_4⟩ : ∃ z : Int32, z = (v7 + 1) := ⟨_, rfl⟩
          have h := lt_use e_v7_4 h
          refine lv_iinc (v := v7_4) (lv' := [(7, .int v7_4), (6, .int v6_3), (0, .ref h0), (1, .int v1), (3, .int v3), (4, .long v4)]) hx hb dX0_helpfulColumns_86 hl (k := 5) rfl (by rw [e_v7_4]; rfl) (by decide) rfl (fun ls hl => ?_)
          refine lv_goto (tgt := 52) hx hb dX0_helpfulColumns_89 (by decide) ?_
          exact ih52 v6_3 v7_4 h _ _ _ hP hD hS (lv_sub hl [2, 3, 4, 5, 1, 0] rfl)
        · have h := (if_neg c_).symm.trans h
          refine lv_iconst (v := 1) hx hb dX0_helpfulColumns_75 (by decide) ?_
          refine lv_iload hx hb dX0_helpfulColumns_76 (lv_at hl 5 rfl) ?_
          refine lv_ishl hx hb dX0_helpfulColumns_78 ?_
          refine lv_goto (tgt := 83) hx hb dX0_helpfulColumns_79 (by decide) ?_
          refine lv_ior hx hb dX0_helpfulColumns_83 ?_
          refine lv_topi (fun v6_5 e_v6_5 => ?_)
          have h := lt_use e_v6_5 h
          refine lv_istore (lv' := [(6, .int v6_5), (0, .ref h0), (1, .int v1), (3, .int v3), (4, .long v4), (7, .int v7)]) hx hb dX0_helpfulColumns_84 hl (by decide) rfl (fun ls hl => ?_)
          obtain ⟨v7_6, e_v7_6⟩ : ∃ z : Int32, z = (v7 + 1) := ⟨_, rfl⟩
          have h := lt_use e_v7_6 h
          refine lv_iinc (v := v7_6) (lv' := [(7, .int v7_6), (6, .int v6_5), (0, .ref h0), (1, .int v1), (3, .int v3), (4, .long v4)]) hx hb dX0_helpfulColumns_86 hl (k := 5) rfl (by rw [e_v7_6]; rfl) (by decide) rfl (fun ls hl => ?_)
          refine lv_goto (tgt := 52) hx hb dX0_helpfulColumns_89 (by decide) ?_
          exact ih52 v6_5 v7_6 h _ _ _ hP hD hS (lv_sub hl [2, 3, 4, 5, 1, 0] rfl)
  unfold m_X0_helpfulColumns at h
  refine lv_aload_n hx hb dX0_helpfulColumns_0 rfl (lv_at hl 0 rfl) ?_
  refine va_get (D := (dC, dI)) (ci := 0) (v := .ref h0_subjectOf) (C := RX0) (T := TX0) (N := 9) hx hb hts hiX0 hown hK hP 0 rfl rfl 4 (by decide) (hts (.fieldLink RX0 25 "OptionLattice$Plan" "subjectOf" "[I") (by decide +kernel)) (fun _ h9 => h9) rfl dX0_helpfulColumns_1 ?_
  refine lv_iload_n hx hb dX0_helpfulColumns_4 rfl (lv_at hl 1 rfl) ?_
  obtain ⟨g_, h⟩ := gd_some h
  refine va_iald hx hb hK hP 1 1 rfl rfl (inb_in g_) dX0_helpfulColumns_5 ?_
  refine lv_topi (fun v3_7 e_v3_7 => ?_)
  have h := lt_use e_v3_7 h
  refine lv_istore_n (lv' := [(3, .int v3_7), (0, .ref h0), (1, .int v1), (2, .int v2)]) hx hb dX0_helpfulColumns_6 rfl hl (by decide) rfl (fun ls hl => ?_)
  refine lv_iload_n hx hb dX0_helpfulColumns_7 rfl (lv_at hl 3 rfl) ?_
  refine lv_iload_n hx hb dX0_helpfulColumns_8 rfl (lv_at hl 0 rfl) ?_
  obtain ⟨r_8, hq, h⟩ := bd1_some h
  refine uN_i (As := [.int v2, .int v3_7]) (rest := []) ⟨hx, hb, hml, hown, hts⟩ (c_X5_hasBit l dC dI cyC cyI cyJ v2 v3_7 r_8 hq) ⟨va_cnB 2 hts gX0_helpfulColumns_X5_hasBit_n58 rfl rfl rfl (hE.2.1 ("OptionLattice$Plan", 58, ⟨"OptionLattice", "hasBit", "(II)Z"⟩) (List.mem_of_getElem? (i := 8) rfl)) (hts (.initialized RX5) (by decide +kernel)) (by decide +kernel) ⟨Nat.le_of_ble_eq_true rfl, Nat.le_of_ble_eq_true rfl⟩, (hts (.static yX5_hasBit) (by decide +kernel)), trivial⟩ hK hE hA hP hD hS [] rfl rfl rfl rfl hl.1 rfl (Nat.le_of_ble_eq_true rfl) ⟨Nat.zero_le _, Nat.zero_le _⟩ dX0_helpfulColumns_9 (fun H locs hP hD hS => ?_)
  have hP : va_P (dC, dI) vwCl [(h0, .inr (0, [.int columnCount_, .int roomCount_, .int size_, .ref h0_barsOf, .ref h0_subjectOf, .ref h0_teacherOf, .ref h0_seatsOf, .ref h0_columnOf, .ref h0_columnsWith])), (h0_subjectOf, .inl (cyI, 16, .inl subjectOf_)), (h0_columnOf, .inl (cyI, 16, .inl columnOf_)), (h0_columnsWith, .inl (cyI, 10, .inl columnsWith_))] H := hP
  have hD : va_D A [(h0, .inr (0, [.int columnCount_, .int roomCount_, .int size_, .ref h0_barsOf, .ref h0_subjectOf, .ref h0_teacherOf, .ref h0_seatsOf, .ref h0_columnOf, .ref h0_columnsWith])), (h0_subjectOf, .inl (cyI, 16, .inl subjectOf_)), (h0_columnOf, .inl (cyI, 16, .inl columnOf_)), (h0_columnsWith, .inl (cyI, 10, .inl columnsWith_))] := hD
  refine lv_if_ne (tgt := 30) hx hb dX0_helpfulColumns_12 (by decide) (fun c_ => ?_) (fun c_ => ?_)
  · have h := (if_neg c_).symm.trans h
    refine lv_aload_n hx hb dX0_helpfulColumns_30 rfl (lv_at hl 1 rfl) ?_
    refine va_get (D := (dC, dI)) (ci := 0) (v := .ref h0_columnsWith) (C := RX0) (T := TX0) (N := 9) hx hb hts hiX0 hown hK hP 0 rfl rfl 8 (by decide) (hts (.fieldLink RX0 37 "OptionLattice$Plan" "columnsWith" "[I") (by decide +kernel)) (fun _ h9 => h9) rfl dX0_helpfulColumns_31 ?_
    refine lv_iload_n hx hb dX0_helpfulColumns_34 rfl (lv_at hl 3 rfl) ?_
    refine lv_iconst (v := 1) hx hb dX0_helpfulColumns_35 (by decide) ?_
    refine lv_iload_n hx hb dX0_helpfulColumns_36 rfl (lv_at hl 0 rfl) ?_
    refine lv_ishl hx hb dX0_helpfulColumns_37 ?_
    refine lv_iconst (v := (-1)) hx hb dX0_helpfulColumns_38 (by decide) ?_
    refine lv_ixor hx hb dX0_helpfulColumns_39 ?_
    refine lv_iand hx hb dX0_helpfulColumns_40 ?_
    obtain ⟨r_9, hq, h⟩ := bd1_some h
    refine uS_l (As := [.ref h0_columnsWith, .int (v2 &&& (((1 : Int32) <<< (v3_7 &&& 31)) ^^^ (-1)))]) (rest := []) ⟨hx, hb, hml, hown, hts⟩ (c_X4_startsFor l dC dI cyC cyI cyJ h0_columnsWith columnsWith_ (v2 &&& (((1 : Int32) <<< (v3_7 &&& 31)) ^^^ (-1))) r_9 hq) (va_cwS 2 hts gX0_helpfulColumns_X4_startsFor rfl rfl rfl (by decide +kernel) ⟨Nat.le_of_ble_eq_true rfl, Nat.le_of_ble_eq_true rfl⟩) hK hE hA hP hD hS [3] rfl rfl rfl rfl hl.1 rfl (Nat.le_of_ble_eq_true rfl) ⟨Nat.zero_le _, Nat.zero_le _⟩ dX0_helpfulColumns_41 (fun H locs hP hD hS => ?_)
    have hP : va_P (dC, dI) vwCl [(h0, .inr (0, [.int columnCount_, .int roomCount_, .int size_, .ref h0_barsOf, .ref h0_subjectOf, .ref h0_teacherOf, .ref h0_seatsOf, .ref h0_columnOf, .ref h0_columnsWith])), (h0_subjectOf, .inl (cyI, 16, .inl subjectOf_)), (h0_columnOf, .inl (cyI, 16, .inl columnOf_)), (h0_columnsWith, .inl (cyI, 10, .inl columnsWith_))] H := hP
    have hD : va_D A [(h0, .inr (0, [.int columnCount_, .int roomCount_, .int size_, .ref h0_barsOf, .ref h0_subjectOf, .ref h0_teacherOf, .ref h0_seatsOf, .ref h0_columnOf, .ref h0_columnsWith])), (h0_subjectOf, .inl (cyI, 16, .inl subjectOf_)), (h0_columnOf, .inl (cyI, 16, .inl columnOf_)), (h0_columnsWith, .inl (cyI, 10, .inl columnsWith_))] := hD
    refine lv_lstore (lv' := [(4, .long r_9), (3, .int v3_7), (0, .ref h0), (1, .int v1), (2, .int v2)]) hx hb dX0_helpfulColumns_44 hl (by decide) rfl (fun ls hl => ?_)
    refine lv_iconst (v := 0) hx hb dX0_helpfulColumns_46 (by decide) ?_
    refine lv_istore (lv' := [(6, .int 0), (4, .long r_9), (3, .int v3_7), (0, .ref h0), (1, .int v1), (2, .int v2)]) hx hb dX0_helpfulColumns_47 hl (by decide) rfl (fun ls hl => ?_)
    refine lv_iconst (v := 0) hx hb dX0_helpfulColumns_49 (by decide) ?_
    refine lv_istore (lv' := [(7, .int 0), (6, .int 0), (4, .long r_9), (3, .int v3_7), (0, .ref h0), (1, .int v1), (2, .int v2)]) hx hb dX0_helpfulColumns_50 hl (by decide) rfl (fun ls hl => ?_)
    exact L52 v3_7 r_9 1100 0 0 h _ _ _ hP hD hS (lv_sub hl [4, 5, 3, 2, 1, 0] rfl)
  · have h := (if_pos c_).symm.trans h
    refine lv_aload_n hx hb dX0_helpfulColumns_15 rfl (lv_at hl 1 rfl) ?_
    refine lv_iload_n hx hb dX0_helpfulColumns_16 rfl (lv_at hl 3 rfl) ?_
    obtain ⟨r_10, hq, h⟩ := bd1_some h
    refine uV_i (b := h0) (As := [.int v2]) (rest := []) ⟨hx, hb, hml, hown, hts⟩ (c_X0_hasWay l dC dI cyC cyI cyJ h0 h0_barsOf h0_subjectOf h0_teacherOf h0_seatsOf h0_columnOf h0_columnsWith columnCount_ roomCount_ size_ columnsWith_ v2 r_10 hq) (cwV 1 hts gX0_helpfulColumns_X0_hasWay rfl rfl rfl (by decide +kernel) ⟨Nat.le_of_ble_eq_true rfl, Nat.le_of_ble_eq_true rfl⟩) hK hE hA hP hD hS [0, 3] rfl rfl rfl 0 0 rfl rfl rfl hl.1 rfl (Nat.le_of_ble_eq_true rfl) ⟨Nat.zero_le _, Nat.zero_le _⟩ dX0_helpfulColumns_17 (fun H locs hP hD hS => ?_)
    have hP : va_P (dC, dI) vwCl [(h0, .inr (0, [.int columnCount_, .int roomCount_, .int size_, .ref h0_barsOf, .ref h0_subjectOf, .ref h0_teacherOf, .ref h0_seatsOf, .ref h0_columnOf, .ref h0_columnsWith])), (h0_subjectOf, .inl (cyI, 16, .inl subjectOf_)), (h0_columnOf, .inl (cyI, 16, .inl columnOf_)), (h0_columnsWith, .inl (cyI, 10, .inl columnsWith_))] H := hP
    have hD : va_D A [(h0, .inr (0, [.int columnCount_, .int roomCount_, .int size_, .ref h0_barsOf, .ref h0_subjectOf, .ref h0_teacherOf, .ref h0_seatsOf, .ref h0_columnOf, .ref h0_columnsWith])), (h0_subjectOf, .inl (cyI, 16, .inl subjectOf_)), (h0_columnOf, .inl (cyI, 16, .inl columnOf_)), (h0_columnsWith, .inl (cyI, 10, .inl columnsWith_))] := hD
    refine lv_if_eq (tgt := 28) hx hb dX0_helpfulColumns_20 (by decide) (fun c_ => ?_) (fun c_ => ?_)
    · have h := (if_pos c_).symm.trans h
      refine lv_iconst (v := 0) hx hb dX0_helpfulColumns_28 (by decide) ?_
      have h : some 0 = some rr := h
      have z0 := Option.some.inj h
      obtain rfl := z0
      exact hret _ _ _ _ hP hS rfl dX0_helpfulColumns_29
    · have h := (if_neg c_).symm.trans h
      refine lv_bipush (v := 63) hx hb dX0_helpfulColumns_23 (by decide) ?_
      refine lv_goto (tgt := 29) hx hb dX0_helpfulColumns_25 (by decide) ?_
      have h : some 63 = some rr := h
      have z0 := Option.some.inj h
      obtain rfl := z0
      exact hret _ _ _ _ hP hS rfl dX0_helpfulColumns_29

def m_X5_digitsAbove (v0 : Int32) : Option (Int32) :=
  some ((1023 : Int32) &&& (-((2 : Int32) <<< (v0 &&& 31))))
abbrev rmX5_digitsAbove : Room := { frames := 0, cells := 0, slots := 0, locals := 0 }
set_option maxHeartbeats 4000000 in
set_option maxRecDepth 100000 in
theorem c_X5_digitsAbove (l : Launch) (dC : Nat → ClassId) (dI : Nat → Nat → Nat) (cyC cyI cyJ : ClassId) (v0 : Int32) (rr : Int32) (h : m_X5_digitsAbove v0 = some rr) : uMi l yX5_digitsAbove wsX5_digitsAbove rmX5_digitsAbove (dC, dI) [(cyC, .char), (cyI, .int), (cyJ, .long)] [.int v0] [] [] rr := by
  refine uMi.of (cc := cX5_digitsAbove) (maxL := 1) (by decide) rfl (Nat.le_of_ble_eq_true rfl) (fun p e s m args below meth c A ls Q hx hb hml hown hts hA hP hK hD hE hS hl hret => ?_)
  have hown : s.vm.findClass RX5 = some m.cls := hown
  have hl : lv_has ls 1 [(0, .int v0)] := hl
  unfold m_X5_digitsAbove at h
  refine lv_sipush (v := 1023) hx hb dX5_digitsAbove_0 (by decide) ?_
  refine lv_iconst (v := 2) hx hb dX5_digitsAbove_3 (by decide) ?_
  refine lv_iload_n hx hb dX5_digitsAbove_4 rfl (lv_at hl 0 rfl) ?_
  refine lv_ishl hx hb dX5_digitsAbove_5 ?_
  refine lv_ineg hx hb dX5_digitsAbove_6 ?_
  refine lv_iand hx hb dX5_digitsAbove_7 ?_
  have h : some ((1023 : Int32) &&& (-((2 : Int32) <<< (v0 &&& 31)))) = some rr := h
  have z0 := Option.some.inj h
  obtain rfl := z0
  exact hret _ _ _ _ hP hS rfl dX5_digitsAbove_8

def m_X3_takeDigit_27 (at_ : Int32) (v1 : Int32) (t0 : Int32) : Option (Int32 × Int32) :=
  (if t0 < 0 then some ((-1), at_) else (if 9 < t0 then some ((-1), at_) else bd1 (m_X5_hasBit v1 t0) (fun r_1 => (if r_1 = 0 then some ((-1), at_) else lt' (at_ + 1) (fun w_2 => some (t0, w_2))))))
def m_X3_takeDigit (size_ : Int32) (at_ : Int32) (signs_ : Nat → Int32) (v1 : Int32) : Option (Int32 × Int32) :=
  (if size_ ≤ at_ then m_X3_takeDigit_27 at_ v1 (-1) else gd (inb at_ 240) (m_X3_takeDigit_27 at_ v1 ((signs_ at_.toNatClampNeg) - 48)))
abbrev rmX3_takeDigit : Room := { frames := 1, cells := 0, slots := 0, locals := 21 }
set_option maxHeartbeats 4000000 in
set_option maxRecDepth 100000 in
theorem c_X3_takeDigit (l : Launch) (dC : Nat → ClassId) (dI : Nat → Nat → Nat) (cyC cyI cyJ : ClassId) (h0 h0_signs : Nat) (size_ : Int32) (at_ : Int32) (signs_ : Nat → Int32) (v1 : Int32) (rr : Int32) (o0 : Int32) (h : m_X3_takeDigit size_ at_ signs_ v1 = some (rr, o0)) : uMi l yX3_takeDigit wsX3_takeDigit rmX3_takeDigit (dC, dI) [(cyC, .char), (cyI, .int), (cyJ, .long)] [.ref h0, .int v1] [(h0, .inr (3, [.ref h0_signs, .int size_, .int at_])), (h0_signs, .inl (cyC, 240, .inl signs_))] [(h0, .inr (3, [.ref h0_signs, .int size_, .int o0])), (h0_signs, .inl (cyC, 240, .inl signs_))] rr := by
  refine uMi.of (cc := cX3_takeDigit) (maxL := 3) (by decide) rfl (Nat.le_of_ble_eq_true rfl) (fun p e s m args below meth c A ls Q hx hb hml hown hts hA hP hK hD hE hS hl hret => ?_)
  have hown : s.vm.findClass RX3 = some m.cls := hown
  have hl : lv_has ls 3 [(0, .ref h0), (1, .int v1)] := hl
  have hiX3 : ∀ w ∈ u_ws RX3 TX3 3, w ∈ wsX3_takeDigit := fun _ h9 => List.mem_cons_of_mem _ (List.mem_append_right _ h9)
  have J27 : ∀ (t0 : Int32), m_X3_takeDigit_27 at_ v1 t0 = some (rr, o0) → ∀ (H : Heap) (locs : List Loc) (ls : Array Slot), va_P (dC, dI) vwCl [(h0, .inr (3, [.ref h0_signs, .int size_, .int at_])), (h0_signs, .inl (cyC, 240, .inl signs_))] H → va_D A [(h0, .inr (3, [.ref h0_signs, .int size_, .int at_])), (h0_signs, .inl (cyC, 240, .inl signs_))] → va_S A s.heap H locs → lv_has ls 3 [(0, .ref h0), (1, .int v1)] → W p l e rmX3_takeDigit s m args below meth c H locs 0 0 Q (F0 m 27 ls [.int t0]) := by
    intro t0 h H locs ls hP hD hS hl
    unfold m_X3_takeDigit_27 at h
    refine lv_istore_n (lv' := [(2, .int t0), (0, .ref h0), (1, .int v1)]) hx hb dX3_takeDigit_27 rfl hl (by decide) rfl (fun ls hl => ?_)
    refine lv_iload_n hx hb dX3_takeDigit_28 rfl (lv_at hl 0 rfl) ?_
    refine lv_if_lt (tgt := 46) hx hb dX3_takeDigit_29 (by decide) (fun c_ => ?_) (fun c_ => ?_)
    · have h := (if_pos c_).symm.trans h
      refine lv_iconst (v := (-1)) hx hb dX3_takeDigit_46 (by decide) ?_
      have h : some ((-1), at_) = some (rr, o0) := h
      have z0 := Option.some.inj h
      obtain ⟨rfl, z1⟩ := Prod.mk.inj z0
      obtain rfl := z1
      exact hret _ _ _ _ hP hS rfl dX3_takeDigit_47
    · have h := (if_neg c_).symm.trans h
      refine lv_iload_n hx hb dX3_takeDigit_32 rfl (lv_at hl 0 rfl) ?_
      refine lv_bipush (v := 9) hx hb dX3_takeDigit_33 (by decide) ?_
      refine lv_icmp_gt (tgt := 46) hx hb dX3_takeDigit_35 (by decide) (fun c_ => ?_) (fun c_ => ?_)
      · have h := (if_pos c_).symm.trans h
        refine lv_iconst (v := (-1)) hx hb dX3_takeDigit_46 (by decide) ?_
        have h : some ((-1), at_) = some (rr, o0) := h
        have z0 := Option.some.inj h
        obtain ⟨rfl, z1⟩ := Prod.mk.inj z0
        obtain rfl := z1
        exact hret _ _ _ _ hP hS rfl dX3_takeDigit_47
      · have h := (if_neg c_).symm.trans h
        refine lv_iload_n hx hb dX3_takeDigit_38 rfl (lv_at hl 2 rfl) ?_
        refine lv_iload_n hx hb dX3_takeDigit_39 rfl (lv_at hl 0 rfl) ?_
        obtain ⟨r_1, hq, h⟩ := bd1_some h
        refine uN_i (As := [.int v1, .int t0]) (rest := []) ⟨hx, hb, hml, hown, hts⟩ (c_X5_hasBit l dC dI cyC cyI cyJ v1 t0 r_1 hq) ⟨va_cnB 2 hts gX3_takeDigit_X5_hasBit_n22 rfl rfl rfl (hE.2.1 ("OptionLattice$Signs", 22, ⟨"OptionLattice", "hasBit", "(II)Z"⟩) (List.mem_of_getElem? (i := 7) rfl)) (hts (.initialized RX5) (by decide +kernel)) (by decide +kernel) ⟨Nat.le_of_ble_eq_true rfl, Nat.le_of_ble_eq_true rfl⟩, (hts (.static yX5_hasBit) (by decide +kernel)), trivial⟩ hK hE hA hP hD hS [] rfl rfl rfl rfl hl.1 rfl (Nat.le_of_ble_eq_true rfl) ⟨Nat.zero_le _, Nat.zero_le _⟩ dX3_takeDigit_40 (fun H locs hP hD hS => ?_)
        have hP : va_P (dC, dI) vwCl [(h0, .inr (3, [.ref h0_signs, .int size_, .int at_])), (h0_signs, .inl (cyC, 240, .inl signs_))] H := hP
        have hD : va_D A [(h0, .inr (3, [.ref h0_signs, .int size_, .int at_])), (h0_signs, .inl (cyC, 240, .inl signs_))] := hD
        refine lv_if_ne (tgt := 48) hx hb dX3_takeDigit_43 (by decide) (fun c_ => ?_) (fun c_ => ?_)
        · have h := (if_neg c_).symm.trans h
          refine lv_aload_n hx hb dX3_takeDigit_48 rfl (lv_at hl 1 rfl) ?_
          refine lv_dup hx hb dX3_takeDigit_49 rfl ?_
          refine va_get (D := (dC, dI)) (ci := 3) (v := .int at_) (C := RX3) (T := TX3) (N := 3) hx hb hts hiX3 hown hK hP 0 rfl rfl 2 (by decide) (hts (.fieldLink RX3 19 "OptionLattice$Signs" "at" "I") (by decide +kernel)) (fun _ h9 => h9) rfl dX3_takeDigit_50 ?_
          refine lv_iconst (v := 1) hx hb dX3_takeDigit_53 (by decide) ?_
          refine lv_iadd hx hb dX3_takeDigit_54 ?_
          refine lv_topi (fun w_2 e_w_2 => ?_)
          have h := lt_use e_w_2 h
          refine va_put (D := (dC, dI)) (ci := 3) (v := .int w_2) (ty := .int) (C := RX3) (T := TX3) (N := 3) hx hb hts hiX3 tyX3 tyX3_ok nmX3 hown hK hP hD hS 0 rfl rfl 2 (by decide) (hts (.fieldLink RX3 19 "OptionLattice$Signs" "at" "I") (by decide +kernel)) (fun _ h9 => h9) rfl (by decide +kernel) rfl rfl (Nat.le_of_ble_eq_true rfl) dX3_takeDigit_55 (fun H locs hP hD hS => ?_)
          have hP : va_P (dC, dI) vwCl [(h0, .inr (3, [.ref h0_signs, .int size_, .int w_2])), (h0_signs, .inl (cyC, 240, .inl signs_))] H := hP
          have hD : va_D A [(h0, .inr (3, [.ref h0_signs, .int size_, .int w_2])), (h0_signs, .inl (cyC, 240, .inl signs_))] := hD
          refine lv_iload_n hx hb dX3_takeDigit_58 rfl (lv_at hl 0 rfl) ?_
          have h : some (t0, w_2) = some (rr, o0) := h
          have z0 := Option.some.inj h
          obtain ⟨rfl, z1⟩ := Prod.mk.inj z0
          obtain rfl := z1
          exact hret _ _ _ _ hP hS rfl dX3_takeDigit_59
        · have h := (if_pos c_).symm.trans h
          refine lv_iconst (v := (-1)) hx hb dX3_takeDigit_46 (by decide) ?_
          have h : some ((-1), at_) = some (rr, o0) := h
          have z0 := Option.some.inj h
          obtain ⟨rfl, z1⟩ := Prod.mk.inj z0
          obtain rfl := z1
          exact hret _ _ _ _ hP hS rfl dX3_takeDigit_47
  unfold m_X3_takeDigit at h
  refine lv_aload_n hx hb dX3_takeDigit_0 rfl (lv_at hl 0 rfl) ?_
  refine va_get (D := (dC, dI)) (ci := 3) (v := .int at_) (C := RX3) (T := TX3) (N := 3) hx hb hts hiX3 hown hK hP 0 rfl rfl 2 (by decide) (hts (.fieldLink RX3 19 "OptionLattice$Signs" "at" "I") (by decide +kernel)) (fun _ h9 => h9) rfl dX3_takeDigit_1 ?_
  refine lv_aload_n hx hb dX3_takeDigit_4 rfl (lv_at hl 0 rfl) ?_
  refine va_get (D := (dC, dI)) (ci := 3) (v := .int size_) (C := RX3) (T := TX3) (N := 3) hx hb hts hiX3 hown hK hP 0 rfl rfl 1 (by decide) (hts (.fieldLink RX3 15 "OptionLattice$Signs" "size" "I") (by decide +kernel)) (fun _ h9 => h9) rfl dX3_takeDigit_5 ?_
  refine lv_icmp_ge (tgt := 26) hx hb dX3_takeDigit_8 (by decide) (fun c_ => ?_) (fun c_ => ?_)
  · have h := (if_pos c_).symm.trans h
    refine lv_iconst (v := (-1)) hx hb dX3_takeDigit_26 (by decide) ?_
    exact J27 (-1) h _ _ _ hP hD hS (lv_sub hl [0, 1] rfl)
  · have h := (if_neg c_).symm.trans h
    refine lv_aload_n hx hb dX3_takeDigit_11 rfl (lv_at hl 0 rfl) ?_
    refine va_get (D := (dC, dI)) (ci := 3) (v := .ref h0_signs) (C := RX3) (T := TX3) (N := 3) hx hb hts hiX3 hown hK hP 0 rfl rfl 0 (by decide) (hts (.fieldLink RX3 9 "OptionLattice$Signs" "signs" "[C") (by decide +kernel)) (fun _ h9 => h9) rfl dX3_takeDigit_12 ?_
    refine lv_aload_n hx hb dX3_takeDigit_15 rfl (lv_at hl 0 rfl) ?_
    refine va_get (D := (dC, dI)) (ci := 3) (v := .int at_) (C := RX3) (T := TX3) (N := 3) hx hb hts hiX3 hown hK hP 0 rfl rfl 2 (by decide) (hts (.fieldLink RX3 19 "OptionLattice$Signs" "at" "I") (by decide +kernel)) (fun _ h9 => h9) rfl dX3_takeDigit_16 ?_
    obtain ⟨g_, h⟩ := gd_some h
    refine va_cald hx hb hK hP 1 0 rfl rfl (inb_in g_) dX3_takeDigit_19 ?_
    refine lv_bipush (v := 48) hx hb dX3_takeDigit_20 (by decide) ?_
    refine lv_isub hx hb dX3_takeDigit_22 ?_
    refine lv_goto (tgt := 27) hx hb dX3_takeDigit_23 (by decide) ?_
    exact J27 ((signs_ at_.toNatClampNeg) - 48) h _ _ _ hP hD hS (lv_sub hl [0, 1] rfl)

def m_X3_takeSign (size_ : Int32) (at_ : Int32) (signs_ : Nat → Int32) (v1 : Int32) : Option (Int32 × Int32) :=
  (if size_ ≤ at_ then some (0, at_) else gd (inb at_ 240) ((if (signs_ at_.toNatClampNeg) = v1 then lt' (at_ + 1) (fun w_1 => some (1, w_1)) else some (0, at_))))
abbrev rmX3_takeSign : Room := { frames := 0, cells := 0, slots := 0, locals := 0 }
set_option maxHeartbeats 4000000 in
set_option maxRecDepth 100000 in
theorem c_X3_takeSign (l : Launch) (dC : Nat → ClassId) (dI : Nat → Nat → Nat) (cyC cyI cyJ : ClassId) (h0 h0_signs : Nat) (size_ : Int32) (at_ : Int32) (signs_ : Nat → Int32) (v1 : Int32) (rr : Int32) (o0 : Int32) (h : m_X3_takeSign size_ at_ signs_ v1 = some (rr, o0)) : uMi l yX3_takeSign wsX3_takeSign rmX3_takeSign (dC, dI) [(cyC, .char), (cyI, .int), (cyJ, .long)] [.ref h0, .int v1] [(h0, .inr (3, [.ref h0_signs, .int size_, .int at_])), (h0_signs, .inl (cyC, 240, .inl signs_))] [(h0, .inr (3, [.ref h0_signs, .int size_, .int o0])), (h0_signs, .inl (cyC, 240, .inl signs_))] rr := by
  refine uMi.of (cc := cX3_takeSign) (maxL := 2) (by decide) rfl (Nat.le_of_ble_eq_true rfl) (fun p e s m args below meth c A ls Q hx hb hml hown hts hA hP hK hD hE hS hl hret => ?_)
  have hown : s.vm.findClass RX3 = some m.cls := hown
  have hl : lv_has ls 2 [(0, .ref h0), (1, .int v1)] := hl
  have hiX3 : ∀ w ∈ u_ws RX3 TX3 3, w ∈ wsX3_takeSign := fun _ h9 => List.mem_cons_of_mem _ (List.mem_append_right _ h9)
  unfold m_X3_takeSign at h
  refine lv_aload_n hx hb dX3_takeSign_0 rfl (lv_at hl 0 rfl) ?_
  refine va_get (D := (dC, dI)) (ci := 3) (v := .int at_) (C := RX3) (T := TX3) (N := 3) hx hb hts hiX3 hown hK hP 0 rfl rfl 2 (by decide) (hts (.fieldLink RX3 19 "OptionLattice$Signs" "at" "I") (by decide +kernel)) (fun _ h9 => h9) rfl dX3_takeSign_1 ?_
  refine lv_aload_n hx hb dX3_takeSign_4 rfl (lv_at hl 0 rfl) ?_
  refine va_get (D := (dC, dI)) (ci := 3) (v := .int size_) (C := RX3) (T := TX3) (N := 3) hx hb hts hiX3 hown hK hP 0 rfl rfl 1 (by decide) (hts (.fieldLink RX3 15 "OptionLattice$Signs" "size" "I") (by decide +kernel)) (fun _ h9 => h9) rfl dX3_takeSign_5 ?_
  refine lv_icmp_ge (tgt := 24) hx hb dX3_takeSign_8 (by decide) (fun c_ => ?_) (fun c_ => ?_)
  · have h := (if_pos c_).symm.trans h
    refine lv_iconst (v := 0) hx hb dX3_takeSign_24 (by decide) ?_
    have h : some (0, at_) = some (rr, o0) := h
    have z0 := Option.some.inj h
    obtain ⟨rfl, z1⟩ := Prod.mk.inj z0
    obtain rfl := z1
    exact hret _ _ _ _ hP hS rfl dX3_takeSign_25
  · have h := (if_neg c_).symm.trans h
    refine lv_aload_n hx hb dX3_takeSign_11 rfl (lv_at hl 0 rfl) ?_
    refine va_get (D := (dC, dI)) (ci := 3) (v := .ref h0_signs) (C := RX3) (T := TX3) (N := 3) hx hb hts hiX3 hown hK hP 0 rfl rfl 0 (by decide) (hts (.fieldLink RX3 9 "OptionLattice$Signs" "signs" "[C") (by decide +kernel)) (fun _ h9 => h9) rfl dX3_takeSign_12 ?_
    refine lv_aload_n hx hb dX3_takeSign_15 rfl (lv_at hl 0 rfl) ?_
    refine va_get (D := (dC, dI)) (ci := 3) (v := .int at_) (C := RX3) (T := TX3) (N := 3) hx hb hts hiX3 hown hK hP 0 rfl rfl 2 (by decide) (hts (.fieldLink RX3 19 "OptionLattice$Signs" "at" "I") (by decide +kernel)) (fun _ h9 => h9) rfl dX3_takeSign_16 ?_
    obtain ⟨g_, h⟩ := gd_some h
    refine va_cald hx hb hK hP 1 0 rfl rfl (inb_in g_) dX3_takeSign_19 ?_
    refine lv_iload_n hx hb dX3_takeSign_20 rfl (lv_at hl 1 rfl) ?_
    refine lv_icmp_eq (tgt := 26) hx hb dX3_takeSign_21 (by decide) (fun c_ => ?_) (fun c_ => ?_)
    · have h := (if_pos c_).symm.trans h
      refine lv_aload_n hx hb dX3_takeSign_26 rfl (lv_at hl 0 rfl) ?_
      refine lv_dup hx hb dX3_takeSign_27 rfl ?_
      refine va_get (D := (dC, dI)) (ci := 3) (v := .int at_) (C := RX3) (T := TX3) (N := 3) hx hb hts hiX3 hown hK hP 0 rfl rfl 2 (by decide) (hts (.fieldLink RX3 19 "OptionLattice$Signs" "at" "I") (by decide +kernel)) (fun _ h9 => h9) rfl dX3_takeSign_28 ?_
      refine lv_iconst (v := 1) hx hb dX3_takeSign_31 (by decide) ?_
      refine lv_iadd hx hb dX3_takeSign_32 ?_
      refine lv_topi (fun w_1 e_w_1 => ?_)
      have h := lt_use e_w_1 h
      refine va_put (D := (dC, dI)) (ci := 3) (v := .int w_1) (ty := .int) (C := RX3) (T := TX3) (N := 3) hx hb hts hiX3 tyX3 tyX3_ok nmX3 hown hK hP hD hS 0 rfl rfl 2 (by decide) (hts (.fieldLink RX3 19 "OptionLattice$Signs" "at" "I") (by decide +kernel)) (fun _ h9 => h9) rfl (by decide +kernel) rfl rfl (Nat.le_of_ble_eq_true rfl) dX3_takeSign_33 (fun H locs hP hD hS => ?_)
      have hP : va_P (dC, dI) vwCl [(h0, .inr (3, [.ref h0_signs, .int size_, .int w_1])), (h0_signs, .inl (cyC, 240, .inl signs_))] H := hP
      have hD : va_D A [(h0, .inr (3, [.ref h0_signs, .int size_, .int w_1])), (h0_signs, .inl (cyC, 240, .inl signs_))] := hD
      refine lv_iconst (v := 1) hx hb dX3_takeSign_36 (by decide) ?_
      have h : some (1, w_1) = some (rr, o0) := h
      have z0 := Option.some.inj h
      obtain ⟨rfl, z1⟩ := Prod.mk.inj z0
      obtain rfl := z1
      exact hret _ _ _ _ hP hS rfl dX3_takeSign_37
    · have h := (if_neg c_).symm.trans h
      refine lv_iconst (v := 0) hx hb dX3_takeSign_24 (by decide) ?_
      have h : some (0, at_) = some (rr, o0) := h
      have z0 := Option.some.inj h
      obtain ⟨rfl, z1⟩ := Prod.mk.inj z0
      obtain rfl := z1
      exact hret _ _ _ _ hP hS rfl dX3_takeSign_25

def m_X3_isRead (size_ : Int32) (at_ : Int32) : Option (Int32) :=
  (if at_ < size_ then some 0 else some 1)
abbrev rmX3_isRead : Room := { frames := 0, cells := 0, slots := 0, locals := 0 }
set_option maxHeartbeats 4000000 in
set_option maxRecDepth 100000 in
theorem c_X3_isRead (l : Launch) (dC : Nat → ClassId) (dI : Nat → Nat → Nat) (cyC cyI cyJ : ClassId) (h0 h0_signs : Nat) (size_ : Int32) (at_ : Int32) (rr : Int32) (h : m_X3_isRead size_ at_ = some rr) : uMi l yX3_isRead wsX3_isRead rmX3_isRead (dC, dI) [(cyC, .char), (cyI, .int), (cyJ, .long)] [.ref h0] [(h0, .inr (3, [.ref h0_signs, .int size_, .int at_]))] [(h0, .inr (3, [.ref h0_signs, .int size_, .int at_]))] rr := by
  refine uMi.of (cc := cX3_isRead) (maxL := 1) (by decide) rfl (Nat.le_of_ble_eq_true rfl) (fun p e s m args below meth c A ls Q hx hb hml hown hts hA hP hK hD hE hS hl hret => ?_)
  have hown : s.vm.findClass RX3 = some m.cls := hown
  have hl : lv_has ls 1 [(0, .ref h0)] := hl
  have hiX3 : ∀ w ∈ u_ws RX3 TX3 3, w ∈ wsX3_isRead := fun _ h9 => List.mem_cons_of_mem _ (List.mem_append_right _ h9)
  unfold m_X3_isRead at h
  refine lv_aload_n hx hb dX3_isRead_0 rfl (lv_at hl 0 rfl) ?_
  refine va_get (D := (dC, dI)) (ci := 3) (v := .int at_) (C := RX3) (T := TX3) (N := 3) hx hb hts hiX3 hown hK hP 0 rfl rfl 2 (by decide) (hts (.fieldLink RX3 19 "OptionLattice$Signs" "at" "I") (by decide +kernel)) (fun _ h9 => h9) rfl dX3_isRead_1 ?_
  refine lv_aload_n hx hb dX3_isRead_4 rfl (lv_at hl 0 rfl) ?_
  refine va_get (D := (dC, dI)) (ci := 3) (v := .int size_) (C := RX3) (T := TX3) (N := 3) hx hb hts hiX3 hown hK hP 0 rfl rfl 1 (by decide) (hts (.fieldLink RX3 15 "OptionLattice$Signs" "size" "I") (by decide +kernel)) (fun _ h9 => h9) rfl dX3_isRead_5 ?_
  refine lv_icmp_lt (tgt := 15) hx hb dX3_isRead_8 (by decide) (fun c_ => ?_) (fun c_ => ?_)
  · have h := (if_pos c_).symm.trans h
    refine lv_iconst (v := 0) hx hb dX3_isRead_15 (by decide) ?_
    have h : some 0 = some rr := h
    have z0 := Option.some.inj h
    obtain rfl := z0
    exact hret _ _ _ _ hP hS rfl dX3_isRead_16
  · have h := (if_neg c_).symm.trans h
    refine lv_iconst (v := 1) hx hb dX3_isRead_11 (by decide) ?_
    refine lv_goto (tgt := 16) hx hb dX3_isRead_12 (by decide) ?_
    have h : some 1 = some rr := h
    have z0 := Option.some.inj h
    obtain rfl := z0
    exact hret _ _ _ _ hP hS rfl dX3_isRead_16
