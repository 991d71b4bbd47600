def m_X6_isPupil (pupils_ : Int32) (v1 : Int32) : Option (Int32) :=
  bd1 (m_X6_in (Int32.toInt64 v1) 0 (Int32.toInt64 (pupils_ - 1))) (fun r_1 => gd (isb r_1) (some r_1))
abbrev rmX6_isPupil : Room := { frames := 1, cells := 0, slots := 0, locals := 25 }
set_option maxHeartbeats 4000000 in
set_option maxRecDepth 100000 in
theorem c_X6_isPupil (l : Launch) (dC : Nat → ClassId) (dI : Nat → Nat → Nat) (cyC cyI cyJ : ClassId) (h0 h0_row h0_subjectOf h0_teacherOf h0_seatsOf h0_columnOf h0_barsOf h0_choices h0_tape h0_was h0_readChoices h0_open h0_wayOf h0_cure h0_left h0_satIn : Nat) (thrown_ : Int32) (told_ : Int32) (columns_ : Int32) (rooms_ : Int32) (many_ : Int32) (pupils_ : Int32) (kept_ : Int32) (taped_ : Int32) (at_ : Int32) (to_ : Int32) (digit_ : Int32) (number_ : Int32) (readMany_ : Int32) (bestThen_ : Int32) (v1 : Int32) (rr : Int32) (h : m_X6_isPupil pupils_ v1 = some rr) : uMi l yX6_isPupil wsX6_isPupil rmX6_isPupil (dC, dI) [(cyC, .char), (cyI, .int), (cyJ, .long)] [.ref h0, .int v1] [(h0, .inr (6, [.int thrown_, .int told_, .ref h0_row, .int columns_, .int rooms_, .int many_, .ref h0_subjectOf, .ref h0_teacherOf, .ref h0_seatsOf, .ref h0_columnOf, .ref h0_barsOf, .int pupils_, .ref h0_choices, .int kept_, .ref h0_tape, .int taped_, .int at_, .int to_, .int digit_, .int number_, .ref h0_was, .ref h0_readChoices, .int readMany_, .ref h0_open, .ref h0_wayOf, .int bestThen_, .ref h0_cure, .ref h0_left, .ref h0_satIn]))] [(h0, .inr (6, [.int thrown_, .int told_, .ref h0_row, .int columns_, .int rooms_, .int many_, .ref h0_subjectOf, .ref h0_teacherOf, .ref h0_seatsOf, .ref h0_columnOf, .ref h0_barsOf, .int pupils_, .ref h0_choices, .int kept_, .ref h0_tape, .int taped_, .int at_, .int to_, .int digit_, .int number_, .ref h0_was, .ref h0_readChoices, .int readMany_, .ref h0_open, .ref h0_wayOf, .int bestThen_, .ref h0_cure, .ref h0_left, .ref h0_satIn]))] rr := by
  refine uMi.of (cc := cX6_isPupil) (maxL := 2) (by decide) rfl (Nat.le_of_ble_eq_true rfl) (fun p e s m args below meth c A ls Q hx hb hml hown hts hA hP hK hD hE hS hl hret => ?_)
  have hown : s.vm.findClass RX6 = some m.cls := hown
  have hl : lv_has ls 2 [(0, .ref h0), (1, .int v1)] := hl
  have hiX6 : ∀ w ∈ u_ws RX6 TX6 29, w ∈ wsX6_isPupil := fun _ h9 => List.mem_cons_of_mem _ (List.mem_append_right _ h9)
  unfold m_X6_isPupil at h
  refine lv_iload_n hx hb dX6_isPupil_0 rfl (lv_at hl 1 rfl) ?_
  refine lv_i2l (v := (Int32.toInt64 v1)) hx hb dX6_isPupil_1 rfl ?_
  refine lv_lconst (v := 0) hx hb dX6_isPupil_2 (by decide) ?_
  refine lv_aload_n hx hb dX6_isPupil_3 rfl (lv_at hl 0 rfl) ?_
  refine va_get (D := (dC, dI)) (ci := 6) (v := .int pupils_) (C := RX6) (T := TX6) (N := 29) hx hb hts hiX6 hown hK hP 0 rfl rfl 11 (by decide) (hts (.fieldLink RX6 90 "OptionLatticeModel" "pupils" "I") (by decide +kernel)) (fun _ h9 => h9) rfl dX6_isPupil_4 ?_
  refine lv_iconst (v := 1) hx hb dX6_isPupil_7 (by decide) ?_
  refine lv_isub hx hb dX6_isPupil_8 ?_
  refine lv_i2l (v := (Int32.toInt64 (pupils_ - 1))) hx hb dX6_isPupil_9 rfl ?_
  obtain ⟨r_1, hq, h⟩ := bd1_some h
  refine uS_i (As := [.long (Int32.toInt64 v1), .long 0, .long (Int32.toInt64 (pupils_ - 1))]) (rest := []) ⟨hx, hb, hml, hown, hts⟩ (c_X6_in l dC dI cyC cyI cyJ (Int32.toInt64 v1) 0 (Int32.toInt64 (pupils_ - 1)) r_1 hq) (va_cwS 3 hts gX6_isPupil_X6_in rfl rfl rfl (by decide +kernel) ⟨Nat.le_of_ble_eq_true rfl, Nat.le_of_ble_eq_true rfl⟩) hK hE hA hP hD hS [] rfl rfl rfl rfl hl.1 rfl (Nat.le_of_ble_eq_true rfl) ⟨Nat.zero_le _, Nat.zero_le _⟩ dX6_isPupil_10 (fun H locs hP hD hS => ?_)
  have hP : va_P (dC, dI) vwCl [(h0, .inr (6, [.int thrown_, .int told_, .ref h0_row, .int columns_, .int rooms_, .int many_, .ref h0_subjectOf, .ref h0_teacherOf, .ref h0_seatsOf, .ref h0_columnOf, .ref h0_barsOf, .int pupils_, .ref h0_choices, .int kept_, .ref h0_tape, .int taped_, .int at_, .int to_, .int digit_, .int number_, .ref h0_was, .ref h0_readChoices, .int readMany_, .ref h0_open, .ref h0_wayOf, .int bestThen_, .ref h0_cure, .ref h0_left, .ref h0_satIn]))] H := hP
  have hD : va_D A [(h0, .inr (6, [.int thrown_, .int told_, .ref h0_row, .int columns_, .int rooms_, .int many_, .ref h0_subjectOf, .ref h0_teacherOf, .ref h0_seatsOf, .ref h0_columnOf, .ref h0_barsOf, .int pupils_, .ref h0_choices, .int kept_, .ref h0_tape, .int taped_, .int at_, .int to_, .int digit_, .int number_, .ref h0_was, .ref h0_readChoices, .int readMany_, .ref h0_open, .ref h0_wayOf, .int bestThen_, .ref h0_cure, .ref h0_left, .ref h0_satIn]))] := hD
  obtain ⟨g_, h⟩ := gd_some h
  have h : some r_1 = some rr := h
  have z0 := Option.some.inj h
  obtain rfl := z0
  exact hret _ _ _ _ hP hS (isb_of g_) dX6_isPupil_13

def m_X6_whyNot_74 (rooms_ : Int32) (teacherOf_ : Nat → Int32) (barsOf_ : Nat → Int32) (v1 : Int32) (v2 : Int32) (v3 : Int32) (v4 : Int32) : Option (Int32) :=
  (if v4 = 0 then gd (inb v1 17) (gd (inb (teacherOf_ v1.toNatClampNeg) 10) (bd1 (m_X6_has (barsOf_ ((teacherOf_ v1.toNatClampNeg)).toNatClampNeg) v2) (fun r_1 => (if r_1 = 0 then (if v3 < rooms_ then some 0 else some 3) else some 2)))) else some 1)
def m_X6_whyNot_8 (rooms_ : Int32) (many_ : Int32) (teacherOf_ : Nat → Int32) (columnOf_ : Nat → Int32) (barsOf_ : Nat → Int32) (v1 : Int32) (v2 : Int32) (rec8 : Int32 → Int32 → Int32 → Option (Int32)) : Int32 → Int32 → Int32 → Option (Int32) := fun v3 v4 v5 =>
  (if many_ ≤ v5 then m_X6_whyNot_74 rooms_ teacherOf_ barsOf_ v1 v2 v3 v4 else (if v5 = v1 then lt' (v5 + 1) (fun v5_2 => rec8 v3 v4 v5_2) else gd (inb v5 17) ((if (columnOf_ v5.toNatClampNeg) = v2 then lt' (v3 + 1) (fun v3_3 => (if v4 = 0 then gd (inb v5 17) (gd (inb v1 17) ((if (teacherOf_ v5.toNatClampNeg) = (teacherOf_ v1.toNatClampNeg) then lt' (v5 + 1) (fun v5_6 => rec8 v3_3 1 v5_6) else lt' (v5 + 1) (fun v5_5 => rec8 v3_3 0 v5_5)))) else lt' (v5 + 1) (fun v5_4 => rec8 v3_3 1 v5_4))) else lt' (v5 + 1) (fun v5_7 => rec8 v3 v4 v5_7)))))
def m_X6_whyNot (rooms_ : Int32) (many_ : Int32) (teacherOf_ : Nat → Int32) (columnOf_ : Nat → Int32) (barsOf_ : Nat → Int32) (v1 : Int32) (v2 : Int32) : Option (Int32) :=
  it3 (m_X6_whyNot_8 rooms_ many_ teacherOf_ columnOf_ barsOf_ v1 v2) 1100 0 0 0
abbrev rmX6_whyNot : Room := { frames := 1, cells := 0, slots := 0, locals := 21 }
set_option maxHeartbeats 4000000 in
set_option maxRecDepth 100000 in
theorem c_X6_whyNot (l : Launch) (dC : Nat → ClassId) (dI : Nat → Nat → Nat) (cyC cyI cyJ : ClassId) (h0 h0_row h0_subjectOf h0_teacherOf h0_seatsOf h0_columnOf h0_barsOf h0_choices h0_tape h0_was h0_readChoices h0_open h0_wayOf h0_cure h0_left h0_satIn : Nat) (thrown_ : Int32) (told_ : Int32) (columns_ : Int32) (rooms_ : Int32) (many_ : Int32) (pupils_ : Int32) (kept_ : Int32) (taped_ : Int32) (at_ : Int32) (to_ : Int32) (digit_ : Int32) (number_ : Int32) (readMany_ : Int32) (bestThen_ : Int32) (teacherOf_ : Nat → Int32) (columnOf_ : Nat → Int32) (barsOf_ : Nat → Int32) (v1 : Int32) (v2 : Int32) (rr : Int32) (h : m_X6_whyNot rooms_ many_ teacherOf_ columnOf_ barsOf_ v1 v2 = some rr) : uMi l yX6_whyNot wsX6_whyNot rmX6_whyNot (dC, dI) [(cyC, .char), (cyI, .int), (cyJ, .long)] [.ref h0, .int v1, .int v2] [(h0, .inr (6, [.int thrown_, .int told_, .ref h0_row, .int columns_, .int rooms_, .int many_, .ref h0_subjectOf, .ref h0_teacherOf, .ref h0_seatsOf, .ref h0_columnOf, .ref h0_barsOf, .int pupils_, .ref h0_choices, .int kept_, .ref h0_tape, .int taped_, .int at_, .int to_, .int digit_, .int number_, .ref h0_was, .ref h0_readChoices, .int readMany_, .ref h0_open, .ref h0_wayOf, .int bestThen_, .ref h0_cure, .ref h0_left, .ref h0_satIn])), (h0_teacherOf, .inl (cyI, 17, .inl teacherOf_)), (h0_columnOf, .inl (cyI, 17, .inl columnOf_)), (h0_barsOf, .inl (cyI, 10, .inl barsOf_))] [(h0, .inr (6, [.int thrown_, .int told_, .ref h0_row, .int columns_, .int rooms_, .int many_, .ref h0_subjectOf, .ref h0_teacherOf, .ref h0_seatsOf, .ref h0_columnOf, .ref h0_barsOf, .int pupils_, .ref h0_choices, .int kept_, .ref h0_tape, .int taped_, .int at_, .int to_, .int digit_, .int number_, .ref h0_was, .ref h0_readChoices, .int readMany_, .ref h0_open, .ref h0_wayOf, .int bestThen_, .ref h0_cure, .ref h0_left, .ref h0_satIn])), (h0_teacherOf, .inl (cyI, 17, .inl teacherOf_)), (h0_columnOf, .inl (cyI, 17, .inl columnOf_)), (h0_barsOf, .inl (cyI, 10, .inl barsOf_))] rr := by
  refine uMi.of (cc := cX6_whyNot) (maxL := 6) (by decide) rfl (Nat.le_of_ble_eq_true rfl) (fun p e s m args below meth c A ls Q hx hb hml hown hts hA hP hK hD hE hS hl hret => ?_)
  have hown : s.vm.findClass RX6 = some m.cls := hown
  have hl : lv_has ls 6 [(0, .ref h0), (1, .int v1), (2, .int v2)] := hl
  have hiX6 : ∀ w ∈ u_ws RX6 TX6 29, w ∈ wsX6_whyNot := fun _ h9 => List.mem_cons_of_mem _ (List.mem_append_right _ h9)
  have J74 : ∀ (v3 : Int32), ∀ (v4 : Int32), m_X6_whyNot_74 rooms_ teacherOf_ barsOf_ v1 v2 v3 v4 = some rr → ∀ (H : Heap) (locs : List Loc) (ls : Array Slot), va_P (dC, dI) vwCl [(h0, .inr (6, [.int thrown_, .int told_, .ref h0_row, .int columns_, .int rooms_, .int many_, .ref h0_subjectOf, .ref h0_teacherOf, .ref h0_seatsOf, .ref h0_columnOf, .ref h0_barsOf, .int pupils_, .ref h0_choices, .int kept_, .ref h0_tape, .int taped_, .int at_, .int to_, .int digit_, .int number_, .ref h0_was, .ref h0_readChoices, .int readMany_, .ref h0_open, .ref h0_wayOf, .int bestThen_, .ref h0_cure, .ref h0_left, .ref h0_satIn])), (h0_teacherOf, .inl (cyI, 17, .inl teacherOf_)), (h0_columnOf, .inl (cyI, 17, .inl columnOf_)), (h0_barsOf, .inl (cyI, 10, .inl barsOf_))] H → va_D A [(h0, .inr (6, [.int thrown_, .int told_, .ref h0_row, .int columns_, .int rooms_, .int many_, .ref h0_subjectOf, .ref h0_teacherOf, .ref h0_seatsOf, .ref h0_columnOf, .ref h0_barsOf, .int pupils_, .ref h0_choices, .int kept_, .ref h0_tape, .int taped_, .int at_, .int to_, .int digit_, .int number_, .ref h0_was, .ref h0_readChoices, .int readMany_, .ref h0_open, .ref h0_wayOf, .int bestThen_, .ref h0_cure, .ref h0_left, .ref h0_satIn])), (h0_teacherOf, .inl (cyI, 17, .inl teacherOf_)), (h0_columnOf, .inl (cyI, 17, .inl columnOf_)), (h0_barsOf, .inl (cyI, 10, .inl barsOf_))] → va_S A s.heap H locs → lv_has ls 6 [(0, .ref h0), (1, .int v1), (2, .int v2), (3, .int v3), (4, .int v4)] → W p l e rmX6_whyNot s m args below meth c H locs 0 0 Q (F0 m 74 ls []) := by
    intro v3 v4 h H locs ls hP hD hS hl
    unfold m_X6_whyNot_74 at h
    refine lv_iload hx hb dX6_whyNot_74 (lv_at hl 4 rfl) ?_
    refine lv_if_eq (tgt := 83) hx hb dX6_whyNot_76 (by decide) (fun c_ => ?_) (fun c_ => ?_)
    · have h := (if_pos c_).symm.trans h
      refine lv_aload_n hx hb dX6_whyNot_83 rfl (lv_at hl 0 rfl) ?_
      refine va_get (D := (dC, dI)) (ci := 6) (v := .ref h0_barsOf) (C := RX6) (T := TX6) (N := 29) hx hb hts hiX6 hown hK hP 0 rfl rfl 10 (by decide) (hts (.fieldLink RX6 32 "OptionLatticeModel" "barsOf" "[I") (by decide +kernel)) (fun _ h9 => h9) rfl dX6_whyNot_84 ?_
      refine lv_aload_n hx hb dX6_whyNot_87 rfl (lv_at hl 0 rfl) ?_
      refine va_get (D := (dC, dI)) (ci := 6) (v := .ref h0_teacherOf) (C := RX6) (T := TX6) (N := 29) hx hb hts hiX6 hown hK hP 0 rfl rfl 7 (by decide) (hts (.fieldLink RX6 23 "OptionLatticeModel" "teacherOf" "[I") (by decide +kernel)) (fun _ h9 => h9) rfl dX6_whyNot_88 ?_
      refine lv_iload_n hx hb dX6_whyNot_91 rfl (lv_at hl 1 rfl) ?_
      obtain ⟨g_, h⟩ := gd_some h
      refine va_iald hx hb hK hP 1 1 rfl rfl (inb_in g_) dX6_whyNot_92 ?_
      obtain ⟨g_, h⟩ := gd_some h
      refine va_iald hx hb hK hP 3 1 rfl rfl (inb_in g_) dX6_whyNot_93 ?_
      refine lv_iload_n hx hb dX6_whyNot_94 rfl (lv_at hl 2 rfl) ?_
      obtain ⟨r_1, hq, h⟩ := bd1_some h
      refine uS_i (As := [.int (barsOf_ ((teacherOf_ v1.toNatClampNeg)).toNatClampNeg), .int v2]) (rest := []) ⟨hx, hb, hml, hown, hts⟩ (c_X6_has l dC dI cyC cyI cyJ (barsOf_ ((teacherOf_ v1.toNatClampNeg)).toNatClampNeg) v2 r_1 hq) (va_cwS 2 hts gX6_whyNot_X6_has rfl rfl rfl (by decide +kernel) ⟨Nat.le_of_ble_eq_true rfl, Nat.le_of_ble_eq_true rfl⟩) hK hE hA hP hD hS [] rfl rfl rfl rfl hl.1 rfl (Nat.le_of_ble_eq_true rfl) ⟨Nat.zero_le _, Nat.zero_le _⟩ dX6_whyNot_95 (fun H locs hP hD hS => ?_)
      have hP : va_P (dC, dI) vwCl [(h0, .inr (6, [.int thrown_, .int told_, .ref h0_row, .int columns_, .int rooms_, .int many_, .ref h0_subjectOf, .ref h0_teacherOf, .ref h0_seatsOf, .ref h0_columnOf, .ref h0_barsOf, .int pupils_, .ref h0_choices, .int kept_, .ref h0_tape, .int taped_, .int at_, .int to_, .int digit_, .int number_, .ref h0_was, .ref h0_readChoices, .int readMany_, .ref h0_open, .ref h0_wayOf, .int bestThen_, .ref h0_cure, .ref h0_left, .ref h0_satIn])), (h0_teacherOf, .inl (cyI, 17, .inl teacherOf_)), (h0_columnOf, .inl (cyI, 17, .inl columnOf_)), (h0_barsOf, .inl (cyI, 10, .inl barsOf_))] H := hP
      have hD : va_D A [(h0, .inr (6, [.int thrown_, .int told_, .ref h0_row, .int columns_, .int rooms_, .int many_, .ref h0_subjectOf, .ref h0_teacherOf, .ref h0_seatsOf, .ref h0_columnOf, .ref h0_barsOf, .int pupils_, .ref h0_choices, .int kept_, .ref h0_tape, .int taped_, .int at_, .int to_, .int digit_, .int number_, .ref h0_was, .ref h0_readChoices, .int readMany_, .ref h0_open, .ref h0_wayOf, .int bestThen_, .ref h0_cure, .ref h0_left, .ref h0_satIn])), (h0_teacherOf, .inl (cyI, 17, .inl teacherOf_)), (h0_columnOf, .inl (cyI, 17, .inl columnOf_)), (h0_barsOf, .inl (cyI, 10, .inl barsOf_))] := hD
      refine lv_if_eq (tgt := 105) hx hb dX6_whyNot_98 (by decide) (fun c_ => ?_) (fun c_ => ?_)
      · have h := (if_pos c_).symm.trans h
        refine lv_iload_n hx hb dX6_whyNot_105 rfl (lv_at hl 3 rfl) ?_
        refine lv_aload_n hx hb dX6_whyNot_106 rfl (lv_at hl 0 rfl) ?_
        refine va_get (D := (dC, dI)) (ci := 6) (v := .int rooms_) (C := RX6) (T := TX6) (N := 29) hx hb hts hiX6 hown hK hP 0 rfl rfl 4 (by decide) (hts (.fieldLink RX6 17 "OptionLatticeModel" "rooms" "I") (by decide +kernel)) (fun _ h9 => h9) rfl dX6_whyNot_107 ?_
        refine lv_icmp_lt (tgt := 117) hx hb dX6_whyNot_110 (by decide) (fun c_ => ?_) (fun c_ => ?_)
        · have h := (if_pos c_).symm.trans h
          refine lv_iconst (v := 0) hx hb dX6_whyNot_117 (by decide) ?_
          have h : some 0 = some rr := h
          have z0 := Option.some.inj h
          obtain rfl := z0
          exact hret _ _ _ _ hP hS rfl dX6_whyNot_118
        · have h := (if_neg c_).symm.trans h
          refine lv_iconst (v := 3) hx hb dX6_whyNot_113 (by decide) ?_
          refine lv_goto (tgt := 118) hx hb dX6_whyNot_114 (by decide) ?_
          have h : some 3 = some rr := h
          have z0 := Option.some.inj h
          obtain rfl := z0
          exact hret _ _ _ _ hP hS rfl dX6_whyNot_118
      · have h := (if_neg c_).symm.trans h
        refine lv_iconst (v := 2) hx hb dX6_whyNot_101 (by decide) ?_
        refine lv_goto (tgt := 118) hx hb dX6_whyNot_102 (by decide) ?_
        have h : some 2 = some rr := h
        have z0 := Option.some.inj h
        obtain rfl := z0
        exact hret _ _ _ _ hP hS rfl dX6_whyNot_118
    · have h := (if_neg c_).symm.trans h
      refine lv_iconst (v := 1) hx hb dX6_whyNot_79 (by decide) ?_
      refine lv_goto (tgt := 118) hx hb dX6_whyNot_80 (by decide) ?_
      have h : some 1 = some rr := h
      have z0 := Option.some.inj h
      obtain rfl := z0
      exact hret _ _ _ _ hP hS rfl dX6_whyNot_118
  have L8 : ∀ (n8 : Nat), ∀ (v3 : Int32), ∀ (v4 : Int32), ∀ (v5 : Int32), it3 (m_X6_whyNot_8 rooms_ many_ teacherOf_ columnOf_ barsOf_ v1 v2) n8 v3 v4 v5 = some rr → ∀ (H : Heap) (locs : List Loc) (ls : Array Slot), va_P (dC, dI) vwCl [(h0, .inr (6, [.int thrown_, .int told_, .ref h0_row, .int columns_, .int rooms_, .int many_, .ref h0_subjectOf, .ref h0_teacherOf, .ref h0_seatsOf, .ref h0_columnOf, .ref h0_barsOf, .int pupils_, .ref h0_choices, .int kept_, .ref h0_tape, .int taped_, .int at_, .int to_, .int digit_, .int number_, .ref h0_was, .ref h0_readChoices, .int readMany_, .ref h0_open, .ref h0_wayOf, .int bestThen_, .ref h0_cure, .ref h0_left, .ref h0_satIn])), (h0_teacherOf, .inl (cyI, 17, .inl teacherOf_)), (h0_columnOf, .inl (cyI, 17, .inl columnOf_)), (h0_barsOf, .inl (cyI, 10, .inl barsOf_))] H → va_D A [(h0, .inr (6, [.int thrown_, .int told_, .ref h0_row, .int columns_, .int rooms_, .int many_, .ref h0_subjectOf, .ref h0_teacherOf, .ref h0_seatsOf, .ref h0_columnOf, .ref h0_barsOf, .int pupils_, .ref h0_choices, .int kept_, .ref h0_tape, .int taped_, .int at_, .int to_, .int digit_, .int number_, .ref h0_was, .ref h0_readChoices, .int readMany_, .ref h0_open, .ref h0_wayOf, .int bestThen_, .ref h0_cure, .ref h0_left, .ref h0_satIn])), (h0_teacherOf, .inl (cyI, 17, .inl teacherOf_)), (h0_columnOf, .inl (cyI, 17, .inl columnOf_)), (h0_barsOf, .inl (cyI, 10, .inl barsOf_))] → va_S A s.heap H locs → lv_has ls 6 [(0, .ref h0), (1, .int v1), (2, .int v2), (3, .int v3), (4, .int v4), (5, .int v5)] → W p l e rmX6_whyNot s m args below meth c H locs 0 0 Q (F0 m 8 ls []) := by
    intro n8
    induction n8 with
    | zero => intro v3 v4 v5 h; exact absurd h (fun z => it3_z z)
    | succ n8 ih8 =>
      intro v3 v4 v5 h H locs ls hP hD hS hl
      have h : m_X6_whyNot_8 rooms_ many_ teacherOf_ columnOf_ barsOf_ v1 v2 (it3 (m_X6_whyNot_8 rooms_ many_ teacherOf_ columnOf_ barsOf_ v1 v2) n8) v3 v4 v5 = some rr := h
      unfold m_X6_whyNot_8 at h
      refine lv_iload hx hb dX6_whyNot_8 (lv_at hl 5 rfl) ?_
      refine lv_aload_n hx hb dX6_whyNot_10 rfl (lv_at hl 0 rfl) ?_
      refine va_get (D := (dC, dI)) (ci := 6) (v := .int many_) (C := RX6) (T := TX6) (N := 29) hx hb hts hiX6 hown hK hP 0 rfl rfl 5 (by decide) (hts (.fieldLink RX6 87 "OptionLatticeModel" "many" "I") (by decide +kernel)) (fun _ h9 => h9) rfl dX6_whyNot_11 ?_
      refine lv_icmp_ge (tgt := 74) hx hb dX6_whyNot_14 (by decide) (fun c_ => ?_) (fun c_ => ?_)
      · have h := (if_pos c_).symm.trans h
        exact J74 v3 v4 h _ _ _ hP hD hS (lv_sub hl [0, 1, 2, 3, 4] rfl)
      · have h := (if_neg c_).symm.trans h
        refine lv_iload hx hb dX6_whyNot_17 (lv_at hl 5 rfl) ?_
        refine lv_iload_n hx hb dX6_whyNot_19 rfl (lv_at hl 1 rfl) ?_
        refine lv_icmp_eq (tgt := 68) hx hb dX6_whyNot_20 (by decide) (fun c_ => ?_) (fun c_ => ?_)
        · have h := (if_pos c_).symm.trans h
          obtain ⟨v5_2, e_v5_2⟩ : ∃ z : Int32, z = (v5 + 1) := ⟨_, rfl⟩
          have h := lt_use e_v5_2 h
          refine lv_iinc (v := v5_2) (lv' := [(5, .int v5_2), (0, .ref h0), (1, .int v1), (2, .int v2), (3, .int v3), (4, .int v4)]) hx hb dX6_whyNot_68 hl (k := 5) rfl (by rw [e_v5_2]; rfl) (by decide) rfl (fun ls hl => ?_)
          refine lv_goto (tgt := 8) hx hb dX6_whyNot_71 (by decide) ?_
          exact ih8 v3 v4 v5_2 h _ _ _ hP hD hS (lv_sub hl [1, 2, 3, 4, 5, 0] rfl)
        · have h := (if_neg c_).symm.trans h
          refine lv_aload_n hx hb dX6_whyNot_23 rfl (lv_at hl 0 rfl) ?_
          refine va_get (D := (dC, dI)) (ci := 6) (v := .ref h0_columnOf) (C := RX6) (T := TX6) (N := 29) hx hb hts hiX6 hown hK hP 0 rfl rfl 9 (by decide) (hts (.fieldLink RX6 29 "OptionLatticeModel" "columnOf" "[I") (by decide +kernel)) (fun _ h9 => h9) rfl dX6_whyNot_24 ?_
          refine lv_iload hx hb dX6_whyNot_27 (lv_at hl 5 rfl) ?_
          obtain ⟨g_, h⟩ := gd_some h
          refine va_iald hx hb hK hP 2 1 rfl rfl (inb_in g_) dX6_whyNot_29 ?_
          refine lv_iload_n hx hb dX6_whyNot_30 rfl (lv_at hl 2 rfl) ?_
          refine lv_icmp_eq (tgt := 37) hx hb dX6_whyNot_31 (by decide) (fun c_ => ?_) (fun c_ => ?_)
          · have h := (if_pos c_).symm.trans h
            obtain ⟨v3_3, e_v3_3⟩ : ∃ z : Int32, z = (v3 + 1) := ⟨_, rfl⟩
            have h := lt_use e_v3_3 h
            refine lv_iinc (v := v3_3) (lv' := [(3, .int v3_3), (0, .ref h0), (1, .int v1), (2, .int v2), (4, .int v4), (5, .int v5)]) hx hb dX6_whyNot_37 hl (k := 3) rfl (by rw [e_v3_3]; rfl) (by decide) rfl (fun ls hl => ?_)
            refine lv_iload hx hb dX6_whyNot_40 (lv_at hl 4 rfl) ?_
            refine lv_if_ne (tgt := 61) hx hb dX6_whyNot_42 (by decide) (fun c_ => ?_) (fun c_ => ?_)
            · have h := (if_neg c_).symm.trans h
              refine lv_iconst (v := 1) hx hb dX6_whyNot_61 (by decide) ?_
              refine lv_goto (tgt := 66) hx hb dX6_whyNot_62 (by decide) ?_
              refine lv_istore (lv' := [(4, .int 1), (3, .int v3_3), (0, .ref h0), (1, .int v1), (2, .int v2), (5, .int v5)]) hx hb dX6_whyNot_66 hl (by decide) rfl (fun ls hl => ?_)
              obtain ⟨v5_4, e_v5_4⟩ : ∃ z : Int32, z = (v5 + 1) := ⟨_, rfl⟩
              have h := lt_use e_v5_4 h
              refine lv_iinc (v := v5_4) (lv' := [(5, .int v5_4), (4, .int 1), (3, .int v3_3), (0, .ref h0), (1, .int v1), (2, .int v2)]) hx hb dX6_whyNot_68 hl (k := 5) rfl (by rw [e_v5_4]; rfl) (by decide) rfl (fun ls hl => ?_)
              refine lv_goto (tgt := 8) hx hb dX6_whyNot_71 (by decide) ?_
              exact ih8 v3_3 1 v5_4 h _ _ _ hP hD hS (lv_sub hl [3, 4, 5, 2, 1, 0] rfl)
            · have h := (if_pos c_).symm.trans h
              refine lv_aload_n hx hb dX6_whyNot_45 rfl (lv_at hl 1 rfl) ?_
              refine va_get (D := (dC, dI)) (ci := 6) (v := .ref h0_teacherOf) (C := RX6) (T := TX6) (N := 29) hx hb hts hiX6 hown hK hP 0 rfl rfl 7 (by decide) (hts (.fieldLink RX6 23 "OptionLatticeModel" "teacherOf" "[I") (by decide +kernel)) (fun _ h9 => h9) rfl dX6_whyNot_46 ?_
              refine lv_iload hx hb dX6_whyNot_49 (lv_at hl 5 rfl) ?_
              obtain ⟨g_, h⟩ := gd_some h
              refine va_iald hx hb hK hP 1 1 rfl rfl (inb_in g_) dX6_whyNot_51 ?_
              refine lv_aload_n hx hb dX6_whyNot_52 rfl (lv_at hl 1 rfl) ?_
              refine va_get (D := (dC, dI)) (ci := 6) (v := .ref h0_teacherOf) (C := RX6) (T := TX6) (N := 29) hx hb hts hiX6 hown hK hP 0 rfl rfl 7 (by decide) (hts (.fieldLink RX6 23 "OptionLatticeModel" "teacherOf" "[I") (by decide +kernel)) (fun _ h9 => h9) rfl dX6_whyNot_53 ?_
              refine lv_iload_n hx hb dX6_whyNot_56 rfl (lv_at hl 2 rfl) ?_
              obtain ⟨g_, h⟩ := gd_some h
              refine va_iald hx hb hK hP 1 1 rfl rfl (inb_in g_) dX6_whyNot_57 ?_
              refine lv_icmp_ne (tgt := 65) hx hb dX6_whyNot_58 (by decide) (fun c_ => ?_) (fun c_ => ?_)
              · have h := (if_neg c_).symm.trans h
                refine lv_iconst (v := 0) hx hb dX6_whyNot_65 (by decide) ?_
                refine lv_istore (lv' := [(4, .int 0), (3, .int v3_3), (0, .ref h0), (1, .int v1), (2, .int v2), (5, .int v5)]) hx hb dX6_whyNot_66 hl (by decide) rfl (fun ls hl => ?_)
                obtain ⟨v5_5, e_v5_5⟩ : ∃ z : Int32, z = (v5 + 1) := ⟨_, rfl⟩
                have h := lt_use e_v5_5 h
                refine lv_iinc (v := v5_5) (lv' := [(5, .int v5_5), (4, .int 0), (3, .int v3_3), (0, .ref h0), (1, .int v1), (2, .int v2)]) hx hb dX6_whyNot_68 hl (k := 5) rfl (by rw [e_v5_5]; rfl) (by decide) rfl (fun ls hl => ?_)
                refine lv_goto (tgt := 8) hx hb dX6_whyNot_71 (by decide) ?_
                exact ih8 v3_3 0 v5_5 h _ _ _ hP hD hS (lv_sub hl [3, 4, 5, 2, 1, 0] rfl)
              · have h := (if_pos c_).symm.trans h
                refine lv_iconst (v := 1) hx hb dX6_whyNot_61 (by decide) ?_
                refine lv_goto (tgt := 66) hx hb dX6_whyNot_62 (by decide) ?_
                refine lv_istore (lv' := [(4, .int 1), (3, .int v3_3), (0, .ref h0), (1, .int v1), (2, .int v2), (5, .int v5)]) hx hb dX6_whyNot_66 hl (by decide) rfl (fun ls hl => ?_)
                obtain ⟨v5_6, e_v5_6⟩ : ∃ z : Int32, z = (v5 + 1) := ⟨_, rfl⟩
                have h := lt_use e_v5_6 h
                refine lv_iinc (v := v5_6) (lv' := [(5, .int v5_6), (4, .int 1), (3, .int v3_3), (0, .ref h0), (1, .int v1), (2, .int v2)]) hx hb dX6_whyNot_68 hl (k := 5) rfl (by rw [e_v5_6]; rfl) (by decide) rfl (fun ls hl => ?_)
                refine lv_goto (tgt := 8) hx hb dX6_whyNot_71 (by decide) ?_
                exact ih8 v3_3 1 v5_6 h _ _ _ hP hD hS (lv_sub hl [3, 4, 5, 2, 1, 0] rfl)
          · have h := (if_neg c_).symm.trans h
            refine lv_goto (tgt := 68) hx hb dX6_whyNot_34 (by decide) ?_
            obtain ⟨v5_7, e_v5_7⟩ : ∃ z : Int32, z = (v5 + 1) := ⟨_, rfl⟩
            have h := lt_use e_v5_7 h
            refine lv_iinc (v := v5_7) (lv' := [(5, .int v5_7), (0, .ref h0), (1, .int v1), (2, .int v2), (3, .int v3), (4, .int v4)]) hx hb dX6_whyNot_68 hl (k := 5) rfl (by rw [e_v5_7]; rfl) (by decide) rfl (fun ls hl => ?_)
            refine lv_goto (tgt := 8) hx hb dX6_whyNot_71 (by decide) ?_
            exact ih8 v3 v4 v5_7 h _ _ _ hP hD hS (lv_sub hl [1, 2, 3, 4, 5, 0] rfl)
  unfold m_X6_whyNot at h
  refine lv_iconst (v := 0) hx hb dX6_whyNot_0 (by decide) ?_
  refine lv_istore_n (lv' := [(3, .int 0), (0, .ref h0), (1, .int v1), (2, .int v2)]) hx hb dX6_whyNot_1 rfl hl (by decide) rfl (fun ls hl => ?_)
  refine lv_iconst (v := 0) hx hb dX6_whyNot_2 (by decide) ?_
  refine lv_istore (lv' := [(4, .int 0), (3, .int 0), (0, .ref h0), (1, .int v1), (2, .int v2)]) hx hb dX6_whyNot_3 hl (by decide) rfl (fun ls hl => ?_)
  refine lv_iconst (v := 0) hx hb dX6_whyNot_5 (by decide) ?_
  refine lv_istore (lv' := [(5, .int 0), (4, .int 0), (3, .int 0), (0, .ref h0), (1, .int v1), (2, .int v2)]) hx hb dX6_whyNot_6 hl (by decide) rfl (fun ls hl => ?_)
  exact L8  1100 0 0 0 h _ _ _ hP hD hS (lv_sub hl [3, 4, 5, 2, 1, 0] rfl)

def m_X6_isLegal (rooms_ : Int32) (many_ : Int32) (teacherOf_ : Nat → Int32) (columnOf_ : Nat → Int32) (barsOf_ : Nat → Int32) (v1 : Int32) (v2 : Int32) : Option (Int32) :=
  bd1 (m_X6_whyNot rooms_ many_ teacherOf_ columnOf_ barsOf_ v1 v2) (fun r_1 => (if r_1 = 0 then some 1 else some 0))
abbrev rmX6_isLegal : Room := { frames := 2, cells := 0, slots := 0, locals := 46 }
set_option maxHeartbeats 4000000 in
set_option maxRecDepth 100000 in
theorem c_X6_isLegal (l : Launch) (dC : Nat → ClassId) (dI : Nat → Nat → Nat) (cyC cyI cyJ : ClassId) (h0 h0_row h0_subjectOf h0_teacherOf h0_seatsOf h0_columnOf h0_barsOf h0_choices h0_tape h0_was h0_readChoices h0_open h0_wayOf h0_cure h0_left h0_satIn : Nat) (thrown_ : Int32) (told_ : Int32) (columns_ : Int32) (rooms_ : Int32) (many_ : Int32) (pupils_ : Int32) (kept_ : Int32) (taped_ : Int32) (at_ : Int32) (to_ : Int32) (digit_ : Int32) (number_ : Int32) (readMany_ : Int32) (bestThen_ : Int32) (teacherOf_ : Nat → Int32) (columnOf_ : Nat → Int32) (barsOf_ : Nat → Int32) (v1 : Int32) (v2 : Int32) (rr : Int32) (h : m_X6_isLegal rooms_ many_ teacherOf_ columnOf_ barsOf_ v1 v2 = some rr) : uMi l yX6_isLegal wsX6_isLegal rmX6_isLegal (dC, dI) [(cyC, .char), (cyI, .int), (cyJ, .long)] [.ref h0, .int v1, .int v2] [(h0, .inr (6, [.int thrown_, .int told_, .ref h0_row, .int columns_, .int rooms_, .int many_, .ref h0_subjectOf, .ref h0_teacherOf, .ref h0_seatsOf, .ref h0_columnOf, .ref h0_barsOf, .int pupils_, .ref h0_choices, .int kept_, .ref h0_tape, .int taped_, .int at_, .int to_, .int digit_, .int number_, .ref h0_was, .ref h0_readChoices, .int readMany_, .ref h0_open, .ref h0_wayOf, .int bestThen_, .ref h0_cure, .ref h0_left, .ref h0_satIn])), (h0_teacherOf, .inl (cyI, 17, .inl teacherOf_)), (h0_columnOf, .inl (cyI, 17, .inl columnOf_)), (h0_barsOf, .inl (cyI, 10, .inl barsOf_))] [(h0, .inr (6, [.int thrown_, .int told_, .ref h0_row, .int columns_, .int rooms_, .int many_, .ref h0_subjectOf, .ref h0_teacherOf, .ref h0_seatsOf, .ref h0_columnOf, .ref h0_barsOf, .int pupils_, .ref h0_choices, .int kept_, .ref h0_tape, .int taped_, .int at_, .int to_, .int digit_, .int number_, .ref h0_was, .ref h0_readChoices, .int readMany_, .ref h0_open, .ref h0_wayOf, .int bestThen_, .ref h0_cure, .ref h0_left, .ref h0_satIn])), (h0_teacherOf, .inl (cyI, 17, .inl teacherOf_)), (h0_columnOf, .inl (cyI, 17, .inl columnOf_)), (h0_barsOf, .inl (cyI, 10, .inl barsOf_))] rr := by
  refine uMi.of (cc := cX6_isLegal) (maxL := 3) (by decide) rfl (Nat.le_of_ble_eq_true rfl) (fun p e s m args below meth c A ls Q hx hb hml hown hts hA hP hK hD hE hS hl hret => ?_)
  have hown : s.vm.findClass RX6 = some m.cls := hown
  have hl : lv_has ls 3 [(0, .ref h0), (1, .int v1), (2, .int v2)] := hl
  unfold m_X6_isLegal at h
  refine lv_aload_n hx hb dX6_isLegal_0 rfl (lv_at hl 0 rfl) ?_
  refine lv_iload_n hx hb dX6_isLegal_1 rfl (lv_at hl 1 rfl) ?_
  refine lv_iload_n hx hb dX6_isLegal_2 rfl (lv_at hl 2 rfl) ?_
  obtain ⟨r_1, hq, h⟩ := bd1_some h
  refine uV_i (b := h0) (As := [.int v1, .int v2]) (rest := []) ⟨hx, hb, hml, hown, hts⟩ (c_X6_whyNot l dC dI cyC cyI cyJ h0 h0_row h0_subjectOf h0_teacherOf h0_seatsOf h0_columnOf h0_barsOf h0_choices h0_tape h0_was h0_readChoices h0_open h0_wayOf h0_cure h0_left h0_satIn thrown_ told_ columns_ rooms_ many_ pupils_ kept_ taped_ at_ to_ digit_ number_ readMany_ bestThen_ teacherOf_ columnOf_ barsOf_ v1 v2 r_1 hq) (cwV 2 hts gX6_isLegal_X6_whyNot rfl rfl rfl (by decide +kernel) ⟨Nat.le_of_ble_eq_true rfl, Nat.le_of_ble_eq_true rfl⟩) hK hE hA hP hD hS [0, 1, 2, 3] rfl rfl rfl 6 0 rfl rfl rfl hl.1 rfl (Nat.le_of_ble_eq_true rfl) ⟨Nat.zero_le _, Nat.zero_le _⟩ dX6_isLegal_3 (fun H locs hP hD hS => ?_)
  have hP : va_P (dC, dI) vwCl [(h0, .inr (6, [.int thrown_, .int told_, .ref h0_row, .int columns_, .int rooms_, .int many_, .ref h0_subjectOf, .ref h0_teacherOf, .ref h0_seatsOf, .ref h0_columnOf, .ref h0_barsOf, .int pupils_, .ref h0_choices, .int kept_, .ref h0_tape, .int taped_, .int at_, .int to_, .int digit_, .int number_, .ref h0_was, .ref h0_readChoices, .int readMany_, .ref h0_open, .ref h0_wayOf, .int bestThen_, .ref h0_cure, .ref h0_left, .ref h0_satIn])), (h0_teacherOf, .inl (cyI, 17, .inl teacherOf_)), (h0_columnOf, .inl (cyI, 17, .inl columnOf_)), (h0_barsOf, .inl (cyI, 10, .inl barsOf_))] H := hP
  have hD : va_D A [(h0, .inr (6, [.int thrown_, .int told_, .ref h0_row, .int columns_, .int rooms_, .int many_, .ref h0_subjectOf, .ref h0_teacherOf, .ref h0_seatsOf, .ref h0_columnOf, .ref h0_barsOf, .int pupils_, .ref h0_choices, .int kept_, .ref h0_tape, .int taped_, .int at_, .int to_, .int digit_, .int number_, .ref h0_was, .ref h0_readChoices, .int readMany_, .ref h0_open, .ref h0_wayOf, .int bestThen_, .ref h0_cure, .ref h0_left, .ref h0_satIn])), (h0_teacherOf, .inl (cyI, 17, .inl teacherOf_)), (h0_columnOf, .inl (cyI, 17, .inl columnOf_)), (h0_barsOf, .inl (cyI, 10, .inl barsOf_))] := hD
  refine lv_if_ne (tgt := 13) hx hb dX6_isLegal_6 (by decide) (fun c_ => ?_) (fun c_ => ?_)
  · have h := (if_neg c_).symm.trans h
    refine lv_iconst (v := 0) hx hb dX6_isLegal_13 (by decide) ?_
    have h : some 0 = some rr := h
    have z0 := Option.some.inj h
    obtain rfl := z0
    exact hret _ _ _ _ hP hS rfl dX6_isLegal_14
  · have h := (if_pos c_).symm.trans h
    refine lv_iconst (v := 1) hx hb dX6_isLegal_9 (by decide) ?_
    refine lv_goto (tgt := 14) hx hb dX6_isLegal_10 (by decide) ?_
    have h : some 1 = some rr := h
    have z0 := Option.some.inj h
    obtain rfl := z0
    exact hret _ _ _ _ hP hS rfl dX6_isLegal_14

def m_X6_sign_54 (thrown_ : Int32) (taped_ : Int32) (tape_ : Nat → Int32) : Option (Int32 × Int32 × Int32 × (Nat → Int32)) :=
  lt' (taped_ + 4) (fun w_1 => some (w_1, thrown_, w_1, tape_))
def m_X6_sign_19 (thrown_ : Int32) (taped_ : Int32) (v1 : Int32) (rec19 : Int32 → (Nat → Int32) → Option (Int32 × Int32 × Int32 × (Nat → Int32))) : Int32 → (Nat → Int32) → Option (Int32 × Int32 × Int32 × (Nat → Int32)) := fun v2 tape_ =>
  (if 4 ≤ v2 then m_X6_sign_54 thrown_ taped_ tape_ else gd (inb (taped_ + v2) 240) (lt' (v2 + 1) (fun v2_2 => rec19 v2_2 (upd tape_ ((taped_ + v2)).toNatClampNeg ((v1 >>> (((24 : Int32) - ((8 : Int32) * v2)) &&& 31)) &&& 255)))))
def m_X6_sign (thrown_ : Int32) (taped_ : Int32) (tape_ : Nat → Int32) (v1 : Int32) : Option (Int32 × Int32 × Int32 × (Nat → Int32)) :=
  (if taped_ ≤ 236 then it2 (m_X6_sign_19 0 taped_ v1) 1100 0 tape_ else some ((-1), 0, taped_, tape_))
abbrev rmX6_sign : Room := { frames := 0, cells := 0, slots := 0, locals := 0 }
set_option maxHeartbeats 4000000 in
set_option maxRecDepth 100000 in
theorem c_X6_sign (l : Launch) (dC : Nat → ClassId) (dI : Nat → Nat → Nat) (cyC cyI cyJ : ClassId) (h0 h0_row h0_subjectOf h0_teacherOf h0_seatsOf h0_columnOf h0_barsOf h0_choices h0_tape h0_was h0_readChoices h0_open h0_wayOf h0_cure h0_left h0_satIn : Nat) (thrown_ : Int32) (told_ : Int32) (columns_ : Int32) (rooms_ : Int32) (many_ : Int32) (pupils_ : Int32) (kept_ : Int32) (taped_ : Int32) (at_ : Int32) (to_ : Int32) (digit_ : Int32) (number_ : Int32) (readMany_ : Int32) (bestThen_ : Int32) (tape_ : Nat → Int32) (v1 : Int32) (rr : Int32) (o0 : Int32) (o1 : Int32) (o2 : Nat → Int32) (h : m_X6_sign thrown_ taped_ tape_ v1 = some (rr, o0, o1, o2)) : uMi l yX6_sign wsX6_sign rmX6_sign (dC, dI) [(cyC, .char), (cyI, .int), (cyJ, .long)] [.ref h0, .int v1] [(h0, .inr (6, [.int thrown_, .int told_, .ref h0_row, .int columns_, .int rooms_, .int many_, .ref h0_subjectOf, .ref h0_teacherOf, .ref h0_seatsOf, .ref h0_columnOf, .ref h0_barsOf, .int pupils_, .ref h0_choices, .int kept_, .ref h0_tape, .int taped_, .int at_, .int to_, .int digit_, .int number_, .ref h0_was, .ref h0_readChoices, .int readMany_, .ref h0_open, .ref h0_wayOf, .int bestThen_, .ref h0_cure, .ref h0_left, .ref h0_satIn])), (h0_tape, .inl (cyI, 240, .inl tape_))] [(h0, .inr (6, [.int o0, .int told_, .ref h0_row, .int columns_, .int rooms_, .int many_, .ref h0_subjectOf, .ref h0_teacherOf, .ref h0_seatsOf, .ref h0_columnOf, .ref h0_barsOf, .int pupils_, .ref h0_choices, .int kept_, .ref h0_tape, .int o1, .int at_, .int to_, .int digit_, .int number_, .ref h0_was, .ref h0_readChoices, .int readMany_, .ref h0_open, .ref h0_wayOf, .int bestThen_, .ref h0_cure, .ref h0_left, .ref h0_satIn])), (h0_tape, .inl (cyI, 240, .inl o2))] rr := by
  refine uMi.of (cc := cX6_sign) (maxL := 3) (by decide) rfl (Nat.le_of_ble_eq_true rfl) (fun p e s m args below meth c A ls Q hx hb hml hown hts hA hP hK hD hE hS hl hret => ?_)
  have hown : s.vm.findClass RX6 = some m.cls := hown
  have hl : lv_has ls 3 [(0, .ref h0), (1, .int v1)] := hl
  have hiX6 : ∀ w ∈ u_ws RX6 TX6 29, w ∈ wsX6_sign := fun _ h9 => List.mem_cons_of_mem _ (List.mem_append_right _ h9)
  have J54 : ∀ (thrown_ : Int32), ∀ (tape_ : Nat → Int32), m_X6_sign_54 thrown_ taped_ tape_ = some (rr, o0, o1, o2) → ∀ (H : Heap) (locs : List Loc) (ls : Array Slot), va_P (dC, dI) vwCl [(h0, .inr (6, [.int thrown_, .int told_, .ref h0_row, .int columns_, .int rooms_, .int many_, .ref h0_subjectOf, .ref h0_teacherOf, .ref h0_seatsOf, .ref h0_columnOf, .ref h0_barsOf, .int pupils_, .ref h0_choices, .int kept_, .ref h0_tape, .int taped_, .int at_, .int to_, .int digit_, .int number_, .ref h0_was, .ref h0_readChoices, .int readMany_, .ref h0_open, .ref h0_wayOf, .int bestThen_, .ref h0_cure, .ref h0_left, .ref h0_satIn])), (h0_tape, .inl (cyI, 240, .inl tape_))] H → va_D A [(h0, .inr (6, [.int thrown_, .int told_, .ref h0_row, .int columns_, .int rooms_, .int many_, .ref h0_subjectOf, .ref h0_teacherOf, .ref h0_seatsOf, .ref h0_columnOf, .ref h0_barsOf, .int pupils_, .ref h0_choices, .int kept_, .ref h0_tape, .int taped_, .int at_, .int to_, .int digit_, .int number_, .ref h0_was, .ref h0_readChoices, .int readMany_, .ref h0_open, .ref h0_wayOf, .int bestThen_, .ref h0_cure, .ref h0_left, .ref h0_satIn])), (h0_tape, .inl (cyI, 240, .inl tape_))] → va_S A s.heap H locs → lv_has ls 3 [(0, .ref h0)] → W p l e rmX6_sign s m args below meth c H locs 0 0 Q (F0 m 54 ls []) := by
    intro thrown_ tape_ h H locs ls hP hD hS hl
    unfold m_X6_sign_54 at h
    refine lv_aload_n hx hb dX6_sign_54 rfl (lv_at hl 0 rfl) ?_
    refine lv_dup hx hb dX6_sign_55 rfl ?_
    refine va_get (D := (dC, dI)) (ci := 6) (v := .int taped_) (C := RX6) (T := TX6) (N := 29) hx hb hts hiX6 hown hK hP 0 rfl rfl 15 (by decide) (hts (.fieldLink RX6 101 "OptionLatticeModel" "taped" "I") (by decide +kernel)) (fun _ h9 => h9) rfl dX6_sign_56 ?_
    refine lv_iconst (v := 4) hx hb dX6_sign_59 (by decide) ?_
    refine lv_iadd hx hb dX6_sign_60 ?_
    refine lv_topi (fun w_1 e_w_1 => ?_)
    have h := lt_use e_w_1 h
    refine va_put (D := (dC, dI)) (ci := 6) (v := .int w_1) (ty := .int) (C := RX6) (T := TX6) (N := 29) hx hb hts hiX6 tyX6 tyX6_ok nmX6 hown hK hP hD hS 0 rfl rfl 15 (by decide) (hts (.fieldLink RX6 101 "OptionLatticeModel" "taped" "I") (by decide +kernel)) (fun _ h9 => h9) rfl (by decide +kernel) rfl rfl (Nat.le_of_ble_eq_true rfl) dX6_sign_61 (fun H locs hP hD hS => ?_)
    have hP : va_P (dC, dI) vwCl [(h0, .inr (6, [.int thrown_, .int told_, .ref h0_row, .int columns_, .int rooms_, .int many_, .ref h0_subjectOf, .ref h0_teacherOf, .ref h0_seatsOf, .ref h0_columnOf, .ref h0_barsOf, .int pupils_, .ref h0_choices, .int kept_, .ref h0_tape, .int w_1, .int at_, .int to_, .int digit_, .int number_, .ref h0_was, .ref h0_readChoices, .int readMany_, .ref h0_open, .ref h0_wayOf, .int bestThen_, .ref h0_cure, .ref h0_left, .ref h0_satIn])), (h0_tape, .inl (cyI, 240, .inl tape_))] H := hP
    have hD : va_D A [(h0, .inr (6, [.int thrown_, .int told_, .ref h0_row, .int columns_, .int rooms_, .int many_, .ref h0_subjectOf, .ref h0_teacherOf, .ref h0_seatsOf, .ref h0_columnOf, .ref h0_barsOf, .int pupils_, .ref h0_choices, .int kept_, .ref h0_tape, .int w_1, .int at_, .int to_, .int digit_, .int number_, .ref h0_was, .ref h0_readChoices, .int readMany_, .ref h0_open, .ref h0_wayOf, .int bestThen_, .ref h0_cure, .ref h0_left, .ref h0_satIn])), (h0_tape, .inl (cyI, 240, .inl tape_))] := hD
    refine lv_aload_n hx hb dX6_sign_64 rfl (lv_at hl 0 rfl) ?_
    refine va_get (D := (dC, dI)) (ci := 6) (v := .int w_1) (C := RX6) (T := TX6) (N := 29) hx hb hts hiX6 hown hK hP 0 rfl rfl 15 (by decide) (hts (.fieldLink RX6 101 "OptionLatticeModel" "taped" "I") (by decide +kernel)) (fun _ h9 => h9) rfl dX6_sign_65 ?_
    have h : some (w_1, thrown_, w_1, tape_) = some (rr, o0, o1, o2) := h
    have z0 := Option.some.inj h
    obtain ⟨rfl, z1⟩ := Prod.mk.inj z0
    obtain ⟨rfl, z2⟩ := Prod.mk.inj z1
    obtain ⟨rfl, z3⟩ := Prod.mk.inj z2
    obtain rfl := z3
    exact hret _ _ _ _ hP hS rfl dX6_sign_68
  have L19 : ∀ (thrown_ : Int32), ∀ (n19 : Nat), ∀ (v2 : Int32), ∀ (tape_ : Nat → Int32), it2 (m_X6_sign_19 thrown_ taped_ v1) n19 v2 tape_ = some (rr, o0, o1, o2) → ∀ (H : Heap) (locs : List Loc) (ls : Array Slot), va_P (dC, dI) vwCl [(h0, .inr (6, [.int thrown_, .int told_, .ref h0_row, .int columns_, .int rooms_, .int many_, .ref h0_subjectOf, .ref h0_teacherOf, .ref h0_seatsOf, .ref h0_columnOf, .ref h0_barsOf, .int pupils_, .ref h0_choices, .int kept_, .ref h0_tape, .int taped_, .int at_, .int to_, .int digit_, .int number_, .ref h0_was, .ref h0_readChoices, .int readMany_, .ref h0_open, .ref h0_wayOf, .int bestThen_, .ref h0_cure, .ref h0_left, .ref h0_satIn])), (h0_tape, .inl (cyI, 240, .inl tape_))] H → va_D A [(h0, .inr (6, [.int thrown_, .int told_, .ref h0_row, .int columns_, .int rooms_, .int many_, .ref h0_subjectOf, .ref h0_teacherOf, .ref h0_seatsOf, .ref h0_columnOf, .ref h0_barsOf, .int pupils_, .ref h0_choices, .int kept_, .ref h0_tape, .int taped_, .int at_, .int to_, .int digit_, .int number_, .ref h0_was, .ref h0_readChoices, .int readMany_, .ref h0_open, .ref h0_wayOf, .int bestThen_, .ref h0_cure, .ref h0_left, .ref h0_satIn])), (h0_tape, .inl (cyI, 240, .inl tape_))] → va_S A s.heap H locs → lv_has ls 3 [(0, .ref h0), (1, .int v1), (2, .int v2)] → W p l e rmX6_sign s m args below meth c H locs 0 0 Q (F0 m 19 ls []) := by
    intro thrown_ n19
    induction n19 with
    | zero => intro v2 tape_ h; exact absurd h (fun z => it2_z z)
    | succ n19 ih19 =>
      intro v2 tape_ h H locs ls hP hD hS hl
      have h : m_X6_sign_19 thrown_ taped_ v1 (it2 (m_X6_sign_19 thrown_ taped_ v1) n19) v2 tape_ = some (rr, o0, o1, o2) := h
      unfold m_X6_sign_19 at h
      refine lv_iload_n hx hb dX6_sign_19 rfl (lv_at hl 2 rfl) ?_
      refine lv_iconst (v := 4) hx hb dX6_sign_20 (by decide) ?_
      refine lv_icmp_ge (tgt := 54) hx hb dX6_sign_21 (by decide) (fun c_ => ?_) (fun c_ => ?_)
      · have h := (if_pos c_).symm.trans h
        exact J54 thrown_ tape_ h _ _ _ hP hD hS (lv_sub hl [0] rfl)
      · have h := (if_neg c_).symm.trans h
        refine lv_aload_n hx hb dX6_sign_24 rfl (lv_at hl 0 rfl) ?_
        refine va_get (D := (dC, dI)) (ci := 6) (v := .ref h0_tape) (C := RX6) (T := TX6) (N := 29) hx hb hts hiX6 hown hK hP 0 rfl rfl 14 (by decide) (hts (.fieldLink RX6 38 "OptionLatticeModel" "tape" "[I") (by decide +kernel)) (fun _ h9 => h9) rfl dX6_sign_25 ?_
        refine lv_aload_n hx hb dX6_sign_28 rfl (lv_at hl 0 rfl) ?_
        refine va_get (D := (dC, dI)) (ci := 6) (v := .int taped_) (C := RX6) (T := TX6) (N := 29) hx hb hts hiX6 hown hK hP 0 rfl rfl 15 (by decide) (hts (.fieldLink RX6 101 "OptionLatticeModel" "taped" "I") (by decide +kernel)) (fun _ h9 => h9) rfl dX6_sign_29 ?_
        refine lv_iload_n hx hb dX6_sign_32 rfl (lv_at hl 2 rfl) ?_
        refine lv_iadd hx hb dX6_sign_33 ?_
        refine lv_iload_n hx hb dX6_sign_34 rfl (lv_at hl 1 rfl) ?_
        refine lv_bipush (v := 24) hx hb dX6_sign_35 (by decide) ?_
        refine lv_bipush (v := 8) hx hb dX6_sign_37 (by decide) ?_
        refine lv_iload_n hx hb dX6_sign_39 rfl (lv_at hl 2 rfl) ?_
        refine lv_imul hx hb dX6_sign_40 ?_
        refine lv_isub hx hb dX6_sign_41 ?_
        refine lv_ishr hx hb dX6_sign_42 ?_
        refine lv_sipush (v := 255) hx hb dX6_sign_43 (by decide) ?_
        refine lv_iand hx hb dX6_sign_46 ?_
        obtain ⟨g_, h⟩ := gd_some h
        refine va_iast hx hb hK hP hD hS 1 1 rfl rfl (inb_in g_) dX6_sign_47 (fun H locs hP hD hS => ?_)
        have hP : va_P (dC, dI) vwCl [(h0, .inr (6, [.int thrown_, .int told_, .ref h0_row, .int columns_, .int rooms_, .int many_, .ref h0_subjectOf, .ref h0_teacherOf, .ref h0_seatsOf, .ref h0_columnOf, .ref h0_barsOf, .int pupils_, .ref h0_choices, .int kept_, .ref h0_tape, .int taped_, .int at_, .int to_, .int digit_, .int number_, .ref h0_was, .ref h0_readChoices, .int readMany_, .ref h0_open, .ref h0_wayOf, .int bestThen_, .ref h0_cure, .ref h0_left, .ref h0_satIn])), (h0_tape, .inl (cyI, 240, .inl (upd tape_ ((taped_ + v2)).toNatClampNeg ((v1 >>> (((24 : Int32) - ((8 : Int32) * v2)) &&& 31)) &&& 255))))] H := hP
        have hD : va_D A [(h0, .inr (6, [.int thrown_, .int told_, .ref h0_row, .int columns_, .int rooms_, .int many_, .ref h0_subjectOf, .ref h0_teacherOf, .ref h0_seatsOf, .ref h0_columnOf, .ref h0_barsOf, .int pupils_, .ref h0_choices, .int kept_, .ref h0_tape, .int taped_, .int at_, .int to_, .int digit_, .int number_, .ref h0_was, .ref h0_readChoices, .int readMany_, .ref h0_open, .ref h0_wayOf, .int bestThen_, .ref h0_cure, .ref h0_left, .ref h0_satIn])), (h0_tape, .inl (cyI, 240, .inl (upd tape_ ((taped_ + v2)).toNatClampNeg ((v1 >>> (((24 : Int32) - ((8 : Int32) * v2)) &&& 31)) &&& 255))))] := hD
        obtain ⟨v2_2, e_v2_2⟩ : ∃ z : Int32, z = (v2 + 1) := ⟨_, rfl⟩
        have h := lt_use e_v2_2 h
        refine lv_iinc (v := v2_2) (lv' := [(2, .int v2_2), (0, .ref h0), (1, .int v1)]) hx hb dX6_sign_48 hl (k := 2) rfl (by rw [e_v2_2]; rfl) (by decide) rfl (fun ls hl => ?_)
        refine lv_goto (tgt := 19) hx hb dX6_sign_51 (by decide) ?_
        exact ih19 v2_2 (upd tape_ ((taped_ + v2)).toNatClampNeg ((v1 >>> (((24 : Int32) - ((8 : Int32) * v2)) &&& 31)) &&& 255)) h _ _ _ hP hD hS (lv_sub hl [1, 2, 0] rfl)
  unfold m_X6_sign at h
  refine lv_aload_n hx hb dX6_sign_0 rfl (lv_at hl 0 rfl) ?_
  refine lv_iconst (v := 0) hx hb dX6_sign_1 (by decide) ?_
  refine va_put (D := (dC, dI)) (ci := 6) (v := .int 0) (ty := .int) (C := RX6) (T := TX6) (N := 29) hx hb hts hiX6 tyX6 tyX6_ok nmX6 hown hK hP hD hS 0 rfl rfl 0 (by decide) (hts (.fieldLink RX6 62 "OptionLatticeModel" "thrown" "I") (by decide +kernel)) (fun _ h9 => h9) rfl (by decide +kernel) rfl rfl (Nat.le_of_ble_eq_true rfl) dX6_sign_2 (fun H locs hP hD hS => ?_)
  have hP : va_P (dC, dI) vwCl [(h0, .inr (6, [.int 0, .int told_, .ref h0_row, .int columns_, .int rooms_, .int many_, .ref h0_subjectOf, .ref h0_teacherOf, .ref h0_seatsOf, .ref h0_columnOf, .ref h0_barsOf, .int pupils_, .ref h0_choices, .int kept_, .ref h0_tape, .int taped_, .int at_, .int to_, .int digit_, .int number_, .ref h0_was, .ref h0_readChoices, .int readMany_, .ref h0_open, .ref h0_wayOf, .int bestThen_, .ref h0_cure, .ref h0_left, .ref h0_satIn])), (h0_tape, .inl (cyI, 240, .inl tape_))] H := hP
  have hD : va_D A [(h0, .inr (6, [.int 0, .int told_, .ref h0_row, .int columns_, .int rooms_, .int many_, .ref h0_subjectOf, .ref h0_teacherOf, .ref h0_seatsOf, .ref h0_columnOf, .ref h0_barsOf, .int pupils_, .ref h0_choices, .int kept_, .ref h0_tape, .int taped_, .int at_, .int to_, .int digit_, .int number_, .ref h0_was, .ref h0_readChoices, .int readMany_, .ref h0_open, .ref h0_wayOf, .int bestThen_, .ref h0_cure, .ref h0_left, .ref h0_satIn])), (h0_tape, .inl (cyI, 240, .inl tape_))] := hD
  refine lv_aload_n hx hb dX6_sign_5 rfl (lv_at hl 0 rfl) ?_
  refine va_get (D := (dC, dI)) (ci := 6) (v := .int taped_) (C := RX6) (T := TX6) (N := 29) hx hb hts hiX6 hown hK hP 0 rfl rfl 15 (by decide) (hts (.fieldLink RX6 101 "OptionLatticeModel" "taped" "I") (by decide +kernel)) (fun _ h9 => h9) rfl dX6_sign_6 ?_
  refine lv_sipush (v := 236) hx hb dX6_sign_9 (by decide) ?_
  refine lv_icmp_le (tgt := 17) hx hb dX6_sign_12 (by decide) (fun c_ => ?_) (fun c_ => ?_)
  · have h := (if_pos c_).symm.trans h
    refine lv_iconst (v := 0) hx hb dX6_sign_17 (by decide) ?_
    refine lv_istore_n (lv' := [(2, .int 0), (0, .ref h0), (1, .int v1)]) hx hb dX6_sign_18 rfl hl (by decide) rfl (fun ls hl => ?_)
    exact L19 0 1100 0 tape_ h _ _ _ hP hD hS (lv_sub hl [1, 2, 0] rfl)
  · have h := (if_neg c_).symm.trans h
    refine lv_iconst (v := (-1)) hx hb dX6_sign_15 (by decide) ?_
    have h : some ((-1), 0, taped_, tape_) = some (rr, o0, o1, o2) := h
    have z0 := Option.some.inj h
    obtain ⟨rfl, z1⟩ := Prod.mk.inj z0
    obtain ⟨rfl, z2⟩ := Prod.mk.inj z1
    obtain ⟨rfl, z3⟩ := Prod.mk.inj z2
    obtain rfl := z3
    exact hret _ _ _ _ hP hS rfl dX6_sign_16

def m_X6_end (thrown_ : Int32) (taped_ : Int32) (v1 : Int32) : Option (Int32 × Int32 × Int32) :=
  bd1 (m_X6_in (Int32.toInt64 v1) 0 (Int32.toInt64 taped_)) (fun r_1 => (if r_1 = 0 then some (0, 0, taped_) else some (1, 0, v1)))
abbrev rmX6_end : Room := { frames := 1, cells := 0, slots := 0, locals := 25 }
set_option maxHeartbeats 4000000 in
set_option maxRecDepth 100000 in
theorem c_X6_end (l : Launch) (dC : Nat → ClassId) (dI : Nat → Nat → Nat) (cyC cyI cyJ : ClassId) (h0 h0_row h0_subjectOf h0_teacherOf h0_seatsOf h0_columnOf h0_barsOf h0_choices h0_tape h0_was h0_readChoices h0_open h0_wayOf h0_cure h0_left h0_satIn : Nat) (thrown_ : Int32) (told_ : Int32) (columns_ : Int32) (rooms_ : Int32) (many_ : Int32) (pupils_ : Int32) (kept_ : Int32) (taped_ : Int32) (at_ : Int32) (to_ : Int32) (digit_ : Int32) (number_ : Int32) (readMany_ : Int32) (bestThen_ : Int32) (v1 : Int32) (rr : Int32) (o0 : Int32) (o1 : Int32) (h : m_X6_end thrown_ taped_ v1 = some (rr, o0, o1)) : uMi l yX6_end wsX6_end rmX6_end (dC, dI) [(cyC, .char), (cyI, .int), (cyJ, .long)] [.ref h0, .int v1] [(h0, .inr (6, [.int thrown_, .int told_, .ref h0_row, .int columns_, .int rooms_, .int many_, .ref h0_subjectOf, .ref h0_teacherOf, .ref h0_seatsOf, .ref h0_columnOf, .ref h0_barsOf, .int pupils_, .ref h0_choices, .int kept_, .ref h0_tape, .int taped_, .int at_, .int to_, .int digit_, .int number_, .ref h0_was, .ref h0_readChoices, .int readMany_, .ref h0_open, .ref h0_wayOf, .int bestThen_, .ref h0_cure, .ref h0_left, .ref h0_satIn]))] [(h0, .inr (6, [.int o0, .int told_, .ref h0_row, .int columns_, .int rooms_, .int many_, .ref h0_subjectOf, .ref h0_teacherOf, .ref h0_seatsOf, .ref h0_columnOf, .ref h0_barsOf, .int pupils_, .ref h0_choices, .int kept_, .ref h0_tape, .int o1, .int at_, .int to_, .int digit_, .int number_, .ref h0_was, .ref h0_readChoices, .int readMany_, .ref h0_open, .ref h0_wayOf, .int bestThen_, .ref h0_cure, .ref h0_left, .ref h0_satIn]))] rr := by
  refine uMi.of (cc := cX6_end) (maxL := 2) (by decide) rfl (Nat.le_of_ble_eq_true rfl) (fun p e s m args below meth c A ls Q hx hb hml hown hts hA hP hK hD hE hS hl hret => ?_)
  have hown : s.vm.findClass RX6 = some m.cls := hown
  have hl : lv_has ls 2 [(0, .ref h0), (1, .int v1)] := hl
  have hiX6 : ∀ w ∈ u_ws RX6 TX6 29, w ∈ wsX6_end := fun _ h9 => List.mem_cons_of_mem _ (List.mem_append_right _ h9)
  unfold m_X6_end at h
  refine lv_aload_n hx hb dX6_end_0 rfl (lv_at hl 0 rfl) ?_
  refine lv_iconst (v := 0) hx hb dX6_end_1 (by decide) ?_
  refine va_put (D := (dC, dI)) (ci := 6) (v := .int 0) (ty := .int) (C := RX6) (T := TX6) (N := 29) hx hb hts hiX6 tyX6 tyX6_ok nmX6 hown hK hP hD hS 0 rfl rfl 0 (by decide) (hts (.fieldLink RX6 62 "OptionLatticeModel" "thrown" "I") (by decide +kernel)) (fun _ h9 => h9) rfl (by decide +kernel) rfl rfl (Nat.le_of_ble_eq_true rfl) dX6_end_2 (fun H locs hP hD hS => ?_)
  have hP : va_P (dC, dI) vwCl [(h0, .inr (6, [.int 0, .int told_, .ref h0_row, .int columns_, .int rooms_, .int many_, .ref h0_subjectOf, .ref h0_teacherOf, .ref h0_seatsOf, .ref h0_columnOf, .ref h0_barsOf, .int pupils_, .ref h0_choices, .int kept_, .ref h0_tape, .int taped_, .int at_, .int to_, .int digit_, .int number_, .ref h0_was, .ref h0_readChoices, .int readMany_, .ref h0_open, .ref h0_wayOf, .int bestThen_, .ref h0_cure, .ref h0_left, .ref h0_satIn]))] H := hP
  have hD : va_D A [(h0, .inr (6, [.int 0, .int told_, .ref h0_row, .int columns_, .int rooms_, .int many_, .ref h0_subjectOf, .ref h0_teacherOf, .ref h0_seatsOf, .ref h0_columnOf, .ref h0_barsOf, .int pupils_, .ref h0_choices, .int kept_, .ref h0_tape, .int taped_, .int at_, .int to_, .int digit_, .int number_, .ref h0_was, .ref h0_readChoices, .int readMany_, .ref h0_open, .ref h0_wayOf, .int bestThen_, .ref h0_cure, .ref h0_left, .ref h0_satIn]))] := hD
  refine lv_iload_n hx hb dX6_end_5 rfl (lv_at hl 1 rfl) ?_
  refine lv_i2l (v := (Int32.toInt64 v1)) hx hb dX6_end_6 rfl ?_
  refine lv_lconst (v := 0) hx hb dX6_end_7 (by decide) ?_
  refine lv_aload_n hx hb dX6_end_8 rfl (lv_at hl 0 rfl) ?_
  refine va_get (D := (dC, dI)) (ci := 6) (v := .int taped_) (C := RX6) (T := TX6) (N := 29) hx hb hts hiX6 hown hK hP 0 rfl rfl 15 (by decide) (hts (.fieldLink RX6 101 "OptionLatticeModel" "taped" "I") (by decide +kernel)) (fun _ h9 => h9) rfl dX6_end_9 ?_
  refine lv_i2l (v := (Int32.toInt64 taped_)) hx hb dX6_end_12 rfl ?_
  obtain ⟨r_1, hq, h⟩ := bd1_some h
  refine uS_i (As := [.long (Int32.toInt64 v1), .long 0, .long (Int32.toInt64 taped_)]) (rest := []) ⟨hx, hb, hml, hown, hts⟩ (c_X6_in l dC dI cyC cyI cyJ (Int32.toInt64 v1) 0 (Int32.toInt64 taped_) r_1 hq) (va_cwS 3 hts gX6_end_X6_in rfl rfl rfl (by decide +kernel) ⟨Nat.le_of_ble_eq_true rfl, Nat.le_of_ble_eq_true rfl⟩) hK hE hA hP hD hS [] rfl rfl rfl rfl hl.1 rfl (Nat.le_of_ble_eq_true rfl) ⟨Nat.zero_le _, Nat.zero_le _⟩ dX6_end_13 (fun H locs hP hD hS => ?_)
  have hP : va_P (dC, dI) vwCl [(h0, .inr (6, [.int 0, .int told_, .ref h0_row, .int columns_, .int rooms_, .int many_, .ref h0_subjectOf, .ref h0_teacherOf, .ref h0_seatsOf, .ref h0_columnOf, .ref h0_barsOf, .int pupils_, .ref h0_choices, .int kept_, .ref h0_tape, .int taped_, .int at_, .int to_, .int digit_, .int number_, .ref h0_was, .ref h0_readChoices, .int readMany_, .ref h0_open, .ref h0_wayOf, .int bestThen_, .ref h0_cure, .ref h0_left, .ref h0_satIn]))] H := hP
  have hD : va_D A [(h0, .inr (6, [.int 0, .int told_, .ref h0_row, .int columns_, .int rooms_, .int many_, .ref h0_subjectOf, .ref h0_teacherOf, .ref h0_seatsOf, .ref h0_columnOf, .ref h0_barsOf, .int pupils_, .ref h0_choices, .int kept_, .ref h0_tape, .int taped_, .int at_, .int to_, .int digit_, .int number_, .ref h0_was, .ref h0_readChoices, .int readMany_, .ref h0_open, .ref h0_wayOf, .int bestThen_, .ref h0_cure, .ref h0_left, .ref h0_satIn]))] := hD
  refine lv_if_ne (tgt := 21) hx hb dX6_end_16 (by decide) (fun c_ => ?_) (fun c_ => ?_)
  · have h := (if_neg c_).symm.trans h
    refine lv_aload_n hx hb dX6_end_21 rfl (lv_at hl 0 rfl) ?_
    refine lv_iload_n hx hb dX6_end_22 rfl (lv_at hl 1 rfl) ?_
    refine va_put (D := (dC, dI)) (ci := 6) (v := .int v1) (ty := .int) (C := RX6) (T := TX6) (N := 29) hx hb hts hiX6 tyX6 tyX6_ok nmX6 hown hK hP hD hS 0 rfl rfl 15 (by decide) (hts (.fieldLink RX6 101 "OptionLatticeModel" "taped" "I") (by decide +kernel)) (fun _ h9 => h9) rfl (by decide +kernel) rfl rfl (Nat.le_of_ble_eq_true rfl) dX6_end_23 (fun H locs hP hD hS => ?_)
    have hP : va_P (dC, dI) vwCl [(h0, .inr (6, [.int 0, .int told_, .ref h0_row, .int columns_, .int rooms_, .int many_, .ref h0_subjectOf, .ref h0_teacherOf, .ref h0_seatsOf, .ref h0_columnOf, .ref h0_barsOf, .int pupils_, .ref h0_choices, .int kept_, .ref h0_tape, .int v1, .int at_, .int to_, .int digit_, .int number_, .ref h0_was, .ref h0_readChoices, .int readMany_, .ref h0_open, .ref h0_wayOf, .int bestThen_, .ref h0_cure, .ref h0_left, .ref h0_satIn]))] H := hP
    have hD : va_D A [(h0, .inr (6, [.int 0, .int told_, .ref h0_row, .int columns_, .int rooms_, .int many_, .ref h0_subjectOf, .ref h0_teacherOf, .ref h0_seatsOf, .ref h0_columnOf, .ref h0_barsOf, .int pupils_, .ref h0_choices, .int kept_, .ref h0_tape, .int v1, .int at_, .int to_, .int digit_, .int number_, .ref h0_was, .ref h0_readChoices, .int readMany_, .ref h0_open, .ref h0_wayOf, .int bestThen_, .ref h0_cure, .ref h0_left, .ref h0_satIn]))] := hD
    refine lv_iconst (v := 1) hx hb dX6_end_26 (by decide) ?_
    have h : some (1, 0, v1) = some (rr, o0, o1) := h
    have z0 := Option.some.inj h
    obtain ⟨rfl, z1⟩ := Prod.mk.inj z0
    obtain ⟨rfl, z2⟩ := Prod.mk.inj z1
    obtain rfl := z2
    exact hret _ _ _ _ hP hS rfl dX6_end_27
  · have h := (if_pos c_).symm.trans h
    refine lv_iconst (v := 0) hx hb dX6_end_19 (by decide) ?_
    have h : some (0, 0, taped_) = some (rr, o0, o1) := h
    have z0 := Option.some.inj h
    obtain ⟨rfl, z1⟩ := Prod.mk.inj z0
    obtain ⟨rfl, z2⟩ := Prod.mk.inj z1
    obtain rfl := z2
    exact hret _ _ _ _ hP hS rfl dX6_end_20

def m_X6_reads (taped_ : Int32) (at_ : Int32) (to_ : Int32) : Option (Int32 × Int32 × Int32) :=
  some (0, 0, taped_)
abbrev rmX6_reads : Room := { frames := 0, cells := 0, slots := 0, locals := 0 }
set_option maxHeartbeats 4000000 in
set_option maxRecDepth 100000 in
theorem c_X6_reads (l : Launch) (dC : Nat → ClassId) (dI : Nat → Nat → Nat) (cyC cyI cyJ : ClassId) (h0 h0_row h0_subjectOf h0_teacherOf h0_seatsOf h0_columnOf h0_barsOf h0_choices h0_tape h0_was h0_readChoices h0_open h0_wayOf h0_cure h0_left h0_satIn : Nat) (thrown_ : Int32) (told_ : Int32) (columns_ : Int32) (rooms_ : Int32) (many_ : Int32) (pupils_ : Int32) (kept_ : Int32) (taped_ : Int32) (at_ : Int32) (to_ : Int32) (digit_ : Int32) (number_ : Int32) (readMany_ : Int32) (bestThen_ : Int32) (o0 : Int32) (o1 : Int32) (o2 : Int32) (h : m_X6_reads taped_ at_ to_ = some (o0, o1, o2)) : uMv l yX6_reads wsX6_reads rmX6_reads (dC, dI) [(cyC, .char), (cyI, .int), (cyJ, .long)] [.ref h0] [(h0, .inr (6, [.int thrown_, .int told_, .ref h0_row, .int columns_, .int rooms_, .int many_, .ref h0_subjectOf, .ref h0_teacherOf, .ref h0_seatsOf, .ref h0_columnOf, .ref h0_barsOf, .int pupils_, .ref h0_choices, .int kept_, .ref h0_tape, .int taped_, .int at_, .int to_, .int digit_, .int number_, .ref h0_was, .ref h0_readChoices, .int readMany_, .ref h0_open, .ref h0_wayOf, .int bestThen_, .ref h0_cure, .ref h0_left, .ref h0_satIn]))] [(h0, .inr (6, [.int thrown_, .int told_, .ref h0_row, .int columns_, .int rooms_, .int many_, .ref h0_subjectOf, .ref h0_teacherOf, .ref h0_seatsOf, .ref h0_columnOf, .ref h0_barsOf, .int pupils_, .ref h0_choices, .int kept_, .ref h0_tape, .int o0, .int o1, .int o2, .int digit_, .int number_, .ref h0_was, .ref h0_readChoices, .int readMany_, .ref h0_open, .ref h0_wayOf, .int bestThen_, .ref h0_cure, .ref h0_left, .ref h0_satIn]))] := by
  refine uMv.of (cc := cX6_reads) (maxL := 1) (by decide) rfl (Nat.le_of_ble_eq_true rfl) (fun p e s m args below meth c A ls Q hx hb hml hown hts hA hP hK hD hE hS hl hret => ?_)
  have hown : s.vm.findClass RX6 = some m.cls := hown
  have hl : lv_has ls 1 [(0, .ref h0)] := hl
  have hiX6 : ∀ w ∈ u_ws RX6 TX6 29, w ∈ wsX6_reads := fun _ h9 => List.mem_cons_of_mem _ (List.mem_append_right _ h9)
  unfold m_X6_reads at h
  refine lv_aload_n hx hb dX6_reads_0 rfl (lv_at hl 0 rfl) ?_
  refine lv_aload_n hx hb dX6_reads_1 rfl (lv_at hl 0 rfl) ?_
  refine va_get (D := (dC, dI)) (ci := 6) (v := .int taped_) (C := RX6) (T := TX6) (N := 29) hx hb hts hiX6 hown hK hP 0 rfl rfl 15 (by decide) (hts (.fieldLink RX6 101 "OptionLatticeModel" "taped" "I") (by decide +kernel)) (fun _ h9 => h9) rfl dX6_reads_2 ?_
  refine va_put (D := (dC, dI)) (ci := 6) (v := .int taped_) (ty := .int) (C := RX6) (T := TX6) (N := 29) hx hb hts hiX6 tyX6 tyX6_ok nmX6 hown hK hP hD hS 0 rfl rfl 17 (by decide) (hts (.fieldLink RX6 104 "OptionLatticeModel" "to" "I") (by decide +kernel)) (fun _ h9 => h9) rfl (by decide +kernel) rfl rfl (Nat.le_of_ble_eq_true rfl) dX6_reads_5 (fun H locs hP hD hS => ?_)
  have hP : va_P (dC, dI) vwCl [(h0, .inr (6, [.int thrown_, .int told_, .ref h0_row, .int columns_, .int rooms_, .int many_, .ref h0_subjectOf, .ref h0_teacherOf, .ref h0_seatsOf, .ref h0_columnOf, .ref h0_barsOf, .int pupils_, .ref h0_choices, .int kept_, .ref h0_tape, .int taped_, .int at_, .int taped_, .int digit_, .int number_, .ref h0_was, .ref h0_readChoices, .int readMany_, .ref h0_open, .ref h0_wayOf, .int bestThen_, .ref h0_cure, .ref h0_left, .ref h0_satIn]))] H := hP
  have hD : va_D A [(h0, .inr (6, [.int thrown_, .int told_, .ref h0_row, .int columns_, .int rooms_, .int many_, .ref h0_subjectOf, .ref h0_teacherOf, .ref h0_seatsOf, .ref h0_columnOf, .ref h0_barsOf, .int pupils_, .ref h0_choices, .int kept_, .ref h0_tape, .int taped_, .int at_, .int taped_, .int digit_, .int number_, .ref h0_was, .ref h0_readChoices, .int readMany_, .ref h0_open, .ref h0_wayOf, .int bestThen_, .ref h0_cure, .ref h0_left, .ref h0_satIn]))] := hD
  refine lv_aload_n hx hb dX6_reads_8 rfl (lv_at hl 0 rfl) ?_
  refine lv_iconst (v := 0) hx hb dX6_reads_9 (by decide) ?_
  refine va_put (D := (dC, dI)) (ci := 6) (v := .int 0) (ty := .int) (C := RX6) (T := TX6) (N := 29) hx hb hts hiX6 tyX6 tyX6_ok nmX6 hown hK hP hD hS 0 rfl rfl 15 (by decide) (hts (.fieldLink RX6 101 "OptionLatticeModel" "taped" "I") (by decide +kernel)) (fun _ h9 => h9) rfl (by decide +kernel) rfl rfl (Nat.le_of_ble_eq_true rfl) dX6_reads_10 (fun H locs hP hD hS => ?_)
  have hP : va_P (dC, dI) vwCl [(h0, .inr (6, [.int thrown_, .int told_, .ref h0_row, .int columns_, .int rooms_, .int many_, .ref h0_subjectOf, .ref h0_teacherOf, .ref h0_seatsOf, .ref h0_columnOf, .ref h0_barsOf, .int pupils_, .ref h0_choices, .int kept_, .ref h0_tape, .int 0, .int at_, .int taped_, .int digit_, .int number_, .ref h0_was, .ref h0_readChoices, .int readMany_, .ref h0_open, .ref h0_wayOf, .int bestThen_, .ref h0_cure, .ref h0_left, .ref h0_satIn]))] H := hP
  have hD : va_D A [(h0, .inr (6, [.int thrown_, .int told_, .ref h0_row, .int columns_, .int rooms_, .int many_, .ref h0_subjectOf, .ref h0_teacherOf, .ref h0_seatsOf, .ref h0_columnOf, .ref h0_barsOf, .int pupils_, .ref h0_choices, .int kept_, .ref h0_tape, .int 0, .int at_, .int taped_, .int digit_, .int number_, .ref h0_was, .ref h0_readChoices, .int readMany_, .ref h0_open, .ref h0_wayOf, .int bestThen_, .ref h0_cure, .ref h0_left, .ref h0_satIn]))] := hD
  refine lv_aload_n hx hb dX6_reads_13 rfl (lv_at hl 0 rfl) ?_
  refine lv_iconst (v := 0) hx hb dX6_reads_14 (by decide) ?_
  refine va_put (D := (dC, dI)) (ci := 6) (v := .int 0) (ty := .int) (C := RX6) (T := TX6) (N := 29) hx hb hts hiX6 tyX6 tyX6_ok nmX6 hown hK hP hD hS 0 rfl rfl 16 (by decide) (hts (.fieldLink RX6 107 "OptionLatticeModel" "at" "I") (by decide +kernel)) (fun _ h9 => h9) rfl (by decide +kernel) rfl rfl (Nat.le_of_ble_eq_true rfl) dX6_reads_15 (fun H locs hP hD hS => ?_)
  have hP : va_P (dC, dI) vwCl [(h0, .inr (6, [.int thrown_, .int told_, .ref h0_row, .int columns_, .int rooms_, .int many_, .ref h0_subjectOf, .ref h0_teacherOf, .ref h0_seatsOf, .ref h0_columnOf, .ref h0_barsOf, .int pupils_, .ref h0_choices, .int kept_, .ref h0_tape, .int 0, .int 0, .int taped_, .int digit_, .int number_, .ref h0_was, .ref h0_readChoices, .int readMany_, .ref h0_open, .ref h0_wayOf, .int bestThen_, .ref h0_cure, .ref h0_left, .ref h0_satIn]))] H := hP
  have hD : va_D A [(h0, .inr (6, [.int thrown_, .int told_, .ref h0_row, .int columns_, .int rooms_, .int many_, .ref h0_subjectOf, .ref h0_teacherOf, .ref h0_seatsOf, .ref h0_columnOf, .ref h0_barsOf, .int pupils_, .ref h0_choices, .int kept_, .ref h0_tape, .int 0, .int 0, .int taped_, .int digit_, .int number_, .ref h0_was, .ref h0_readChoices, .int readMany_, .ref h0_open, .ref h0_wayOf, .int bestThen_, .ref h0_cure, .ref h0_left, .ref h0_satIn]))] := hD
  have h : some (0, 0, taped_) = some (o0, o1, o2) := h
  have z0 := Option.some.inj h
  obtain ⟨rfl, z1⟩ := Prod.mk.inj z0
  obtain ⟨rfl, z2⟩ := Prod.mk.inj z1
  obtain rfl := z2
  exact hret _ _ _ _ hP hS dX6_reads_18

def m_X6_passes (at_ : Int32) (to_ : Int32) (tape_ : Nat → Int32) (v1 : Int32) : Option (Int32 × Int32) :=
  (if to_ ≤ at_ then some (0, at_) else gd (inb at_ 240) ((if (tape_ at_.toNatClampNeg) = v1 then lt' (at_ + 1) (fun w_1 => some (1, w_1)) else some (0, at_))))
abbrev rmX6_passes : Room := { frames := 0, cells := 0, slots := 0, locals := 0 }
set_option maxHeartbeats 4000000 in
set_option maxRecDepth 100000 in
theorem c_X6_passes (l : Launch) (dC : Nat → ClassId) (dI : Nat → Nat → Nat) (cyC cyI cyJ : ClassId) (h0 h0_row h0_subjectOf h0_teacherOf h0_seatsOf h0_columnOf h0_barsOf h0_choices h0_tape h0_was h0_readChoices h0_open h0_wayOf h0_cure h0_left h0_satIn : Nat) (thrown_ : Int32) (told_ : Int32) (columns_ : Int32) (rooms_ : Int32) (many_ : Int32) (pupils_ : Int32) (kept_ : Int32) (taped_ : Int32) (at_ : Int32) (to_ : Int32) (digit_ : Int32) (number_ : Int32) (readMany_ : Int32) (bestThen_ : Int32) (tape_ : Nat → Int32) (v1 : Int32) (rr : Int32) (o0 : Int32) (h : m_X6_passes at_ to_ tape_ v1 = some (rr, o0)) : uMi l yX6_passes wsX6_passes rmX6_passes (dC, dI) [(cyC, .char), (cyI, .int), (cyJ, .long)] [.ref h0, .int v1] [(h0, .inr (6, [.int thrown_, .int told_, .ref h0_row, .int columns_, .int rooms_, .int many_, .ref h0_subjectOf, .ref h0_teacherOf, .ref h0_seatsOf, .ref h0_columnOf, .ref h0_barsOf, .int pupils_, .ref h0_choices, .int kept_, .ref h0_tape, .int taped_, .int at_, .int to_, .int digit_, .int number_, .ref h0_was, .ref h0_readChoices, .int readMany_, .ref h0_open, .ref h0_wayOf, .int bestThen_, .ref h0_cure, .ref h0_left, .ref h0_satIn])), (h0_tape, .inl (cyI, 240, .inl tape_))] [(h0, .inr (6, [.int thrown_, .int told_, .ref h0_row, .int columns_, .int rooms_, .int many_, .ref h0_subjectOf, .ref h0_teacherOf, .ref h0_seatsOf, .ref h0_columnOf, .ref h0_barsOf, .int pupils_, .ref h0_choices, .int kept_, .ref h0_tape, .int taped_, .int o0, .int to_, .int digit_, .int number_, .ref h0_was, .ref h0_readChoices, .int readMany_, .ref h0_open, .ref h0_wayOf, .int bestThen_, .ref h0_cure, .ref h0_left, .ref h0_satIn])), (h0_tape, .inl (cyI, 240, .inl tape_))] rr := by
  refine uMi.of (cc := cX6_passes) (maxL := 2) (by decide) rfl (Nat.le_of_ble_eq_true rfl) (fun p e s m args below meth c A ls Q hx hb hml hown hts hA hP hK hD hE hS hl hret => ?_)
  have hown : s.vm.findClass RX6 = some m.cls := hown
  have hl : lv_has ls 2 [(0, .ref h0), (1, .int v1)] := hl
  have hiX6 : ∀ w ∈ u_ws RX6 TX6 29, w ∈ wsX6_passes := fun _ h9 => List.mem_cons_of_mem _ (List.mem_append_right _ h9)
  unfold m_X6_passes at h
  refine lv_aload_n hx hb dX6_passes_0 rfl (lv_at hl 0 rfl) ?_
  refine va_get (D := (dC, dI)) (ci := 6) (v := .int at_) (C := RX6) (T := TX6) (N := 29) hx hb hts hiX6 hown hK hP 0 rfl rfl 16 (by decide) (hts (.fieldLink RX6 107 "OptionLatticeModel" "at" "I") (by decide +kernel)) (fun _ h9 => h9) rfl dX6_passes_1 ?_
  refine lv_aload_n hx hb dX6_passes_4 rfl (lv_at hl 0 rfl) ?_
  refine va_get (D := (dC, dI)) (ci := 6) (v := .int to_) (C := RX6) (T := TX6) (N := 29) hx hb hts hiX6 hown hK hP 0 rfl rfl 17 (by decide) (hts (.fieldLink RX6 104 "OptionLatticeModel" "to" "I") (by decide +kernel)) (fun _ h9 => h9) rfl dX6_passes_5 ?_
  refine lv_icmp_ge (tgt := 24) hx hb dX6_passes_8 (by decide) (fun c_ => ?_) (fun c_ => ?_)
  · have h := (if_pos c_).symm.trans h
    refine lv_iconst (v := 0) hx hb dX6_passes_24 (by decide) ?_
    have h : some (0, at_) = some (rr, o0) := h
    have z0 := Option.some.inj h
    obtain ⟨rfl, z1⟩ := Prod.mk.inj z0
    obtain rfl := z1
    exact hret _ _ _ _ hP hS rfl dX6_passes_25
  · have h := (if_neg c_).symm.trans h
    refine lv_aload_n hx hb dX6_passes_11 rfl (lv_at hl 0 rfl) ?_
    refine va_get (D := (dC, dI)) (ci := 6) (v := .ref h0_tape) (C := RX6) (T := TX6) (N := 29) hx hb hts hiX6 hown hK hP 0 rfl rfl 14 (by decide) (hts (.fieldLink RX6 38 "OptionLatticeModel" "tape" "[I") (by decide +kernel)) (fun _ h9 => h9) rfl dX6_passes_12 ?_
    refine lv_aload_n hx hb dX6_passes_15 rfl (lv_at hl 0 rfl) ?_
    refine va_get (D := (dC, dI)) (ci := 6) (v := .int at_) (C := RX6) (T := TX6) (N := 29) hx hb hts hiX6 hown hK hP 0 rfl rfl 16 (by decide) (hts (.fieldLink RX6 107 "OptionLatticeModel" "at" "I") (by decide +kernel)) (fun _ h9 => h9) rfl dX6_passes_16 ?_
    obtain ⟨g_, h⟩ := gd_some h
    refine va_iald hx hb hK hP 1 1 rfl rfl (inb_in g_) dX6_passes_19 ?_
    refine lv_iload_n hx hb dX6_passes_20 rfl (lv_at hl 1 rfl) ?_
    refine lv_icmp_eq (tgt := 26) hx hb dX6_passes_21 (by decide) (fun c_ => ?_) (fun c_ => ?_)
    · have h := (if_pos c_).symm.trans h
      refine lv_aload_n hx hb dX6_passes_26 rfl (lv_at hl 0 rfl) ?_
      refine lv_dup hx hb dX6_passes_27 rfl ?_
      refine va_get (D := (dC, dI)) (ci := 6) (v := .int at_) (C := RX6) (T := TX6) (N := 29) hx hb hts hiX6 hown hK hP 0 rfl rfl 16 (by decide) (hts (.fieldLink RX6 107 "OptionLatticeModel" "at" "I") (by decide +kernel)) (fun _ h9 => h9) rfl dX6_passes_28 ?_
      refine lv_iconst (v := 1) hx hb dX6_passes_31 (by decide) ?_
      refine lv_iadd hx hb dX6_passes_32 ?_
      refine lv_topi (fun w_1 e_w_1 => ?_)
      have h := lt_use e_w_1 h
      refine va_put (D := (dC, dI)) (ci := 6) (v := .int w_1) (ty := .int) (C := RX6) (T := TX6) (N := 29) hx hb hts hiX6 tyX6 tyX6_ok nmX6 hown hK hP hD hS 0 rfl rfl 16 (by decide) (hts (.fieldLink RX6 107 "OptionLatticeModel" "at" "I") (by decide +kernel)) (fun _ h9 => h9) rfl (by decide +kernel) rfl rfl (Nat.le_of_ble_eq_true rfl) dX6_passes_33 (fun H locs hP hD hS => ?_)
      have hP : va_P (dC, dI) vwCl [(h0, .inr (6, [.int thrown_, .int told_, .ref h0_row, .int columns_, .int rooms_, .int many_, .ref h0_subjectOf, .ref h0_teacherOf, .ref h0_seatsOf, .ref h0_columnOf, .ref h0_barsOf, .int pupils_, .ref h0_choices, .int kept_, .ref h0_tape, .int taped_, .int w_1, .int to_, .int digit_, .int number_, .ref h0_was, .ref h0_readChoices, .int readMany_, .ref h0_open, .ref h0_wayOf, .int bestThen_, .ref h0_cure, .ref h0_left, .ref h0_satIn])), (h0_tape, .inl (cyI, 240, .inl tape_))] H := hP
      have hD : va_D A [(h0, .inr (6, [.int thrown_, .int told_, .ref h0_row, .int columns_, .int rooms_, .int many_, .ref h0_subjectOf, .ref h0_teacherOf, .ref h0_seatsOf, .ref h0_columnOf, .ref h0_barsOf, .int pupils_, .ref h0_choices, .int kept_, .ref h0_tape, .int taped_, .int w_1, .int to_, .int digit_, .int number_, .ref h0_was, .ref h0_readChoices, .int readMany_, .ref h0_open, .ref h0_wayOf, .int bestThen_, .ref h0_cure, .ref h0_left, .ref h0_satIn])), (h0_tape, .inl (cyI, 240, .inl tape_))] := hD
      refine lv_iconst (v := 1) hx hb dX6_passes_36 (by decide) ?_
      have h : some (1, w_1) = some (rr, o0) := h
      have z0 := Option.some.inj h
      obtain ⟨rfl, z1⟩ := Prod.mk.inj z0
      obtain rfl := z1
      exact hret _ _ _ _ hP hS rfl dX6_passes_37
    · have h := (if_neg c_).symm.trans h
      refine lv_iconst (v := 0) hx hb dX6_passes_24 (by decide) ?_
      have h : some (0, at_) = some (rr, o0) := h
      have z0 := Option.some.inj h
      obtain ⟨rfl, z1⟩ := Prod.mk.inj z0
      obtain rfl := z1
      exact hret _ _ _ _ hP hS rfl dX6_passes_25

def m_X6_takesDigit (at_ : Int32) (to_ : Int32) (digit_ : Int32) (tape_ : Nat → Int32) (v1 : Int32) (v2 : Int32) : Option (Int32 × Int32 × Int32) :=
  (if to_ ≤ at_ then some (0, at_, digit_) else gd (inb at_ 240) (bd1 (m_X6_in (Int32.toInt64 ((tape_ at_.toNatClampNeg) - 48)) (Int32.toInt64 v1) (Int32.toInt64 v2)) (fun r_1 => (if r_1 = 0 then some (0, at_, digit_) else gd (inb at_ 240) (lt' ((tape_ at_.toNatClampNeg) - 48) (fun w_2 => lt' (at_ + 1) (fun w_3 => some (1, w_3, w_2))))))))
abbrev rmX6_takesDigit : Room := { frames := 1, cells := 0, slots := 0, locals := 25 }
set_option maxHeartbeats 4000000 in
set_option maxRecDepth 100000 in
theorem c_X6_takesDigit (l : Launch) (dC : Nat → ClassId) (dI : Nat → Nat → Nat) (cyC cyI cyJ : ClassId) (h0 h0_row h0_subjectOf h0_teacherOf h0_seatsOf h0_columnOf h0_barsOf h0_choices h0_tape h0_was h0_readChoices h0_open h0_wayOf h0_cure h0_left h0_satIn : Nat) (thrown_ : Int32) (told_ : Int32) (columns_ : Int32) (rooms_ : Int32) (many_ : Int32) (pupils_ : Int32) (kept_ : Int32) (taped_ : Int32) (at_ : Int32) (to_ : Int32) (digit_ : Int32) (number_ : Int32) (readMany_ : Int32) (bestThen_ : Int32) (tape_ : Nat → Int32) (v1 : Int32) (v2 : Int32) (rr : Int32) (o0 : Int32) (o1 : Int32) (h : m_X6_takesDigit at_ to_ digit_ tape_ v1 v2 = some (rr, o0, o1)) : uMi l yX6_takesDigit wsX6_takesDigit rmX6_takesDigit (dC, dI) [(cyC, .char), (cyI, .int), (cyJ, .long)] [.ref h0, .int v1, .int v2] [(h0, .inr (6, [.int thrown_, .int told_, .ref h0_row, .int columns_, .int rooms_, .int many_, .ref h0_subjectOf, .ref h0_teacherOf, .ref h0_seatsOf, .ref h0_columnOf, .ref h0_barsOf, .int pupils_, .ref h0_choices, .int kept_, .ref h0_tape, .int taped_, .int at_, .int to_, .int digit_, .int number_, .ref h0_was, .ref h0_readChoices, .int readMany_, .ref h0_open, .ref h0_wayOf, .int bestThen_, .ref h0_cure, .ref h0_left, .ref h0_satIn])), (h0_tape, .inl (cyI, 240, .inl tape_))] [(h0, .inr (6, [.int thrown_, .int told_, .ref h0_row, .int columns_, .int rooms_, .int many_, .ref h0_subjectOf, .ref h0_teacherOf, .ref h0_seatsOf, .ref h0_columnOf, .ref h0_barsOf, .int pupils_, .ref h0_choices, .int kept_, .ref h0_tape, .int taped_, .int o0, .int to_, .int o1, .int number_, .ref h0_was, .ref h0_readChoices, .int readMany_, .ref h0_open, .ref h0_wayOf, .int bestThen_, .ref h0_cure, .ref h0_left, .ref h0_satIn])), (h0_tape, .inl (cyI, 240, .inl tape_))] rr := by
  refine uMi.of (cc := cX6_takesDigit) (maxL := 3) (by decide) rfl (Nat.le_of_ble_eq_true rfl) (fun p e s m args below meth c A ls Q hx hb hml hown hts hA hP hK hD hE hS hl hret => ?_)
  have hown : s.vm.findClass RX6 = some m.cls := hown
  have hl : lv_has ls 3 [(0, .ref h0), (1, .int v1), (2, .int v2)] := hl
  have hiX6 : ∀ w ∈ u_ws RX6 TX6 29, w ∈ wsX6_takesDigit := fun _ h9 => List.mem_cons_of_mem _ (List.mem_append_right _ h9)
  unfold m_X6_takesDigit at h
  refine lv_aload_n hx hb dX6_takesDigit_0 rfl (lv_at hl 0 rfl) ?_
  refine va_get (D := (dC, dI)) (ci := 6) (v := .int at_) (C := RX6) (T := TX6) (N := 29) hx hb hts hiX6 hown hK hP 0 rfl rfl 16 (by decide) (hts (.fieldLink RX6 107 "OptionLatticeModel" "at" "I") (by decide +kernel)) (fun _ h9 => h9) rfl dX6_takesDigit_1 ?_
  refine lv_aload_n hx hb dX6_takesDigit_4 rfl (lv_at hl 0 rfl) ?_
  refine va_get (D := (dC, dI)) (ci := 6) (v := .int to_) (C := RX6) (T := TX6) (N := 29) hx hb hts hiX6 hown hK hP 0 rfl rfl 17 (by decide) (hts (.fieldLink RX6 104 "OptionLatticeModel" "to" "I") (by decide +kernel)) (fun _ h9 => h9) rfl dX6_takesDigit_5 ?_
  refine lv_icmp_ge (tgt := 34) hx hb dX6_takesDigit_8 (by decide) (fun c_ => ?_) (fun c_ => ?_)
  · have h := (if_pos c_).symm.trans h
    refine lv_iconst (v := 0) hx hb dX6_takesDigit_34 (by decide) ?_
    have h : some (0, at_, digit_) = some (rr, o0, o1) := h
    have z0 := Option.some.inj h
    obtain ⟨rfl, z1⟩ := Prod.mk.inj z0
    obtain ⟨rfl, z2⟩ := Prod.mk.inj z1
    obtain rfl := z2
    exact hret _ _ _ _ hP hS rfl dX6_takesDigit_35
  · have h := (if_neg c_).symm.trans h
    refine lv_aload_n hx hb dX6_takesDigit_11 rfl (lv_at hl 0 rfl) ?_
    refine va_get (D := (dC, dI)) (ci := 6) (v := .ref h0_tape) (C := RX6) (T := TX6) (N := 29) hx hb hts hiX6 hown hK hP 0 rfl rfl 14 (by decide) (hts (.fieldLink RX6 38 "OptionLatticeModel" "tape" "[I") (by decide +kernel)) (fun _ h9 => h9) rfl dX6_takesDigit_12 ?_
    refine lv_aload_n hx hb dX6_takesDigit_15 rfl (lv_at hl 0 rfl) ?_
    refine va_get (D := (dC, dI)) (ci := 6) (v := .int at_) (C := RX6) (T := TX6) (N := 29) hx hb hts hiX6 hown hK hP 0 rfl rfl 16 (by decide) (hts (.fieldLink RX6 107 "OptionLatticeModel" "at" "I") (by decide +kernel)) (fun _ h9 => h9) rfl dX6_takesDigit_16 ?_
    obtain ⟨g_, h⟩ := gd_some h
    refine va_iald hx hb hK hP 1 1 rfl rfl (inb_in g_) dX6_takesDigit_19 ?_
    refine lv_bipush (v := 48) hx hb dX6_takesDigit_20 (by decide) ?_
    refine lv_isub hx hb dX6_takesDigit_22 ?_
    refine lv_i2l (v := (Int32.toInt64 ((tape_ at_.toNatClampNeg) - 48))) hx hb dX6_takesDigit_23 rfl ?_
    refine lv_iload_n hx hb dX6_takesDigit_24 rfl (lv_at hl 1 rfl) ?_
    refine lv_i2l (v := (Int32.toInt64 v1)) hx hb dX6_takesDigit_25 rfl ?_
    refine lv_iload_n hx hb dX6_takesDigit_26 rfl (lv_at hl 2 rfl) ?_
    refine lv_i2l (v := (Int32.toInt64 v2)) hx hb dX6_takesDigit_27 rfl ?_
    obtain ⟨r_1, hq, h⟩ := bd1_some h
    refine uS_i (As := [.long (Int32.toInt64 ((tape_ at_.toNatClampNeg) - 48)), .long (Int32.toInt64 v1), .long (Int32.toInt64 v2)]) (rest := []) ⟨hx, hb, hml, hown, hts⟩ (c_X6_in l dC dI cyC cyI cyJ (Int32.toInt64 ((tape_ at_.toNatClampNeg) - 48)) (Int32.toInt64 v1) (Int32.toInt64 v2) r_1 hq) (va_cwS 3 hts gX6_takesDigit_X6_in rfl rfl rfl (by decide +kernel) ⟨Nat.le_of_ble_eq_true rfl, Nat.le_of_ble_eq_true rfl⟩) hK hE hA hP hD hS [] rfl rfl rfl rfl hl.1 rfl (Nat.le_of_ble_eq_true rfl) ⟨Nat.zero_le _, Nat.zero_le _⟩ dX6_takesDigit_28 (fun H locs hP hD hS => ?_)
    have hP : va_P (dC, dI) vwCl [(h0, .inr (6, [.int thrown_, .int told_, .ref h0_row, .int columns_, .int rooms_, .int many_, .ref h0_subjectOf, .ref h0_teacherOf, .ref h0_seatsOf, .ref h0_columnOf, .ref h0_barsOf, .int pupils_, .ref h0_choices, .int kept_, .ref h0_tape, .int taped_, .int at_, .int to_, .int digit_, .int number_, .ref h0_was, .ref h0_readChoices, .int readMany_, .ref h0_open, .ref h0_wayOf, .int bestThen_, .ref h0_cure, .ref h0_left, .ref h0_satIn])), (h0_tape, .inl (cyI, 240, .inl tape_))] H := hP
    have hD : va_D A [(h0, .inr (6, [.int thrown_, .int told_, .ref h0_row, .int columns_, .int rooms_, .int many_, .ref h0_subjectOf, .ref h0_teacherOf, .ref h0_seatsOf, .ref h0_columnOf, .ref h0_barsOf, .int pupils_, .ref h0_choices, .int kept_, .ref h0_tape, .int taped_, .int at_, .int to_, .int digit_, .int number_, .ref h0_was, .ref h0_readChoices, .int readMany_, .ref h0_open, .ref h0_wayOf, .int bestThen_, .ref h0_cure, .ref h0_left, .ref h0_satIn])), (h0_tape, .inl (cyI, 240, .inl tape_))] := hD
    refine lv_if_ne (tgt := 36) hx hb dX6_takesDigit_31 (by decide) (fun c_ => ?_) (fun c_ => ?_)
    · have h := (if_neg c_).symm.trans h
      refine lv_aload_n hx hb dX6_takesDigit_36 rfl (lv_at hl 0 rfl) ?_
      refine lv_aload_n hx hb dX6_takesDigit_37 rfl (lv_at hl 0 rfl) ?_
      refine va_get (D := (dC, dI)) (ci := 6) (v := .ref h0_tape) (C := RX6) (T := TX6) (N := 29) hx hb hts hiX6 hown hK hP 0 rfl rfl 14 (by decide) (hts (.fieldLink RX6 38 "OptionLatticeModel" "tape" "[I") (by decide +kernel)) (fun _ h9 => h9) rfl dX6_takesDigit_38 ?_
      refine lv_aload_n hx hb dX6_takesDigit_41 rfl (lv_at hl 0 rfl) ?_
      refine va_get (D := (dC, dI)) (ci := 6) (v := .int at_) (C := RX6) (T := TX6) (N := 29) hx hb hts hiX6 hown hK hP 0 rfl rfl 16 (by decide) (hts (.fieldLink RX6 107 "OptionLatticeModel" "at" "I") (by decide +kernel)) (fun _ h9 => h9) rfl dX6_takesDigit_42 ?_
      obtain ⟨g_, h⟩ := gd_some h
      refine va_iald hx hb hK hP 1 1 rfl rfl (inb_in g_) dX6_takesDigit_45 ?_
      refine lv_bipush (v := 48) hx hb dX6_takesDigit_46 (by decide) ?_
      refine lv_isub hx hb dX6_takesDigit_48 ?_
      refine lv_topi (fun w_2 e_w_2 => ?_)
      have h := lt_use e_w_2 h
      refine va_put (D := (dC, dI)) (ci := 6) (v := .int w_2) (ty := .int) (C := RX6) (T := TX6) (N := 29) hx hb hts hiX6 tyX6 tyX6_ok nmX6 hown hK hP hD hS 0 rfl rfl 18 (by decide) (hts (.fieldLink RX6 110 "OptionLatticeModel" "digit" "I") (by decide +kernel)) (fun _ h9 => h9) rfl (by decide +kernel) rfl rfl (Nat.le_of_ble_eq_true rfl) dX6_takesDigit_49 (fun H locs hP hD hS => ?_)
      have hP : va_P (dC, dI) vwCl [(h0, .inr (6, [.int thrown_, .int told_, .ref h0_row, .int columns_, .int rooms_, .int many_, .ref h0_subjectOf, .ref h0_teacherOf, .ref h0_seatsOf, .ref h0_columnOf, .ref h0_barsOf, .int pupils_, .ref h0_choices, .int kept_, .ref h0_tape, .int taped_, .int at_, .int to_, .int w_2, .int number_, .ref h0_was, .ref h0_readChoices, .int readMany_, .ref h0_open, .ref h0_wayOf, .int bestThen_, .ref h0_cure, .ref h0_left, .ref h0_satIn])), (h0_tape, .inl (cyI, 240, .inl tape_))] H := hP
      have hD : va_D A [(h0, .inr (6, [.int thrown_, .int told_, .ref h0_row, .int columns_, .int rooms_, .int many_, .ref h0_subjectOf, .ref h0_teacherOf, .ref h0_seatsOf, .ref h0_columnOf, .ref h0_barsOf, .int pupils_, .ref h0_choices, .int kept_, .ref h0_tape, .int taped_, .int at_, .int to_, .int w_2, .int number_, .ref h0_was, .ref h0_readChoices, .int readMany_, .ref h0_open, .ref h0_wayOf, .int bestThen_, .ref h0_cure, .ref h0_left, .ref h0_satIn])), (h0_tape, .inl (cyI, 240, .inl tape_))] := hD
      refine lv_aload_n hx hb dX6_takesDigit_52 rfl (lv_at hl 0 rfl) ?_
      refine lv_dup hx hb dX6_takesDigit_53 rfl ?_
      refine va_get (D := (dC, dI)) (ci := 6) (v := .int at_) (C := RX6) (T := TX6) (N := 29) hx hb hts hiX6 hown hK hP 0 rfl rfl 16 (by decide) (hts (.fieldLink RX6 107 "OptionLatticeModel" "at" "I") (by decide +kernel)) (fun _ h9 => h9) rfl dX6_takesDigit_54 ?_
      refine lv_iconst (v := 1) hx hb dX6_takesDigit_57 (by decide) ?_
      refine lv_iadd hx hb dX6_takesDigit_58 ?_
      refine lv_topi (fun w_3 e_w_3 => ?_)
      have h := lt_use e_w_3 h
      refine va_put (D := (dC, dI)) (ci := 6) (v := .int w_3) (ty := .int) (C := RX6) (T := TX6) (N := 29) hx hb hts hiX6 tyX6 tyX6_ok nmX6 hown hK hP hD hS 0 rfl rfl 16 (by decide) (hts (.fieldLink RX6 107 "OptionLatticeModel" "at" "I") (by decide +kernel)) (fun _ h9 => h9) rfl (by decide +kernel) rfl rfl (Nat.le_of_ble_eq_true rfl) dX6_takesDigit_59 (fun H locs hP hD hS => ?_)
      have hP : va_P (dC, dI) vwCl [(h0, .inr (6, [.int thrown_, .int told_, .ref h0_row, .int columns_, .int rooms_, .int many_, .ref h0_subjectOf, .ref h0_teacherOf, .ref h0_seatsOf, .ref h0_columnOf, .ref h0_barsOf, .int pupils_, .ref h0_choices, .int kept_, .ref h0_tape, .int taped_, .int w_3, .int to_, .int w_2, .int number_, .ref h0_was, .ref h0_readChoices, .int readMany_, .ref h0_open, .ref h0_wayOf, .int bestThen_, .ref h0_cure, .ref h0_left, .ref h0_satIn])), (h0_tape, .inl (cyI, 240, .inl tape_))] H := hP
      have hD : va_D A [(h0, .inr (6, [.int thrown_, .int told_, .ref h0_row, .int columns_, .int rooms_, .int many_, .ref h0_subjectOf, .ref h0_teacherOf, .ref h0_seatsOf, .ref h0_columnOf, .ref h0_barsOf, .int pupils_, .ref h0_choices, .int kept_, .ref h0_tape, .int taped_, .int w_3, .int to_, .int w_2, .int number_, .ref h0_was, .ref h0_readChoices, .int readMany_, .ref h0_open, .ref h0_wayOf, .int bestThen_, .ref h0_cure, .ref h0_left, .ref h0_satIn])), (h0_tape, .inl (cyI, 240, .inl tape_))] := hD
      refine lv_iconst (v := 1) hx hb dX6_takesDigit_62 (by decide) ?_
      have h : some (1, w_3, w_2) = some (rr, o0, o1) := h
      have z0 := Option.some.inj h
      obtain ⟨rfl, z1⟩ := Prod.mk.inj z0
      obtain ⟨rfl, z2⟩ := Prod.mk.inj z1
      obtain rfl := z2
      exact hret _ _ _ _ hP hS rfl dX6_takesDigit_63
    · have h := (if_pos c_).symm.trans h
      refine lv_iconst (v := 0) hx hb dX6_takesDigit_34 (by decide) ?_
      have h : some (0, at_, digit_) = some (rr, o0, o1) := h
      have z0 := Option.some.inj h
      obtain ⟨rfl, z1⟩ := Prod.mk.inj z0
      obtain ⟨rfl, z2⟩ := Prod.mk.inj z1
      obtain rfl := z2
      exact hret _ _ _ _ hP hS rfl dX6_takesDigit_35

def m_X6_isDigit (at_ : Int32) (to_ : Int32) (tape_ : Nat → Int32) : Option (Int32) :=
  (if to_ ≤ at_ then some 0 else gd (inb at_ 240) (bd1 (m_X6_in (Int32.toInt64 (tape_ at_.toNatClampNeg)) 48 57) (fun r_1 => (if r_1 = 0 then some 0 else some 1))))
abbrev rmX6_isDigit : Room := { frames := 1, cells := 0, slots := 0, locals := 25 }
set_option maxHeartbeats 4000000 in
set_option maxRecDepth 100000 in
theorem c_X6_isDigit (l : Launch) (dC : Nat → ClassId) (dI : Nat → Nat → Nat) (cyC cyI cyJ : ClassId) (h0 h0_row h0_subjectOf h0_teacherOf h0_seatsOf h0_columnOf h0_barsOf h0_choices h0_tape h0_was h0_readChoices h0_open h0_wayOf h0_cure h0_left h0_satIn : Nat) (thrown_ : Int32) (told_ : Int32) (columns_ : Int32) (rooms_ : Int32) (many_ : Int32) (pupils_ : Int32) (kept_ : Int32) (taped_ : Int32) (at_ : Int32) (to_ : Int32) (digit_ : Int32) (number_ : Int32) (readMany_ : Int32) (bestThen_ : Int32) (tape_ : Nat → Int32) (rr : Int32) (h : m_X6_isDigit at_ to_ tape_ = some rr) : uMi l yX6_isDigit wsX6_isDigit rmX6_isDigit (dC, dI) [(cyC, .char), (cyI, .int), (cyJ, .long)] [.ref h0] [(h0, .inr (6, [.int thrown_, .int told_, .ref h0_row, .int columns_, .int rooms_, .int many_, .ref h0_subjectOf, .ref h0_teacherOf, .ref h0_seatsOf, .ref h0_columnOf, .ref h0_barsOf, .int pupils_, .ref h0_choices, .int kept_, .ref h0_tape, .int taped_, .int at_, .int to_, .int digit_, .int number_, .ref h0_was, .ref h0_readChoices, .int readMany_, .ref h0_open, .ref h0_wayOf, .int bestThen_, .ref h0_cure, .ref h0_left, .ref h0_satIn])), (h0_tape, .inl (cyI, 240, .inl tape_))] [(h0, .inr (6, [.int thrown_, .int told_, .ref h0_row, .int columns_, .int rooms_, .int many_, .ref h0_subjectOf, .ref h0_teacherOf, .ref h0_seatsOf, .ref h0_columnOf, .ref h0_barsOf, .int pupils_, .ref h0_choices, .int kept_, .ref h0_tape, .int taped_, .int at_, .int to_, .int digit_, .int number_, .ref h0_was, .ref h0_readChoices, .int readMany_, .ref h0_open, .ref h0_wayOf, .int bestThen_, .ref h0_cure, .ref h0_left, .ref h0_satIn])), (h0_tape, .inl (cyI, 240, .inl tape_))] rr := by
  refine uMi.of (cc := cX6_isDigit) (maxL := 1) (by decide) rfl (Nat.le_of_ble_eq_true rfl) (fun p e s m args below meth c A ls Q hx hb hml hown hts hA hP hK hD hE hS hl hret => ?_)
  have hown : s.vm.findClass RX6 = some m.cls := hown
  have hl : lv_has ls 1 [(0, .ref h0)] := hl
  have hiX6 : ∀ w ∈ u_ws RX6 TX6 29, w ∈ wsX6_isDigit := fun _ h9 => List.mem_cons_of_mem _ (List.mem_append_right _ h9)
  unfold m_X6_isDigit at h
  refine lv_aload_n hx hb dX6_isDigit_0 rfl (lv_at hl 0 rfl) ?_
  refine va_get (D := (dC, dI)) (ci := 6) (v := .int at_) (C := RX6) (T := TX6) (N := 29) hx hb hts hiX6 hown hK hP 0 rfl rfl 16 (by decide) (hts (.fieldLink RX6 107 "OptionLatticeModel" "at" "I") (by decide +kernel)) (fun _ h9 => h9) rfl dX6_isDigit_1 ?_
  refine lv_aload_n hx hb dX6_isDigit_4 rfl (lv_at hl 0 rfl) ?_
  refine va_get (D := (dC, dI)) (ci := 6) (v := .int to_) (C := RX6) (T := TX6) (N := 29) hx hb hts hiX6 hown hK hP 0 rfl rfl 17 (by decide) (hts (.fieldLink RX6 104 "OptionLatticeModel" "to" "I") (by decide +kernel)) (fun _ h9 => h9) rfl dX6_isDigit_5 ?_
  refine lv_icmp_ge (tgt := 37) hx hb dX6_isDigit_8 (by decide) (fun c_ => ?_) (fun c_ => ?_)
  · have h := (if_pos c_).symm.trans h
    refine lv_iconst (v := 0) hx hb dX6_isDigit_37 (by decide) ?_
    have h : some 0 = some rr := h
    have z0 := Option.some.inj h
    obtain rfl := z0
    exact hret _ _ _ _ hP hS rfl dX6_isDigit_38
  · have h := (if_neg c_).symm.trans h
    refine lv_aload_n hx hb dX6_isDigit_11 rfl (lv_at hl 0 rfl) ?_
    refine va_get (D := (dC, dI)) (ci := 6) (v := .ref h0_tape) (C := RX6) (T := TX6) (N := 29) hx hb hts hiX6 hown hK hP 0 rfl rfl 14 (by decide) (hts (.fieldLink RX6 38 "OptionLatticeModel" "tape" "[I") (by decide +kernel)) (fun _ h9 => h9) rfl dX6_isDigit_12 ?_
    refine lv_aload_n hx hb dX6_isDigit_15 rfl (lv_at hl 0 rfl) ?_
    refine va_get (D := (dC, dI)) (ci := 6) (v := .int at_) (C := RX6) (T := TX6) (N := 29) hx hb hts hiX6 hown hK hP 0 rfl rfl 16 (by decide) (hts (.fieldLink RX6 107 "OptionLatticeModel" "at" "I") (by decide +kernel)) (fun _ h9 => h9) rfl dX6_isDigit_16 ?_
    obtain ⟨g_, h⟩ := gd_some h
    refine va_iald hx hb hK hP 1 1 rfl rfl (inb_in g_) dX6_isDigit_19 ?_
    refine lv_i2l (v := (Int32.toInt64 (tape_ at_.toNatClampNeg))) hx hb dX6_isDigit_20 rfl ?_
    refine lv_ldc2 hx hb hown (hts (.constantLong RX6 113 (48)) (by decide +kernel)) dX6_isDigit_21 ?_
    refine lv_ldc2 hx hb hown (hts (.constantLong RX6 115 (57)) (by decide +kernel)) dX6_isDigit_24 ?_
    obtain ⟨r_1, hq, h⟩ := bd1_some h
    refine uS_i (As := [.long (Int32.toInt64 (tape_ at_.toNatClampNeg)), .long 48, .long 57]) (rest := []) ⟨hx, hb, hml, hown, hts⟩ (c_X6_in l dC dI cyC cyI cyJ (Int32.toInt64 (tape_ at_.toNatClampNeg)) 48 57 r_1 hq) (va_cwS 3 hts gX6_isDigit_X6_in rfl rfl rfl (by decide +kernel) ⟨Nat.le_of_ble_eq_true rfl, Nat.le_of_ble_eq_true rfl⟩) hK hE hA hP hD hS [] rfl rfl rfl rfl hl.1 rfl (Nat.le_of_ble_eq_true rfl) ⟨Nat.zero_le _, Nat.zero_le _⟩ dX6_isDigit_27 (fun H locs hP hD hS => ?_)
    have hP : va_P (dC, dI) vwCl [(h0, .inr (6, [.int thrown_, .int told_, .ref h0_row, .int columns_, .int rooms_, .int many_, .ref h0_subjectOf, .ref h0_teacherOf, .ref h0_seatsOf, .ref h0_columnOf, .ref h0_barsOf, .int pupils_, .ref h0_choices, .int kept_, .ref h0_tape, .int taped_, .int at_, .int to_, .int digit_, .int number_, .ref h0_was, .ref h0_readChoices, .int readMany_, .ref h0_open, .ref h0_wayOf, .int bestThen_, .ref h0_cure, .ref h0_left, .ref h0_satIn])), (h0_tape, .inl (cyI, 240, .inl tape_))] H := hP
    have hD : va_D A [(h0, .inr (6, [.int thrown_, .int told_, .ref h0_row, .int columns_, .int rooms_, .int many_, .ref h0_subjectOf, .ref h0_teacherOf, .ref h0_seatsOf, .ref h0_columnOf, .ref h0_barsOf, .int pupils_, .ref h0_choices, .int kept_, .ref h0_tape, .int taped_, .int at_, .int to_, .int digit_, .int number_, .ref h0_was, .ref h0_readChoices, .int readMany_, .ref h0_open, .ref h0_wayOf, .int bestThen_, .ref h0_cure, .ref h0_left, .ref h0_satIn])), (h0_tape, .inl (cyI, 240, .inl tape_))] := hD
    refine lv_if_eq (tgt := 37) hx hb dX6_isDigit_30 (by decide) (fun c_ => ?_) (fun c_ => ?_)
    · have h := (if_pos c_).symm.trans h
      refine lv_iconst (v := 0) hx hb dX6_isDigit_37 (by decide) ?_
      have h : some 0 = some rr := h
      have z0 := Option.some.inj h
      obtain rfl := z0
      exact hret _ _ _ _ hP hS rfl dX6_isDigit_38
    · have h := (if_neg c_).symm.trans h
      refine lv_iconst (v := 1) hx hb dX6_isDigit_33 (by decide) ?_
      refine lv_goto (tgt := 38) hx hb dX6_isDigit_34 (by decide) ?_
      have h : some 1 = some rr := h
      have z0 := Option.some.inj h
      obtain rfl := z0
      exact hret _ _ _ _ hP hS rfl dX6_isDigit_38

def m_X6_takesSeats_72 (at_ : Int32) (to_ : Int32) (digit_ : Int32) (number_ : Int32) (tape_ : Nat → Int32) : Option (Int32 × Int32 × Int32 × Int32) :=
  bd1 (m_X6_isDigit at_ to_ tape_) (fun r_1 => (if r_1 = 0 then some (1, at_, digit_, number_) else some (0, at_, digit_, number_)))
def m_X6_takesSeats (at_ : Int32) (to_ : Int32) (digit_ : Int32) (number_ : Int32) (tape_ : Nat → Int32) : Option (Int32 × Int32 × Int32 × Int32) :=
  bd3 (m_X6_takesDigit at_ to_ digit_ tape_ 1 9) (fun r_2 at_3 digit_4 => (if r_2 = 0 then some (0, at_3, digit_4, number_) else bd1 (m_X6_isDigit at_3 to_ tape_) (fun r_5 => (if r_5 = 0 then m_X6_takesSeats_72 at_3 to_ digit_4 digit_4 tape_ else gd (inb at_3 240) (lt' ((((10 : Int32) * digit_4) + (tape_ at_3.toNatClampNeg)) - 48) (fun w_6 => (if w_6 ≤ 30 then lt' (at_3 + 1) (fun w_7 => m_X6_takesSeats_72 w_7 to_ digit_4 w_6 tape_) else some (0, at_3, digit_4, w_6))))))))
abbrev rmX6_takesSeats : Room := { frames := 2, cells := 0, slots := 0, locals := 47 }
set_option maxHeartbeats 4000000 in
set_option maxRecDepth 100000 in
theorem c_X6_takesSeats (l : Launch) (dC : Nat → ClassId) (dI : Nat → Nat → Nat) (cyC cyI cyJ : ClassId) (h0 h0_row h0_subjectOf h0_teacherOf h0_seatsOf h0_columnOf h0_barsOf h0_choices h0_tape h0_was h0_readChoices h0_open h0_wayOf h0_cure h0_left h0_satIn : Nat) (thrown_ : Int32) (told_ : Int32) (columns_ : Int32) (rooms_ : Int32) (many_ : Int32) (pupils_ : Int32) (kept_ : Int32) (taped_ : Int32) (at_ : Int32) (to_ : Int32) (digit_ : Int32) (number_ : Int32) (readMany_ : Int32) (bestThen_ : Int32) (tape_ : Nat → Int32) (rr : Int32) (o0 : Int32) (o1 : Int32) (o2 : Int32) (h : m_X6_takesSeats at_ to_ digit_ number_ tape_ = some (rr, o0, o1, o2)) : uMi l yX6_takesSeats wsX6_takesSeats rmX6_takesSeats (dC, dI) [(cyC, .char), (cyI, .int), (cyJ, .long)] [.ref h0] [(h0, .inr (6, [.int thrown_, .int told_, .ref h0_row, .int columns_, .int rooms_, .int many_, .ref h0_subjectOf, .ref h0_teacherOf, .ref h0_seatsOf, .ref h0_columnOf, .ref h0_barsOf, .int pupils_, .ref h0_choices, .int kept_, .ref h0_tape, .int taped_, .int at_, .int to_, .int digit_, .int number_, .ref h0_was, .ref h0_readChoices, .int readMany_, .ref h0_open, .ref h0_wayOf, .int bestThen_, .ref h0_cure, .ref h0_left, .ref h0_satIn])), (h0_tape, .inl (cyI, 240, .inl tape_))] [(h0, .inr (6, [.int thrown_, .int told_, .ref h0_row, .int columns_, .int rooms_, .int many_, .ref h0_subjectOf, .ref h0_teacherOf, .ref h0_seatsOf, .ref h0_columnOf, .ref h0_barsOf, .int pupils_, .ref h0_choices, .int kept_, .ref h0_tape, .int taped_, .int o0, .int to_, .int o1, .int o2, .ref h0_was, .ref h0_readChoices, .int readMany_, .ref h0_open, .ref h0_wayOf, .int bestThen_, .ref h0_cure, .ref h0_left, .ref h0_satIn])), (h0_tape, .inl (cyI, 240, .inl tape_))] rr := by
  refine uMi.of (cc := cX6_takesSeats) (maxL := 1) (by decide) rfl (Nat.le_of_ble_eq_true rfl) (fun p e s m args below meth c A ls Q hx hb hml hown hts hA hP hK hD hE hS hl hret => ?_)
  have hown : s.vm.findClass RX6 = some m.cls := hown
  have hl : lv_has ls 1 [(0, .ref h0)] := hl
  have hiX6 : ∀ w ∈ u_ws RX6 TX6 29, w ∈ wsX6_takesSeats := fun _ h9 => List.mem_cons_of_mem _ (List.mem_append_right _ h9)
  have J72 : ∀ (at_ : Int32), ∀ (digit_ : Int32), ∀ (number_ : Int32), m_X6_takesSeats_72 at_ to_ digit_ number_ tape_ = some (rr, o0, o1, o2) → ∀ (H : Heap) (locs : List Loc) (ls : Array Slot), va_P (dC, dI) vwCl [(h0, .inr (6, [.int thrown_, .int told_, .ref h0_row, .int columns_, .int rooms_, .int many_, .ref h0_subjectOf, .ref h0_teacherOf, .ref h0_seatsOf, .ref h0_columnOf, .ref h0_barsOf, .int pupils_, .ref h0_choices, .int kept_, .ref h0_tape, .int taped_, .int at_, .int to_, .int digit_, .int number_, .ref h0_was, .ref h0_readChoices, .int readMany_, .ref h0_open, .ref h0_wayOf, .int bestThen_, .ref h0_cure, .ref h0_left, .ref h0_satIn])), (h0_tape, .inl (cyI, 240, .inl tape_))] H → va_D A [(h0, .inr (6, [.int thrown_, .int told_, .ref h0_row, .int columns_, .int rooms_, .int many_, .ref h0_subjectOf, .ref h0_teacherOf, .ref h0_seatsOf, .ref h0_columnOf, .ref h0_barsOf, .int pupils_, .ref h0_choices, .int kept_, .ref h0_tape, .int taped_, .int at_, .int to_, .int digit_, .int number_, .ref h0_was, .ref h0_readChoices, .int readMany_, .ref h0_open, .ref h0_wayOf, .int bestThen_, .ref h0_cure, .ref h0_left, .ref h0_satIn])), (h0_tape, .inl (cyI, 240, .inl tape_))] → va_S A s.heap H locs → lv_has ls 1 [(0, .ref h0)] → W p l e rmX6_takesSeats s m args below meth c H locs 0 0 Q (F0 m 72 ls []) := by
    intro at_ digit_ number_ h H locs ls hP hD hS hl
    unfold m_X6_takesSeats_72 at h
    refine lv_aload_n hx hb dX6_takesSeats_72 rfl (lv_at hl 0 rfl) ?_
    obtain ⟨r_1, hq, h⟩ := bd1_some h
    refine uV_i (b := h0) (As := []) (rest := []) ⟨hx, hb, hml, hown, hts⟩ (c_X6_isDigit l dC dI cyC cyI cyJ h0 h0_row h0_subjectOf h0_teacherOf h0_seatsOf h0_columnOf h0_barsOf h0_choices h0_tape h0_was h0_readChoices h0_open h0_wayOf h0_cure h0_left h0_satIn thrown_ told_ columns_ rooms_ many_ pupils_ kept_ taped_ at_ to_ digit_ number_ readMany_ bestThen_ tape_ r_1 hq) (cwV 0 hts gX6_takesSeats_X6_isDigit rfl rfl rfl (by decide +kernel) ⟨Nat.le_of_ble_eq_true rfl, Nat.le_of_ble_eq_true rfl⟩) hK hE hA hP hD hS [0, 1] rfl rfl rfl 6 0 rfl rfl rfl hl.1 rfl (Nat.le_of_ble_eq_true rfl) ⟨Nat.zero_le _, Nat.zero_le _⟩ dX6_takesSeats_73 (fun H locs hP hD hS => ?_)
    have hP : va_P (dC, dI) vwCl [(h0, .inr (6, [.int thrown_, .int told_, .ref h0_row, .int columns_, .int rooms_, .int many_, .ref h0_subjectOf, .ref h0_teacherOf, .ref h0_seatsOf, .ref h0_columnOf, .ref h0_barsOf, .int pupils_, .ref h0_choices, .int kept_, .ref h0_tape, .int taped_, .int at_, .int to_, .int digit_, .int number_, .ref h0_was, .ref h0_readChoices, .int readMany_, .ref h0_open, .ref h0_wayOf, .int bestThen_, .ref h0_cure, .ref h0_left, .ref h0_satIn])), (h0_tape, .inl (cyI, 240, .inl tape_))] H := hP
    have hD : va_D A [(h0, .inr (6, [.int thrown_, .int told_, .ref h0_row, .int columns_, .int rooms_, .int many_, .ref h0_subjectOf, .ref h0_teacherOf, .ref h0_seatsOf, .ref h0_columnOf, .ref h0_barsOf, .int pupils_, .ref h0_choices, .int kept_, .ref h0_tape, .int taped_, .int at_, .int to_, .int digit_, .int number_, .ref h0_was, .ref h0_readChoices, .int readMany_, .ref h0_open, .ref h0_wayOf, .int bestThen_, .ref h0_cure, .ref h0_left, .ref h0_satIn])), (h0_tape, .inl (cyI, 240, .inl tape_))] := hD
    refine lv_if_ne (tgt := 83) hx hb dX6_takesSeats_76 (by decide) (fun c_ => ?_) (fun c_ => ?_)
    · have h := (if_neg c_).symm.trans h
      refine lv_iconst (v := 0) hx hb dX6_takesSeats_83 (by decide) ?_
      have h : some (0, at_, digit_, number_) = some (rr, o0, o1, o2) := h
      have z0 := Option.some.inj h
      obtain ⟨rfl, z1⟩ := Prod.mk.inj z0
      obtain ⟨rfl, z2⟩ := Prod.mk.inj z1
      obtain ⟨rfl, z3⟩ := Prod.mk.inj z2
      obtain rfl := z3
      exact hret _ _ _ _ hP hS rfl dX6_takesSeats_84
    · have h := (if_pos c_).symm.trans h
      refine lv_iconst (v := 1) hx hb dX6_takesSeats_79 (by decide) ?_
      refine lv_goto (tgt := 84) hx hb dX6_takesSeats_80 (by decide) ?_
      have h : some (1, at_, digit_, number_) = some (rr, o0, o1, o2) := h
      have z0 := Option.some.inj h
      obtain ⟨rfl, z1⟩ := Prod.mk.inj z0
      obtain ⟨rfl, z2⟩ := Prod.mk.inj z1
      obtain ⟨rfl, z3⟩ := Prod.mk.inj z2
      obtain rfl := z3
      exact hret _ _ _ _ hP hS rfl dX6_takesSeats_84
  unfold m_X6_takesSeats at h
  refine lv_aload_n hx hb dX6_takesSeats_0 rfl (lv_at hl 0 rfl) ?_
  refine lv_iconst (v := 1) hx hb dX6_takesSeats_1 (by decide) ?_
  refine lv_bipush (v := 9) hx hb dX6_takesSeats_2 (by decide) ?_
  obtain ⟨r_2, at_3, digit_4, hq, h⟩ := bd3_some h
  refine uV_i (b := h0) (As := [.int 1, .int 9]) (rest := []) ⟨hx, hb, hml, hown, hts⟩ (c_X6_takesDigit l dC dI cyC cyI cyJ h0 h0_row h0_subjectOf h0_teacherOf h0_seatsOf h0_columnOf h0_barsOf h0_choices h0_tape h0_was h0_readChoices h0_open h0_wayOf h0_cure h0_left h0_satIn thrown_ told_ columns_ rooms_ many_ pupils_ kept_ taped_ at_ to_ digit_ number_ readMany_ bestThen_ tape_ 1 9 r_2 at_3 digit_4 hq) (cwV 2 hts gX6_takesSeats_X6_takesDigit rfl rfl rfl (by decide +kernel) ⟨Nat.le_of_ble_eq_true rfl, Nat.le_of_ble_eq_true rfl⟩) hK hE hA hP hD hS [0, 1] rfl rfl rfl 6 0 rfl rfl rfl hl.1 rfl (Nat.le_of_ble_eq_true rfl) ⟨Nat.zero_le _, Nat.zero_le _⟩ dX6_takesSeats_4 (fun H locs hP hD hS => ?_)
  have hP : va_P (dC, dI) vwCl [(h0, .inr (6, [.int thrown_, .int told_, .ref h0_row, .int columns_, .int rooms_, .int many_, .ref h0_subjectOf, .ref h0_teacherOf, .ref h0_seatsOf, .ref h0_columnOf, .ref h0_barsOf, .int pupils_, .ref h0_choices, .int kept_, .ref h0_tape, .int taped_, .int at_3, .int to_, .int digit_4, .int number_, .ref h0_was, .ref h0_readChoices, .int readMany_, .ref h0_open, .ref h0_wayOf, .int bestThen_, .ref h0_cure, .ref h0_left, .ref h0_satIn])), (h0_tape, .inl (cyI, 240, .inl tape_))] H := hP
  have hD : va_D A [(h0, .inr (6, [.int thrown_, .int told_, .ref h0_row, .int columns_, .int rooms_, .int many_, .ref h0_subjectOf, .ref h0_teacherOf, .ref h0_seatsOf, .ref h0_columnOf, .ref h0_barsOf, .int pupils_, .ref h0_choices, .int kept_, .ref h0_tape, .int taped_, .int at_3, .int to_, .int digit_4, .int number_, .ref h0_was, .ref h0_readChoices, .int readMany_, .ref h0_open, .ref h0_wayOf, .int bestThen_, .ref h0_cure, .ref h0_left, .ref h0_satIn])), (h0_tape, .inl (cyI, 240, .inl tape_))] := hD
  refine lv_if_ne (tgt := 12) hx hb dX6_takesSeats_7 (by decide) (fun c_ => ?_) (fun c_ => ?_)
  · have h := (if_neg c_).symm.trans h
    refine lv_aload_n hx hb dX6_takesSeats_12 rfl (lv_at hl 0 rfl) ?_
    refine lv_aload_n hx hb dX6_takesSeats_13 rfl (lv_at hl 0 rfl) ?_
    refine va_get (D := (dC, dI)) (ci := 6) (v := .int digit_4) (C := RX6) (T := TX6) (N := 29) hx hb hts hiX6 hown hK hP 0 rfl rfl 18 (by decide) (hts (.fieldLink RX6 110 "OptionLatticeModel" "digit" "I") (by decide +kernel)) (fun _ h9 => h9) rfl dX6_takesSeats_14 ?_
    refine va_put (D := (dC, dI)) (ci := 6) (v := .int digit_4) (ty := .int) (C := RX6) (T := TX6) (N := 29) hx hb hts hiX6 tyX6 tyX6_ok nmX6 hown hK hP hD hS 0 rfl rfl 19 (by decide) (hts (.fieldLink RX6 120 "OptionLatticeModel" "number" "I") (by decide +kernel)) (fun _ h9 => h9) rfl (by decide +kernel) rfl rfl (Nat.le_of_ble_eq_true rfl) dX6_takesSeats_17 (fun H locs hP hD hS => ?_)
    have hP : va_P (dC, dI) vwCl [(h0, .inr (6, [.int thrown_, .int told_, .ref h0_row, .int columns_, .int rooms_, .int many_, .ref h0_subjectOf, .ref h0_teacherOf, .ref h0_seatsOf, .ref h0_columnOf, .ref h0_barsOf, .int pupils_, .ref h0_choices, .int kept_, .ref h0_tape, .int taped_, .int at_3, .int to_, .int digit_4, .int digit_4, .ref h0_was, .ref h0_readChoices, .int readMany_, .ref h0_open, .ref h0_wayOf, .int bestThen_, .ref h0_cure, .ref h0_left, .ref h0_satIn])), (h0_tape, .inl (cyI, 240, .inl tape_))] H := hP
    have hD : va_D A [(h0, .inr (6, [.int thrown_, .int told_, .ref h0_row, .int columns_, .int rooms_, .int many_, .ref h0_subjectOf, .ref h0_teacherOf, .ref h0_seatsOf, .ref h0_columnOf, .ref h0_barsOf, .int pupils_, .ref h0_choices, .int kept_, .ref h0_tape, .int taped_, .int at_3, .int to_, .int digit_4, .int digit_4, .ref h0_was, .ref h0_readChoices, .int readMany_, .ref h0_open, .ref h0_wayOf, .int bestThen_, .ref h0_cure, .ref h0_left, .ref h0_satIn])), (h0_tape, .inl (cyI, 240, .inl tape_))] := hD
    refine lv_aload_n hx hb dX6_takesSeats_20 rfl (lv_at hl 0 rfl) ?_
    obtain ⟨r_5, hq, h⟩ := bd1_some h
    refine uV_i (b := h0) (As := []) (rest := []) ⟨hx, hb, hml, hown, hts⟩ (c_X6_isDigit l dC dI cyC cyI cyJ h0 h0_row h0_subjectOf h0_teacherOf h0_seatsOf h0_columnOf h0_barsOf h0_choices h0_tape h0_was h0_readChoices h0_open h0_wayOf h0_cure h0_left h0_satIn thrown_ told_ columns_ rooms_ many_ pupils_ kept_ taped_ at_3 to_ digit_4 digit_4 readMany_ bestThen_ tape_ r_5 hq) (cwV 0 hts gX6_takesSeats_X6_isDigit rfl rfl rfl (by decide +kernel) ⟨Nat.le_of_ble_eq_true rfl, Nat.le_of_ble_eq_true rfl⟩) hK hE hA hP hD hS [0, 1] rfl rfl rfl 6 0 rfl rfl rfl hl.1 rfl (Nat.le_of_ble_eq_true rfl) ⟨Nat.zero_le _, Nat.zero_le _⟩ dX6_takesSeats_21 (fun H locs hP hD hS => ?_)
    have hP : va_P (dC, dI) vwCl [(h0, .inr (6, [.int thrown_, .int told_, .ref h0_row, .int columns_, .int rooms_, .int many_, .ref h0_subjectOf, .ref h0_teacherOf, .ref h0_seatsOf, .ref h0_columnOf, .ref h0_barsOf, .int pupils_, .ref h0_choices, .int kept_, .ref h0_tape, .int taped_, .int at_3, .int to_, .int digit_4, .int digit_4, .ref h0_was, .ref h0_readChoices, .int readMany_, .ref h0_open, .ref h0_wayOf, .int bestThen_, .ref h0_cure, .ref h0_left, .ref h0_satIn])), (h0_tape, .inl (cyI, 240, .inl tape_))] H := hP
    have hD : va_D A [(h0, .inr (6, [.int thrown_, .int told_, .ref h0_row, .int columns_, .int rooms_, .int many_, .ref h0_subjectOf, .ref h0_teacherOf, .ref h0_seatsOf, .ref h0_columnOf, .ref h0_barsOf, .int pupils_, .ref h0_choices, .int kept_, .ref h0_tape, .int taped_, .int at_3, .int to_, .int digit_4, .int digit_4, .ref h0_was, .ref h0_readChoices, .int readMany_, .ref h0_open, .ref h0_wayOf, .int bestThen_, .ref h0_cure, .ref h0_left, .ref h0_satIn])), (h0_tape, .inl (cyI, 240, .inl tape_))] := hD
    refine lv_if_eq (tgt := 72) hx hb dX6_takesSeats_24 (by decide) (fun c_ => ?_) (fun c_ => ?_)
    · have h := (if_pos c_).symm.trans h
      exact J72 at_3 digit_4 digit_4 h _ _ _ hP hD hS (lv_sub hl [0] rfl)
    · have h := (if_neg c_).symm.trans h
      refine lv_aload_n hx hb dX6_takesSeats_27 rfl (lv_at hl 0 rfl) ?_
      refine lv_bipush (v := 10) hx hb dX6_takesSeats_28 (by decide) ?_
      refine lv_aload_n hx hb dX6_takesSeats_30 rfl (lv_at hl 0 rfl) ?_
      refine va_get (D := (dC, dI)) (ci := 6) (v := .int digit_4) (C := RX6) (T := TX6) (N := 29) hx hb hts hiX6 hown hK hP 0 rfl rfl 19 (by decide) (hts (.fieldLink RX6 120 "OptionLatticeModel" "number" "I") (by decide +kernel)) (fun _ h9 => h9) rfl dX6_takesSeats_31 ?_
      refine lv_imul hx hb dX6_takesSeats_34 ?_
      refine lv_aload_n hx hb dX6_takesSeats_35 rfl (lv_at hl 0 rfl) ?_
      refine va_get (D := (dC, dI)) (ci := 6) (v := .ref h0_tape) (C := RX6) (T := TX6) (N := 29) hx hb hts hiX6 hown hK hP 0 rfl rfl 14 (by decide) (hts (.fieldLink RX6 38 "OptionLatticeModel" "tape" "[I") (by decide +kernel)) (fun _ h9 => h9) rfl dX6_takesSeats_36 ?_
      refine lv_aload_n hx hb dX6_takesSeats_39 rfl (lv_at hl 0 rfl) ?_
      refine va_get (D := (dC, dI)) (ci := 6) (v := .int at_3) (C := RX6) (T := TX6) (N := 29) hx hb hts hiX6 hown hK hP 0 rfl rfl 16 (by decide) (hts (.fieldLink RX6 107 "OptionLatticeModel" "at" "I") (by decide +kernel)) (fun _ h9 => h9) rfl dX6_takesSeats_40 ?_
      obtain ⟨g_, h⟩ := gd_some h
      refine va_iald hx hb hK hP 1 1 rfl rfl (inb_in g_) dX6_takesSeats_43 ?_
      refine lv_iadd hx hb dX6_takesSeats_44 ?_
      refine lv_bipush (v := 48) hx hb dX6_takesSeats_45 (by decide) ?_
      refine lv_isub hx hb dX6_takesSeats_47 ?_
      refine lv_topi (fun w_6 e_w_6 => ?_)
      have h := lt_use e_w_6 h
      refine va_put (D := (dC, dI)) (ci := 6) (v := .int w_6) (ty := .int) (C := RX6) (T := TX6) (N := 29) hx hb hts hiX6 tyX6 tyX6_ok nmX6 hown hK hP hD hS 0 rfl rfl 19 (by decide) (hts (.fieldLink RX6 120 "OptionLatticeModel" "number" "I") (by decide +kernel)) (fun _ h9 => h9) rfl (by decide +kernel) rfl rfl (Nat.le_of_ble_eq_true rfl) dX6_takesSeats_48 (fun H locs hP hD hS => ?_)
      have hP : va_P (dC, dI) vwCl [(h0, .inr (6, [.int thrown_, .int told_, .ref h0_row, .int columns_, .int rooms_, .int many_, .ref h0_subjectOf, .ref h0_teacherOf, .ref h0_seatsOf, .ref h0_columnOf, .ref h0_barsOf, .int pupils_, .ref h0_choices, .int kept_, .ref h0_tape, .int taped_, .int at_3, .int to_, .int digit_4, .int w_6, .ref h0_was, .ref h0_readChoices, .int readMany_, .ref h0_open, .ref h0_wayOf, .int bestThen_, .ref h0_cure, .ref h0_left, .ref h0_satIn])), (h0_tape, .inl (cyI, 240, .inl tape_))] H := hP
      have hD : va_D A [(h0, .inr (6, [.int thrown_, .int told_, .ref h0_row, .int columns_, .int rooms_, .int many_, .ref h0_subjectOf, .ref h0_teacherOf, .ref h0_seatsOf, .ref h0_columnOf, .ref h0_barsOf, .int pupils_, .ref h0_choices, .int kept_, .ref h0_tape, .int taped_, .int at_3, .int to_, .int digit_4, .int w_6, .ref h0_was, .ref h0_readChoices, .int readMany_, .ref h0_open, .ref h0_wayOf, .int bestThen_, .ref h0_cure, .ref h0_left, .ref h0_satIn])), (h0_tape, .inl (cyI, 240, .inl tape_))] := hD
      refine lv_aload_n hx hb dX6_takesSeats_51 rfl (lv_at hl 0 rfl) ?_
      refine va_get (D := (dC, dI)) (ci := 6) (v := .int w_6) (C := RX6) (T := TX6) (N := 29) hx hb hts hiX6 hown hK hP 0 rfl rfl 19 (by decide) (hts (.fieldLink RX6 120 "OptionLatticeModel" "number" "I") (by decide +kernel)) (fun _ h9 => h9) rfl dX6_takesSeats_52 ?_
      refine lv_bipush (v := 30) hx hb dX6_takesSeats_55 (by decide) ?_
      refine lv_icmp_le (tgt := 62) hx hb dX6_takesSeats_57 (by decide) (fun c_ => ?_) (fun c_ => ?_)
      · have h := (if_pos c_).symm.trans h
        refine lv_aload_n hx hb dX6_takesSeats_62 rfl (lv_at hl 0 rfl) ?_
        refine lv_dup hx hb dX6_takesSeats_63 rfl ?_
        refine va_get (D := (dC, dI)) (ci := 6) (v := .int at_3) (C := RX6) (T := TX6) (N := 29) hx hb hts hiX6 hown hK hP 0 rfl rfl 16 (by decide) (hts (.fieldLink RX6 107 "OptionLatticeModel" "at" "I") (by decide +kernel)) (fun _ h9 => h9) rfl dX6_takesSeats_64 ?_
        refine lv_iconst (v := 1) hx hb dX6_takesSeats_67 (by decide) ?_
        refine lv_iadd hx hb dX6_takesSeats_68 ?_
        refine lv_topi (fun w_7 e_w_7 => ?_)
        have h := lt_use e_w_7 h
        refine va_put (D := (dC, dI)) (ci := 6) (v := .int w_7) (ty := .int) (C := RX6) (T := TX6) (N := 29) hx hb hts hiX6 tyX6 tyX6_ok nmX6 hown hK hP hD hS 0 rfl rfl 16 (by decide) (hts (.fieldLink RX6 107 "OptionLatticeModel" "at" "I") (by decide +kernel)) (fun _ h9 => h9) rfl (by decide +kernel) rfl rfl (Nat.le_of_ble_eq_true rfl) dX6_takesSeats_69 (fun H locs hP hD hS => ?_)
        have hP : va_P (dC, dI) vwCl [(h0, .inr (6, [.int thrown_, .int told_, .ref h0_row, .int columns_, .int rooms_, .int many_, .ref h0_subjectOf, .ref h0_teacherOf, .ref h0_seatsOf, .ref h0_columnOf, .ref h0_barsOf, .int pupils_, .ref h0_choices, .int kept_, .ref h0_tape, .int taped_, .int w_7, .int to_, .int digit_4, .int w_6, .ref h0_was, .ref h0_readChoices, .int readMany_, .ref h0_open, .ref h0_wayOf, .int bestThen_, .ref h0_cure, .ref h0_left, .ref h0_satIn])), (h0_tape, .inl (cyI, 240, .inl tape_))] H := hP
        have hD : va_D A [(h0, .inr (6, [.int thrown_, .int told_, .ref h0_row, .int columns_, .int rooms_, .int many_, .ref h0_subjectOf, .ref h0_teacherOf, .ref h0_seatsOf, .ref h0_columnOf, .ref h0_barsOf, .int pupils_, .ref h0_choices, .int kept_, .ref h0_tape, .int taped_, .int w_7, .int to_, .int digit_4, .int w_6, .ref h0_was, .ref h0_readChoices, .int readMany_, .ref h0_open, .ref h0_wayOf, .int bestThen_, .ref h0_cure, .ref h0_left, .ref h0_satIn])), (h0_tape, .inl (cyI, 240, .inl tape_))] := hD
        exact J72 w_7 digit_4 w_6 h _ _ _ hP hD hS (lv_sub hl [0] rfl)
      · have h := (if_neg c_).symm.trans h
        refine lv_iconst (v := 0) hx hb dX6_takesSeats_60 (by decide) ?_
        have h : some (0, at_3, digit_4, w_6) = some (rr, o0, o1, o2) := h
        have z0 := Option.some.inj h
        obtain ⟨rfl, z1⟩ := Prod.mk.inj z0
        obtain ⟨rfl, z2⟩ := Prod.mk.inj z1
        obtain ⟨rfl, z3⟩ := Prod.mk.inj z2
        obtain rfl := z3
        exact hret _ _ _ _ hP hS rfl dX6_takesSeats_61
  · have h := (if_pos c_).symm.trans h
    refine lv_iconst (v := 0) hx hb dX6_takesSeats_10 (by decide) ?_
    have h : some (0, at_3, digit_4, number_) = some (rr, o0, o1, o2) := h
    have z0 := Option.some.inj h
    obtain ⟨rfl, z1⟩ := Prod.mk.inj z0
    obtain ⟨rfl, z2⟩ := Prod.mk.inj z1
    obtain ⟨rfl, z3⟩ := Prod.mk.inj z2
    obtain rfl := z3
    exact hret _ _ _ _ hP hS rfl dX6_takesSeats_11

def m_X6_isTeaching_4 (many_ : Int32) (teacherOf_ : Nat → Int32) (v1 : Int32) (rec4 : Int32 → Int32 → Option (Int32)) : Int32 → Int32 → Option (Int32) := fun v2 v3 =>
  (if many_ ≤ v3 then gd (isb v2) (some v2) else (if v2 = 0 then gd (inb v3 17) ((if (teacherOf_ v3.toNatClampNeg) = v1 then lt' (v3 + 1) (fun v3_3 => rec4 1 v3_3) else lt' (v3 + 1) (fun v3_2 => rec4 0 v3_2))) else lt' (v3 + 1) (fun v3_1 => rec4 1 v3_1)))
def m_X6_isTeaching (many_ : Int32) (teacherOf_ : Nat → Int32) (v1 : Int32) : Option (Int32) :=
  it2 (m_X6_isTeaching_4 many_ teacherOf_ v1) 1100 0 0
abbrev rmX6_isTeaching : Room := { frames := 0, cells := 0, slots := 0, locals := 0 }
set_option maxHeartbeats 4000000 in
set_option maxRecDepth 100000 in
theorem c_X6_isTeaching (l : Launch) (dC : Nat → ClassId) (dI : Nat → Nat → Nat) (cyC cyI cyJ : ClassId) (h0 h0_row h0_subjectOf h0_teacherOf h0_seatsOf h0_columnOf h0_barsOf h0_choices h0_tape h0_was h0_readChoices h0_open h0_wayOf h0_cure h0_left h0_satIn : Nat) (thrown_ : Int32) (told_ : Int32) (columns_ : Int32) (rooms_ : Int32) (many_ : Int32) (pupils_ : Int32) (kept_ : Int32) (taped_ : Int32) (at_ : Int32) (to_ : Int32) (digit_ : Int32) (number_ : Int32) (readMany_ : Int32) (bestThen_ : Int32) (teacherOf_ : Nat → Int32) (v1 : Int32) (rr : Int32) (h : m_X6_isTeaching many_ teacherOf_ v1 = some rr) : uMi l yX6_isTeaching wsX6_isTeaching rmX6_isTeaching (dC, dI) [(cyC, .char), (cyI, .int), (cyJ, .long)] [.ref h0, .int v1] [(h0, .inr (6, [.int thrown_, .int told_, .ref h0_row, .int columns_, .int rooms_, .int many_, .ref h0_subjectOf, .ref h0_teacherOf, .ref h0_seatsOf, .ref h0_columnOf, .ref h0_barsOf, .int pupils_, .ref h0_choices, .int kept_, .ref h0_tape, .int taped_, .int at_, .int to_, .int digit_, .int number_, .ref h0_was, .ref h0_readChoices, .int readMany_, .ref h0_open, .ref h0_wayOf, .int bestThen_, .ref h0_cure, .ref h0_left, .ref h0_satIn])), (h0_teacherOf, .inl (cyI, 17, .inl teacherOf_))] [(h0, .inr (6, [.int thrown_, .int told_, .ref h0_row, .int columns_, .int rooms_, .int many_, .ref h0_subjectOf, .ref h0_teacherOf, .ref h0_seatsOf, .ref h0_columnOf, .ref h0_barsOf, .int pupils_, .ref h0_choices, .int kept_, .ref h0_tape, .int taped_, .int at_, .int to_, .int digit_, .int number_, .ref h0_was, .ref h0_readChoices, .int readMany_, .ref h0_open, .ref h0_wayOf, .int bestThen_, .ref h0_cure, .ref h0_left, .ref h0_satIn])), (h0_teacherOf, .inl (cyI, 17, .inl teacherOf_))] rr := by
  refine uMi.of (cc := cX6_isTeaching) (maxL := 4) (by decide) rfl (Nat.le_of_ble_eq_true rfl) (fun p e s m args below meth c A ls Q hx hb hml hown hts hA hP hK hD hE hS hl hret => ?_)
  have hown : s.vm.findClass RX6 = some m.cls := hown
  have hl : lv_has ls 4 [(0, .ref h0), (1, .int v1)] := hl
  have hiX6 : ∀ w ∈ u_ws RX6 TX6 29, w ∈ wsX6_isTeaching := fun _ h9 => List.mem_cons_of_mem _ (List.mem_append_right _ h9)
  have L4 : ∀ (n4 : Nat), ∀ (v2 : Int32), ∀ (v3 : Int32), it2 (m_X6_isTeaching_4 many_ teacherOf_ v1) n4 v2 v3 = some rr → ∀ (H : Heap) (locs : List Loc) (ls : Array Slot), va_P (dC, dI) vwCl [(h0, .inr (6, [.int thrown_, .int told_, .ref h0_row, .int columns_, .int rooms_, .int many_, .ref h0_subjectOf, .ref h0_teacherOf, .ref h0_seatsOf, .ref h0_columnOf, .ref h0_barsOf, .int pupils_, .ref h0_choices, .int kept_, .ref h0_tape, .int taped_, .int at_, .int to_, .int digit_, .int number_, .ref h0_was, .ref h0_readChoices, .int readMany_, .ref h0_open, .ref h0_wayOf, .int bestThen_, .ref h0_cure, .ref h0_left, .ref h0_satIn])), (h0_teacherOf, .inl (cyI, 17, .inl teacherOf_))] H → va_D A [(h0, .inr (6, [.int thrown_, .int told_, .ref h0_row, .int columns_, .int rooms_, .int many_, .ref h0_subjectOf, .ref h0_teacherOf, .ref h0_seatsOf, .ref h0_columnOf, .ref h0_barsOf, .int pupils_, .ref h0_choices, .int kept_, .ref h0_tape, .int taped_, .int at_, .int to_, .int digit_, .int number_, .ref h0_was, .ref h0_readChoices, .int readMany_, .ref h0_open, .ref h0_wayOf, .int bestThen_, .ref h0_cure, .ref h0_left, .ref h0_satIn])), (h0_teacherOf, .inl (cyI, 17, .inl teacherOf_))] → va_S A s.heap H locs → lv_has ls 4 [(0, .ref h0), (1, .int v1), (2, .int v2), (3, .int v3)] → W p l e rmX6_isTeaching s m args below meth c H locs 0 0 Q (F0 m 4 ls []) := by
    intro n4
    induction n4 with
    | zero => intro v2 v3 h; exact absurd h (fun z => it2_z z)
    | succ n4 ih4 =>
      intro v2 v3 h H locs ls hP hD hS hl
      have h : m_X6_isTeaching_4 many_ teacherOf_ v1 (it2 (m_X6_isTeaching_4 many_ teacherOf_ v1) n4) v2 v3 = some rr := h
      unfold m_X6_isTeaching_4 at h
      refine lv_iload_n hx hb dX6_isTeaching_4 rfl (lv_at hl 3 rfl) ?_
      refine lv_aload_n hx hb dX6_isTeaching_5 rfl (lv_at hl 0 rfl) ?_
      refine va_get (D := (dC, dI)) (ci := 6) (v := .int many_) (C := RX6) (T := TX6) (N := 29) hx hb hts hiX6 hown hK hP 0 rfl rfl 5 (by decide) (hts (.fieldLink RX6 87 "OptionLatticeModel" "many" "I") (by decide +kernel)) (fun _ h9 => h9) rfl dX6_isTeaching_6 ?_
      refine lv_icmp_ge (tgt := 38) hx hb dX6_isTeaching_9 (by decide) (fun c_ => ?_) (fun c_ => ?_)
      · have h := (if_pos c_).symm.trans h
        refine lv_iload_n hx hb dX6_isTeaching_38 rfl (lv_at hl 2 rfl) ?_
        obtain ⟨g_, h⟩ := gd_some h
        have h : some v2 = some rr := h
        have z0 := Option.some.inj h
        obtain rfl := z0
        exact hret _ _ _ _ hP hS (isb_of g_) dX6_isTeaching_39
      · have h := (if_neg c_).symm.trans h
        refine lv_iload_n hx hb dX6_isTeaching_12 rfl (lv_at hl 2 rfl) ?_
        refine lv_if_ne (tgt := 26) hx hb dX6_isTeaching_13 (by decide) (fun c_ => ?_) (fun c_ => ?_)
        · have h := (if_neg c_).symm.trans h
          refine lv_iconst (v := 1) hx hb dX6_isTeaching_26 (by decide) ?_
          refine lv_goto (tgt := 31) hx hb dX6_isTeaching_27 (by decide) ?_
          refine lv_istore_n (lv' := [(2, .int 1), (0, .ref h0), (1, .int v1), (3, .int v3)]) hx hb dX6_isTeaching_31 rfl hl (by decide) rfl (fun ls hl => ?_)
          obtain ⟨v3_1, e_v3_1⟩ : ∃ z : Int32, z = (v3 + 1) := ⟨_, rfl⟩
          have h := lt_use e_v3_1 h
          refine lv_iinc (v := v3_1) (lv' := [(3, .int v3_1), (2, .int 1), (0, .ref h0), (1, .int v1)]) hx hb dX6_isTeaching_32 hl (k := 3) rfl (by rw [e_v3_1]; rfl) (by decide) rfl (fun ls hl => ?_)
          refine lv_goto (tgt := 4) hx hb dX6_isTeaching_35 (by decide) ?_
          exact ih4 1 v3_1 h _ _ _ hP hD hS (lv_sub hl [2, 3, 1, 0] rfl)
        · have h := (if_pos c_).symm.trans h
          refine lv_aload_n hx hb dX6_isTeaching_16 rfl (lv_at hl 0 rfl) ?_
          refine va_get (D := (dC, dI)) (ci := 6) (v := .ref h0_teacherOf) (C := RX6) (T := TX6) (N := 29) hx hb hts hiX6 hown hK hP 0 rfl rfl 7 (by decide) (hts (.fieldLink RX6 23 "OptionLatticeModel" "teacherOf" "[I") (by decide +kernel)) (fun _ h9 => h9) rfl dX6_isTeaching_17 ?_
          refine lv_iload_n hx hb dX6_isTeaching_20 rfl (lv_at hl 3 rfl) ?_
          obtain ⟨g_, h⟩ := gd_some h
          refine va_iald hx hb hK hP 1 1 rfl rfl (inb_in g_) dX6_isTeaching_21 ?_
          refine lv_iload_n hx hb dX6_isTeaching_22 rfl (lv_at hl 1 rfl) ?_
          refine lv_icmp_ne (tgt := 30) hx hb dX6_isTeaching_23 (by decide) (fun c_ => ?_) (fun c_ => ?_)
          · have h := (if_neg c_).symm.trans h
            refine lv_iconst (v := 0) hx hb dX6_isTeaching_30 (by decide) ?_
            refine lv_istore_n (lv' := [(2, .int 0), (0, .ref h0), (1, .int v1), (3, .int v3)]) hx hb dX6_isTeaching_31 rfl hl (by decide) rfl (fun ls hl => ?_)
            obtain ⟨v3_2, e_v3_2⟩ : ∃ z : Int32, z = (v3 + 1) := ⟨_, rfl⟩
            have h := lt_use e_v3_2 h
            refine lv_iinc (v := v3_2) (lv' := [(3, .int v3_2), (2, .int 0), (0, .ref h0), (1, .int v1)]) hx hb dX6_isTeaching_32 hl (k := 3) rfl (by rw [e_v3_2]; rfl) (by decide) rfl (fun ls hl => ?_)
            refine lv_goto (tgt := 4) hx hb dX6_isTeaching_35 (by decide) ?_
            exact ih4 0 v3_2 h _ _ _ hP hD hS (lv_sub hl [2, 3, 1, 0] rfl)
          · have h := (if_pos c_).symm.trans h
            refine lv_iconst (v := 1) hx hb dX6_isTeaching_26 (by decide) ?_
            refine lv_goto (tgt := 31) hx hb dX6_isTeaching_27 (by decide) ?_
            refine lv_istore_n (lv' := [(2, .int 1), (0, .ref h0), (1, .int v1), (3, .int v3)]) hx hb dX6_isTeaching_31 rfl hl (by decide) rfl (fun ls hl => ?_)
            obtain ⟨v3_3, e_v3_3⟩ : ∃ z : Int32, z = (v3 + 1) := ⟨_, rfl⟩
            have h := lt_use e_v3_3 h
            refine lv_iinc (v := v3_3) (lv' := [(3, .int v3_3), (2, .int 1), (0, .ref h0), (1, .int v1)]) hx hb dX6_isTeaching_32 hl (k := 3) rfl (by rw [e_v3_3]; rfl) (by decide) rfl (fun ls hl => ?_)
            refine lv_goto (tgt := 4) hx hb dX6_isTeaching_35 (by decide) ?_
            exact ih4 1 v3_3 h _ _ _ hP hD hS (lv_sub hl [2, 3, 1, 0] rfl)
  unfold m_X6_isTeaching at h
  refine lv_iconst (v := 0) hx hb dX6_isTeaching_0 (by decide) ?_
  refine lv_istore_n (lv' := [(2, .int 0), (0, .ref h0), (1, .int v1)]) hx hb dX6_isTeaching_1 rfl hl (by decide) rfl (fun ls hl => ?_)
  refine lv_iconst (v := 0) hx hb dX6_isTeaching_2 (by decide) ?_
  refine lv_istore_n (lv' := [(3, .int 0), (2, .int 0), (0, .ref h0), (1, .int v1)]) hx hb dX6_isTeaching_3 rfl hl (by decide) rfl (fun ls hl => ?_)
  exact L4  1100 0 0 h _ _ _ hP hD hS (lv_sub hl [2, 3, 1, 0] rfl)

def m_X6_takesBars_59 (columns_ : Int32) (at_ : Int32) (to_ : Int32) (digit_ : Int32) (barsOf_ : Nat → Int32) (tape_ : Nat → Int32) (v1 : Int32) (v2 : Int32) (rec48 : Int32 → Int32 → Int32 → (Nat → Int32) → Option (Int32 × Int32 × Int32 × (Nat → Int32))) : Option (Int32 × Int32 × Int32 × (Nat → Int32)) :=
  bd3 (m_X6_takesDigit at_ to_ digit_ tape_ v2 (columns_ - 1)) (fun r_1 at_2 digit_3 => (if r_1 = 0 then some (0, at_2, digit_3, barsOf_) else gd (inb v1 10) (gd (inb v1 10) (lt' (digit_3 + 1) (fun v2_4 => rec48 v2_4 at_2 digit_3 (upd barsOf_ v1.toNatClampNeg ((barsOf_ v1.toNatClampNeg) ||| ((1 : Int32) <<< (digit_3 &&& 31)))))))))
def m_X6_takesBars_48 (columns_ : Int32) (to_ : Int32) (tape_ : Nat → Int32) (v1 : Int32) (rec48 : Int32 → Int32 → Int32 → (Nat → Int32) → Option (Int32 × Int32 × Int32 × (Nat → Int32))) : Int32 → Int32 → Int32 → (Nat → Int32) → Option (Int32 × Int32 × Int32 × (Nat → Int32)) := fun v2 at_ digit_ barsOf_ =>
  (if v2 = 0 then m_X6_takesBars_59 columns_ at_ to_ digit_ barsOf_ tape_ v1 v2 rec48 else bd1 (m_X6_isDigit at_ to_ tape_) (fun r_5 => (if r_5 = 0 then some (1, at_, digit_, barsOf_) else m_X6_takesBars_59 columns_ at_ to_ digit_ barsOf_ tape_ v1 v2 rec48)))
def m_X6_takesBars_34 (at_ : Int32) (digit_ : Int32) (barsOf_ : Nat → Int32) : Option (Int32 × Int32 × Int32 × (Nat → Int32)) :=
  lt' (at_ - 1) (fun w_6 => some (0, w_6, digit_, barsOf_))
def m_X6_takesBars (columns_ : Int32) (many_ : Int32) (at_ : Int32) (to_ : Int32) (digit_ : Int32) (teacherOf_ : Nat → Int32) (barsOf_ : Nat → Int32) (tape_ : Nat → Int32) : Option (Int32 × Int32 × Int32 × (Nat → Int32)) :=
  bd3 (m_X6_takesDigit at_ to_ digit_ tape_ 0 9) (fun r_7 at_8 digit_9 => (if r_7 = 0 then some (0, at_8, digit_9, barsOf_) else gd (inb digit_9 10) ((if (barsOf_ digit_9.toNatClampNeg) = 0 then bd1 (m_X6_isTeaching many_ teacherOf_ digit_9) (fun r_10 => (if r_10 = 0 then it4 (m_X6_takesBars_48 columns_ to_ tape_ digit_9) 1100 0 at_8 digit_9 barsOf_ else m_X6_takesBars_34 at_8 digit_9 barsOf_)) else m_X6_takesBars_34 at_8 digit_9 barsOf_))))
abbrev rmX6_takesBars : Room := { frames := 2, cells := 0, slots := 0, locals := 47 }
set_option maxHeartbeats 4000000 in
set_option maxRecDepth 100000 in
theorem c_X6_takesBars (l : Launch) (dC : Nat → ClassId) (dI : Nat → Nat → Nat) (cyC cyI cyJ : ClassId) (h0 h0_row h0_subjectOf h0_teacherOf h0_seatsOf h0_columnOf h0_barsOf h0_choices h0_tape h0_was h0_readChoices h0_open h0_wayOf h0_cure h0_left h0_satIn : Nat) (thrown_ : Int32) (told_ : Int32) (columns_ : Int32) (rooms_ : Int32) (many_ : Int32) (pupils_ : Int32) (kept_ : Int32) (taped_ : Int32) (at_ : Int32) (to_ : Int32) (digit_ : Int32) (number_ : Int32) (readMany_ : Int32) (bestThen_ : Int32) (teacherOf_ : Nat → Int32) (barsOf_ : Nat → Int32) (tape_ : Nat → Int32) (rr : Int32) (o0 : Int32) (o1 : Int32) (o2 : Nat → Int32) (h : m_X6_takesBars columns_ many_ at_ to_ digit_ teacherOf_ barsOf_ tape_ = some (rr, o0, o1, o2)) : uMi l yX6_takesBars wsX6_takesBars rmX6_takesBars (dC, dI) [(cyC, .char), (cyI, .int), (cyJ, .long)] [.ref h0] [(h0, .inr (6, [.int thrown_, .int told_, .ref h0_row, .int columns_, .int rooms_, .int many_, .ref h0_subjectOf, .ref h0_teacherOf, .ref h0_seatsOf, .ref h0_columnOf, .ref h0_barsOf, .int pupils_, .ref h0_choices, .int kept_, .ref h0_tape, .int taped_, .int at_, .int to_, .int digit_, .int number_, .ref h0_was, .ref h0_readChoices, .int readMany_, .ref h0_open, .ref h0_wayOf, .int bestThen_, .ref h0_cure, .ref h0_left, .ref h0_satIn])), (h0_teacherOf, .inl (cyI, 17, .inl teacherOf_)), (h0_barsOf, .inl (cyI, 10, .inl barsOf_)), (h0_tape, .inl (cyI, 240, .inl tape_))] [(h0, .inr (6, [.int thrown_, .int told_, .ref h0_row, .int columns_, .int rooms_, .int many_, .ref h0_subjectOf, .ref h0_teacherOf, .ref h0_seatsOf, .ref h0_columnOf, .ref h0_barsOf, .int pupils_, .ref h0_choices, .int kept_, .ref h0_tape, .int taped_, .int o0, .int to_, .int o1, .int number_, .ref h0_was, .ref h0_readChoices, .int readMany_, .ref h0_open, .ref h0_wayOf, .int bestThen_, .ref h0_cure, .ref h0_left, .ref h0_satIn])), (h0_teacherOf, .inl (cyI, 17, .inl teacherOf_)), (h0_barsOf, .inl (cyI, 10, .inl o2)), (h0_tape, .inl (cyI, 240, .inl tape_))] rr := by
  refine uMi.of (cc := cX6_takesBars) (maxL := 3) (by decide) rfl (Nat.le_of_ble_eq_true rfl) (fun p e s m args below meth c A ls Q hx hb hml hown hts hA hP hK hD hE hS hl hret => ?_)
  have hown : s.vm.findClass RX6 = some m.cls := hown
  have hl : lv_has ls 3 [(0, .ref h0)] := hl
  have hiX6 : ∀ w ∈ u_ws RX6 TX6 29, w ∈ wsX6_takesBars := fun _ h9 => List.mem_cons_of_mem _ (List.mem_append_right _ h9)
  have L48 : ∀ (v1 : Int32), ∀ (n48 : Nat), ∀ (v2 : Int32), ∀ (at_ : Int32), ∀ (digit_ : Int32), ∀ (barsOf_ : Nat → Int32), it4 (m_X6_takesBars_48 columns_ to_ tape_ v1) n48 v2 at_ digit_ barsOf_ = some (rr, o0, o1, o2) → ∀ (H : Heap) (locs : List Loc) (ls : Array Slot), va_P (dC, dI) vwCl [(h0, .inr (6, [.int thrown_, .int told_, .ref h0_row, .int columns_, .int rooms_, .int many_, .ref h0_subjectOf, .ref h0_teacherOf, .ref h0_seatsOf, .ref h0_columnOf, .ref h0_barsOf, .int pupils_, .ref h0_choices, .int kept_, .ref h0_tape, .int taped_, .int at_, .int to_, .int digit_, .int number_, .ref h0_was, .ref h0_readChoices, .int readMany_, .ref h0_open, .ref h0_wayOf, .int bestThen_, .ref h0_cure, .ref h0_left, .ref h0_satIn])), (h0_teacherOf, .inl (cyI, 17, .inl teacherOf_)), (h0_barsOf, .inl (cyI, 10, .inl barsOf_)), (h0_tape, .inl (cyI, 240, .inl tape_))] H → va_D A [(h0, .inr (6, [.int thrown_, .int told_, .ref h0_row, .int columns_, .int rooms_, .int many_, .ref h0_subjectOf, .ref h0_teacherOf, .ref h0_seatsOf, .ref h0_columnOf, .ref h0_barsOf, .int pupils_, .ref h0_choices, .int kept_, .ref h0_tape, .int taped_, .int at_, .int to_, .int digit_, .int number_, .ref h0_was, .ref h0_readChoices, .int readMany_, .ref h0_open, .ref h0_wayOf, .int bestThen_, .ref h0_cure, .ref h0_left, .ref h0_satIn])), (h0_teacherOf, .inl (cyI, 17, .inl teacherOf_)), (h0_barsOf, .inl (cyI, 10, .inl barsOf_)), (h0_tape, .inl (cyI, 240, .inl tape_))] → va_S A s.heap H locs → lv_has ls 3 [(0, .ref h0), (1, .int v1), (2, .int v2)] → W p l e rmX6_takesBars s m args below meth c H locs 0 0 Q (F0 m 48 ls []) := by
    intro v1 n48
    induction n48 with
    | zero => intro v2 at_ digit_ barsOf_ h; exact absurd h (fun z => it4_z z)
    | succ n48 ih48 =>
      have J59 : ∀ (v2 : Int32), ∀ (at_ : Int32), ∀ (digit_ : Int32), ∀ (barsOf_ : Nat → Int32), m_X6_takesBars_59 columns_ at_ to_ digit_ barsOf_ tape_ v1 v2 (it4 (m_X6_takesBars_48 columns_ to_ tape_ v1) n48) = some (rr, o0, o1, o2) → ∀ (H : Heap) (locs : List Loc) (ls : Array Slot), va_P (dC, dI) vwCl [(h0, .inr (6, [.int thrown_, .int told_, .ref h0_row, .int columns_, .int rooms_, .int many_, .ref h0_subjectOf, .ref h0_teacherOf, .ref h0_seatsOf, .ref h0_columnOf, .ref h0_barsOf, .int pupils_, .ref h0_choices, .int kept_, .ref h0_tape, .int taped_, .int at_, .int to_, .int digit_, .int number_, .ref h0_was, .ref h0_readChoices, .int readMany_, .ref h0_open, .ref h0_wayOf, .int bestThen_, .ref h0_cure, .ref h0_left, .ref h0_satIn])), (h0_teacherOf, .inl (cyI, 17, .inl teacherOf_)), (h0_barsOf, .inl (cyI, 10, .inl barsOf_)), (h0_tape, .inl (cyI, 240, .inl tape_))] H → va_D A [(h0, .inr (6, [.int thrown_, .int told_, .ref h0_row, .int columns_, .int rooms_, .int many_, .ref h0_subjectOf, .ref h0_teacherOf, .ref h0_seatsOf, .ref h0_columnOf, .ref h0_barsOf, .int pupils_, .ref h0_choices, .int kept_, .ref h0_tape, .int taped_, .int at_, .int to_, .int digit_, .int number_, .ref h0_was, .ref h0_readChoices, .int readMany_, .ref h0_open, .ref h0_wayOf, .int bestThen_, .ref h0_cure, .ref h0_left, .ref h0_satIn])), (h0_teacherOf, .inl (cyI, 17, .inl teacherOf_)), (h0_barsOf, .inl (cyI, 10, .inl barsOf_)), (h0_tape, .inl (cyI, 240, .inl tape_))] → va_S A s.heap H locs → lv_has ls 3 [(0, .ref h0), (1, .int v1), (2, .int v2)] → W p l e rmX6_takesBars s m args below meth c H locs 0 0 Q (F0 m 59 ls []) := by
        intro v2 at_ digit_ barsOf_ h H locs ls hP hD hS hl
        unfold m_X6_takesBars_59 at h
        refine lv_aload_n hx hb dX6_takesBars_59 rfl (lv_at hl 0 rfl) ?_
        refine lv_iload_n hx hb dX6_takesBars_60 rfl (lv_at hl 2 rfl) ?_
        refine lv_aload_n hx hb dX6_takesBars_61 rfl (lv_at hl 0 rfl) ?_
        refine va_get (D := (dC, dI)) (ci := 6) (v := .int columns_) (C := RX6) (T := TX6) (N := 29) hx hb hts hiX6 hown hK hP 0 rfl rfl 3 (by decide) (hts (.fieldLink RX6 13 "OptionLatticeModel" "columns" "I") (by decide +kernel)) (fun _ h9 => h9) rfl dX6_takesBars_62 ?_
        refine lv_iconst (v := 1) hx hb dX6_takesBars_65 (by decide) ?_
        refine lv_isub hx hb dX6_takesBars_66 ?_
        obtain ⟨r_1, at_2, digit_3, hq, h⟩ := bd3_some h
        refine uV_i (b := h0) (As := [.int v2, .int (columns_ - 1)]) (rest := []) ⟨hx, hb, hml, hown, hts⟩ (c_X6_takesDigit l dC dI cyC cyI cyJ h0 h0_row h0_subjectOf h0_teacherOf h0_seatsOf h0_columnOf h0_barsOf h0_choices h0_tape h0_was h0_readChoices h0_open h0_wayOf h0_cure h0_left h0_satIn thrown_ told_ columns_ rooms_ many_ pupils_ kept_ taped_ at_ to_ digit_ number_ readMany_ bestThen_ tape_ v2 (columns_ - 1) r_1 at_2 digit_3 hq) (cwV 2 hts gX6_takesBars_X6_takesDigit rfl rfl rfl (by decide +kernel) ⟨Nat.le_of_ble_eq_true rfl, Nat.le_of_ble_eq_true rfl⟩) hK hE hA hP hD hS [0, 3] rfl rfl rfl 6 0 rfl rfl rfl hl.1 rfl (Nat.le_of_ble_eq_true rfl) ⟨Nat.zero_le _, Nat.zero_le _⟩ dX6_takesBars_67 (fun H locs hP hD hS => ?_)
        have hP : va_P (dC, dI) vwCl [(h0, .inr (6, [.int thrown_, .int told_, .ref h0_row, .int columns_, .int rooms_, .int many_, .ref h0_subjectOf, .ref h0_teacherOf, .ref h0_seatsOf, .ref h0_columnOf, .ref h0_barsOf, .int pupils_, .ref h0_choices, .int kept_, .ref h0_tape, .int taped_, .int at_2, .int to_, .int digit_3, .int number_, .ref h0_was, .ref h0_readChoices, .int readMany_, .ref h0_open, .ref h0_wayOf, .int bestThen_, .ref h0_cure, .ref h0_left, .ref h0_satIn])), (h0_teacherOf, .inl (cyI, 17, .inl teacherOf_)), (h0_barsOf, .inl (cyI, 10, .inl barsOf_)), (h0_tape, .inl (cyI, 240, .inl tape_))] H := hP
        have hD : va_D A [(h0, .inr (6, [.int thrown_, .int told_, .ref h0_row, .int columns_, .int rooms_, .int many_, .ref h0_subjectOf, .ref h0_teacherOf, .ref h0_seatsOf, .ref h0_columnOf, .ref h0_barsOf, .int pupils_, .ref h0_choices, .int kept_, .ref h0_tape, .int taped_, .int at_2, .int to_, .int digit_3, .int number_, .ref h0_was, .ref h0_readChoices, .int readMany_, .ref h0_open, .ref h0_wayOf, .int bestThen_, .ref h0_cure, .ref h0_left, .ref h0_satIn])), (h0_teacherOf, .inl (cyI, 17, .inl teacherOf_)), (h0_barsOf, .inl (cyI, 10, .inl barsOf_)), (h0_tape, .inl (cyI, 240, .inl tape_))] := hD
        refine lv_if_ne (tgt := 75) hx hb dX6_takesBars_70 (by decide) (fun c_ => ?_) (fun c_ => ?_)
        · have h := (if_neg c_).symm.trans h
          refine lv_aload_n hx hb dX6_takesBars_75 rfl (lv_at hl 0 rfl) ?_
          refine va_get (D := (dC, dI)) (ci := 6) (v := .ref h0_barsOf) (C := RX6) (T := TX6) (N := 29) hx hb hts hiX6 hown hK hP 0 rfl rfl 10 (by decide) (hts (.fieldLink RX6 32 "OptionLatticeModel" "barsOf" "[I") (by decide +kernel)) (fun _ h9 => h9) rfl dX6_takesBars_76 ?_
          refine lv_iload_n hx hb dX6_takesBars_79 rfl (lv_at hl 1 rfl) ?_
          refine lv_dup2_11 hx hb dX6_takesBars_80 rfl rfl ?_
          obtain ⟨g_, h⟩ := gd_some h
          refine va_iald hx hb hK hP 2 1 rfl rfl (inb_in g_) dX6_takesBars_81 ?_
          refine lv_iconst (v := 1) hx hb dX6_takesBars_82 (by decide) ?_
          refine lv_aload_n hx hb dX6_takesBars_83 rfl (lv_at hl 0 rfl) ?_
          refine va_get (D := (dC, dI)) (ci := 6) (v := .int digit_3) (C := RX6) (T := TX6) (N := 29) hx hb hts hiX6 hown hK hP 0 rfl rfl 18 (by decide) (hts (.fieldLink RX6 110 "OptionLatticeModel" "digit" "I") (by decide +kernel)) (fun _ h9 => h9) rfl dX6_takesBars_84 ?_
          refine lv_ishl hx hb dX6_takesBars_87 ?_
          refine lv_ior hx hb dX6_takesBars_88 ?_
          obtain ⟨g_, h⟩ := gd_some h
          refine va_iast hx hb hK hP hD hS 2 1 rfl rfl (inb_in g_) dX6_takesBars_89 (fun H locs hP hD hS => ?_)
          have hP : va_P (dC, dI) vwCl [(h0, .inr (6, [.int thrown_, .int told_, .ref h0_row, .int columns_, .int rooms_, .int many_, .ref h0_subjectOf, .ref h0_teacherOf, .ref h0_seatsOf, .ref h0_columnOf, .ref h0_barsOf, .int pupils_, .ref h0_choices, .int kept_, .ref h0_tape, .int taped_, .int at_2, .int to_, .int digit_3, .int number_, .ref h0_was, .ref h0_readChoices, .int readMany_, .ref h0_open, .ref h0_wayOf, .int bestThen_, .ref h0_cure, .ref h0_left, .ref h0_satIn])), (h0_teacherOf, .inl (cyI, 17, .inl teacherOf_)), (h0_barsOf, .inl (cyI, 10, .inl (upd barsOf_ v1.toNatClampNeg ((barsOf_ v1.toNatClampNeg) ||| ((1 : Int32) <<< (digit_3 &&& 31)))))), (h0_tape, .inl (cyI, 240, .inl tape_))] H := hP
          have hD : va_D A [(h0, .inr (6, [.int thrown_, .int told_, .ref h0_row, .int columns_, .int rooms_, .int many_, .ref h0_subjectOf, .ref h0_teacherOf, .ref h0_seatsOf, .ref h0_columnOf, .ref h0_barsOf, .int pupils_, .ref h0_choices, .int kept_, .ref h0_tape, .int taped_, .int at_2, .int to_, .int digit_3, .int number_, .ref h0_was, .ref h0_readChoices, .int readMany_, .ref h0_open, .ref h0_wayOf, .int bestThen_, .ref h0_cure, .ref h0_left, .ref h0_satIn])), (h0_teacherOf, .inl (cyI, 17, .inl teacherOf_)), (h0_barsOf, .inl (cyI, 10, .inl (upd barsOf_ v1.toNatClampNeg ((barsOf_ v1.toNatClampNeg) ||| ((1 : Int32) <<< (digit_3 &&& 31)))))), (h0_tape, .inl (cyI, 240, .inl tape_))] := hD
          refine lv_aload_n hx hb dX6_takesBars_90 rfl (lv_at hl 0 rfl) ?_
          refine va_get (D := (dC, dI)) (ci := 6) (v := .int digit_3) (C := RX6) (T := TX6) (N := 29) hx hb hts hiX6 hown hK hP 0 rfl rfl 18 (by decide) (hts (.fieldLink RX6 110 "OptionLatticeModel" "digit" "I") (by decide +kernel)) (fun _ h9 => h9) rfl dX6_takesBars_91 ?_
          refine lv_iconst (v := 1) hx hb dX6_takesBars_94 (by decide) ?_
          refine lv_iadd hx hb dX6_takesBars_95 ?_
          refine lv_topi (fun v2_4 e_v2_4 => ?_)
          have h := lt_use e_v2_4 h
          refine lv_istore_n (lv' := [(2, .int v2_4), (0, .ref h0), (1, .int v1)]) hx hb dX6_takesBars_96 rfl hl (by decide) rfl (fun ls hl => ?_)
          refine lv_goto (tgt := 48) hx hb dX6_takesBars_97 (by decide) ?_
          exact ih48 v2_4 at_2 digit_3 (upd barsOf_ v1.toNatClampNeg ((barsOf_ v1.toNatClampNeg) ||| ((1 : Int32) <<< (digit_3 &&& 31)))) h _ _ _ hP hD hS (lv_sub hl [1, 2, 0] rfl)
        · have h := (if_pos c_).symm.trans h
          refine lv_iconst (v := 0) hx hb dX6_takesBars_73 (by decide) ?_
          have h : some (0, at_2, digit_3, barsOf_) = some (rr, o0, o1, o2) := h
          have z0 := Option.some.inj h
          obtain ⟨rfl, z1⟩ := Prod.mk.inj z0
          obtain ⟨rfl, z2⟩ := Prod.mk.inj z1
          obtain ⟨rfl, z3⟩ := Prod.mk.inj z2
          obtain rfl := z3
          exact hret _ _ _ _ hP hS rfl dX6_takesBars_74
      intro v2 at_ digit_ barsOf_ h H locs ls hP hD hS hl
      have h : m_X6_takesBars_48 columns_ to_ tape_ v1 (it4 (m_X6_takesBars_48 columns_ to_ tape_ v1) n48) v2 at_ digit_ barsOf_ = some (rr, o0, o1, o2) := h
      unfold m_X6_takesBars_48 at h
      refine lv_iload_n hx hb dX6_takesBars_48 rfl (lv_at hl 2 rfl) ?_
      refine lv_if_eq (tgt := 59) hx hb dX6_takesBars_49 (by decide) (fun c_ => ?_) (fun c_ => ?_)
      · have h := (if_pos c_).symm.trans h
        exact J59 v2 at_ digit_ barsOf_ h _ _ _ hP hD hS (lv_sub hl [0, 1, 2] rfl)
      · have h := (if_neg c_).symm.trans h
        refine lv_aload_n hx hb dX6_takesBars_52 rfl (lv_at hl 0 rfl) ?_
        obtain ⟨r_5, hq, h⟩ := bd1_some h
        refine uV_i (b := h0) (As := []) (rest := []) ⟨hx, hb, hml, hown, hts⟩ (c_X6_isDigit l dC dI cyC cyI cyJ h0 h0_row h0_subjectOf h0_teacherOf h0_seatsOf h0_columnOf h0_barsOf h0_choices h0_tape h0_was h0_readChoices h0_open h0_wayOf h0_cure h0_left h0_satIn thrown_ told_ columns_ rooms_ many_ pupils_ kept_ taped_ at_ to_ digit_ number_ readMany_ bestThen_ tape_ r_5 hq) (cwV 0 hts gX6_takesBars_X6_isDigit rfl rfl rfl (by decide +kernel) ⟨Nat.le_of_ble_eq_true rfl, Nat.le_of_ble_eq_true rfl⟩) hK hE hA hP hD hS [0, 3] rfl rfl rfl 6 0 rfl rfl rfl hl.1 rfl (Nat.le_of_ble_eq_true rfl) ⟨Nat.zero_le _, Nat.zero_le _⟩ dX6_takesBars_53 (fun H locs hP hD hS => ?_)
        have hP : va_P (dC, dI) vwCl [(h0, .inr (6, [.int thrown_, .int told_, .ref h0_row, .int columns_, .int rooms_, .int many_, .ref h0_subjectOf, .ref h0_teacherOf, .ref h0_seatsOf, .ref h0_columnOf, .ref h0_barsOf, .int pupils_, .ref h0_choices, .int kept_, .ref h0_tape, .int taped_, .int at_, .int to_, .int digit_, .int number_, .ref h0_was, .ref h0_readChoices, .int readMany_, .ref h0_open, .ref h0_wayOf, .int bestThen_, .ref h0_cure, .ref h0_left, .ref h0_satIn])), (h0_teacherOf, .inl (cyI, 17, .inl teacherOf_)), (h0_barsOf, .inl (cyI, 10, .inl barsOf_)), (h0_tape, .inl (cyI, 240, .inl tape_))] H := hP
        have hD : va_D A [(h0, .inr (6, [.int thrown_, .int told_, .ref h0_row, .int columns_, .int rooms_, .int many_, .ref h0_subjectOf, .ref h0_teacherOf, .ref h0_seatsOf, .ref h0_columnOf, .ref h0_barsOf, .int pupils_, .ref h0_choices, .int kept_, .ref h0_tape, .int taped_, .int at_, .int to_, .int digit_, .int number_, .ref h0_was, .ref h0_readChoices, .int readMany_, .ref h0_open, .ref h0_wayOf, .int bestThen_, .ref h0_cure, .ref h0_left, .ref h0_satIn])), (h0_teacherOf, .inl (cyI, 17, .inl teacherOf_)), (h0_barsOf, .inl (cyI, 10, .inl barsOf_)), (h0_tape, .inl (cyI, 240, .inl tape_))] := hD
        refine lv_if_eq (tgt := 100) hx hb dX6_takesBars_56 (by decide) (fun c_ => ?_) (fun c_ => ?_)
        · have h := (if_pos c_).symm.trans h
          refine lv_iconst (v := 1) hx hb dX6_takesBars_100 (by decide) ?_
          have h : some (1, at_, digit_, barsOf_) = some (rr, o0, o1, o2) := h
          have z0 := Option.some.inj h
          obtain ⟨rfl, z1⟩ := Prod.mk.inj z0
          obtain ⟨rfl, z2⟩ := Prod.mk.inj z1
          obtain ⟨rfl, z3⟩ := Prod.mk.inj z2
          obtain rfl := z3
          exact hret _ _ _ _ hP hS rfl dX6_takesBars_101
        · have h := (if_neg c_).symm.trans h
          exact J59 v2 at_ digit_ barsOf_ h _ _ _ hP hD hS (lv_sub hl [0, 1, 2] rfl)
  have J34 : ∀ (at_ : Int32), ∀ (digit_ : Int32), m_X6_takesBars_34 at_ digit_ barsOf_ = some (rr, o0, o1, o2) → ∀ (H : Heap) (locs : List Loc) (ls : Array Slot), va_P (dC, dI) vwCl [(h0, .inr (6, [.int thrown_, .int told_, .ref h0_row, .int columns_, .int rooms_, .int many_, .ref h0_subjectOf, .ref h0_teacherOf, .ref h0_seatsOf, .ref h0_columnOf, .ref h0_barsOf, .int pupils_, .ref h0_choices, .int kept_, .ref h0_tape, .int taped_, .int at_, .int to_, .int digit_, .int number_, .ref h0_was, .ref h0_readChoices, .int readMany_, .ref h0_open, .ref h0_wayOf, .int bestThen_, .ref h0_cure, .ref h0_left, .ref h0_satIn])), (h0_teacherOf, .inl (cyI, 17, .inl teacherOf_)), (h0_barsOf, .inl (cyI, 10, .inl barsOf_)), (h0_tape, .inl (cyI, 240, .inl tape_))] H → va_D A [(h0, .inr (6, [.int thrown_, .int told_, .ref h0_row, .int columns_, .int rooms_, .int many_, .ref h0_subjectOf, .ref h0_teacherOf, .ref h0_seatsOf, .ref h0_columnOf, .ref h0_barsOf, .int pupils_, .ref h0_choices, .int kept_, .ref h0_tape, .int taped_, .int at_, .int to_, .int digit_, .int number_, .ref h0_was, .ref h0_readChoices, .int readMany_, .ref h0_open, .ref h0_wayOf, .int bestThen_, .ref h0_cure, .ref h0_left, .ref h0_satIn])), (h0_teacherOf, .inl (cyI, 17, .inl teacherOf_)), (h0_barsOf, .inl (cyI, 10, .inl barsOf_)), (h0_tape, .inl (cyI, 240, .inl tape_))] → va_S A s.heap H locs → lv_has ls 3 [(0, .ref h0)] → W p l e rmX6_takesBars s m args below meth c H locs 0 0 Q (F0 m 34 ls []) := by
    intro at_ digit_ h H locs ls hP hD hS hl
    unfold m_X6_takesBars_34 at h
    refine lv_aload_n hx hb dX6_takesBars_34 rfl (lv_at hl 0 rfl) ?_
    refine lv_dup hx hb dX6_takesBars_35 rfl ?_
    refine va_get (D := (dC, dI)) (ci := 6) (v := .int at_) (C := RX6) (T := TX6) (N := 29) hx hb hts hiX6 hown hK hP 0 rfl rfl 16 (by decide) (hts (.fieldLink RX6 107 "OptionLatticeModel" "at" "I") (by decide +kernel)) (fun _ h9 => h9) rfl dX6_takesBars_36 ?_
    refine lv_iconst (v := 1) hx hb dX6_takesBars_39 (by decide) ?_
    refine lv_isub hx hb dX6_takesBars_40 ?_
    refine lv_topi (fun w_6 e_w_6 => ?_)
    have h := lt_use e_w_6 h
    refine va_put (D := (dC, dI)) (ci := 6) (v := .int w_6) (ty := .int) (C := RX6) (T := TX6) (N := 29) hx hb hts hiX6 tyX6 tyX6_ok nmX6 hown hK hP hD hS 0 rfl rfl 16 (by decide) (hts (.fieldLink RX6 107 "OptionLatticeModel" "at" "I") (by decide +kernel)) (fun _ h9 => h9) rfl (by decide +kernel) rfl rfl (Nat.le_of_ble_eq_true rfl) dX6_takesBars_41 (fun H locs hP hD hS => ?_)
    have hP : va_P (dC, dI) vwCl [(h0, .inr (6, [.int thrown_, .int told_, .ref h0_row, .int columns_, .int rooms_, .int many_, .ref h0_subjectOf, .ref h0_teacherOf, .ref h0_seatsOf, .ref h0_columnOf, .ref h0_barsOf, .int pupils_, .ref h0_choices, .int kept_, .ref h0_tape, .int taped_, .int w_6, .int to_, .int digit_, .int number_, .ref h0_was, .ref h0_readChoices, .int readMany_, .ref h0_open, .ref h0_wayOf, .int bestThen_, .ref h0_cure, .ref h0_left, .ref h0_satIn])), (h0_teacherOf, .inl (cyI, 17, .inl teacherOf_)), (h0_barsOf, .inl (cyI, 10, .inl barsOf_)), (h0_tape, .inl (cyI, 240, .inl tape_))] H := hP
    have hD : va_D A [(h0, .inr (6, [.int thrown_, .int told_, .ref h0_row, .int columns_, .int rooms_, .int many_, .ref h0_subjectOf, .ref h0_teacherOf, .ref h0_seatsOf, .ref h0_columnOf, .ref h0_barsOf, .int pupils_, .ref h0_choices, .int kept_, .ref h0_tape, .int taped_, .int w_6, .int to_, .int digit_, .int number_, .ref h0_was, .ref h0_readChoices, .int readMany_, .ref h0_open, .ref h0_wayOf, .int bestThen_, .ref h0_cure, .ref h0_left, .ref h0_satIn])), (h0_teacherOf, .inl (cyI, 17, .inl teacherOf_)), (h0_barsOf, .inl (cyI, 10, .inl barsOf_)), (h0_tape, .inl (cyI, 240, .inl tape_))] := hD
    refine lv_iconst (v := 0) hx hb dX6_takesBars_44 (by decide) ?_
    have h : some (0, w_6, digit_, barsOf_) = some (rr, o0, o1, o2) := h
    have z0 := Option.some.inj h
    obtain ⟨rfl, z1⟩ := Prod.mk.inj z0
    obtain ⟨rfl, z2⟩ := Prod.mk.inj z1
    obtain ⟨rfl, z3⟩ := Prod.mk.inj z2
    obtain rfl := z3
    exact hret _ _ _ _ hP hS rfl dX6_takesBars_45
  unfold m_X6_takesBars at h
  refine lv_aload_n hx hb dX6_takesBars_0 rfl (lv_at hl 0 rfl) ?_
  refine lv_iconst (v := 0) hx hb dX6_takesBars_1 (by decide) ?_
  refine lv_bipush (v := 9) hx hb dX6_takesBars_2 (by decide) ?_
  obtain ⟨r_7, at_8, digit_9, hq, h⟩ := bd3_some h
  refine uV_i (b := h0) (As := [.int 0, .int 9]) (rest := []) ⟨hx, hb, hml, hown, hts⟩ (c_X6_takesDigit l dC dI cyC cyI cyJ h0 h0_row h0_subjectOf h0_teacherOf h0_seatsOf h0_columnOf h0_barsOf h0_choices h0_tape h0_was h0_readChoices h0_open h0_wayOf h0_cure h0_left h0_satIn thrown_ told_ columns_ rooms_ many_ pupils_ kept_ taped_ at_ to_ digit_ number_ readMany_ bestThen_ tape_ 0 9 r_7 at_8 digit_9 hq) (cwV 2 hts gX6_takesBars_X6_takesDigit rfl rfl rfl (by decide +kernel) ⟨Nat.le_of_ble_eq_true rfl, Nat.le_of_ble_eq_true rfl⟩) hK hE hA hP hD hS [0, 3] rfl rfl rfl 6 0 rfl rfl rfl hl.1 rfl (Nat.le_of_ble_eq_true rfl) ⟨Nat.zero_le _, Nat.zero_le _⟩ dX6_takesBars_4 (fun H locs hP hD hS => ?_)
  have hP : va_P (dC, dI) vwCl [(h0, .inr (6, [.int thrown_, .int told_, .ref h0_row, .int columns_, .int rooms_, .int many_, .ref h0_subjectOf, .ref h0_teacherOf, .ref h0_seatsOf, .ref h0_columnOf, .ref h0_barsOf, .int pupils_, .ref h0_choices, .int kept_, .ref h0_tape, .int taped_, .int at_8, .int to_, .int digit_9, .int number_, .ref h0_was, .ref h0_readChoices, .int readMany_, .ref h0_open, .ref h0_wayOf, .int bestThen_, .ref h0_cure, .ref h0_left, .ref h0_satIn])), (h0_teacherOf, .inl (cyI, 17, .inl teacherOf_)), (h0_barsOf, .inl (cyI, 10, .inl barsOf_)), (h0_tape, .inl (cyI, 240, .inl tape_))] H := hP
  have hD : va_D A [(h0, .inr (6, [.int thrown_, .int told_, .ref h0_row, .int columns_, .int rooms_, .int many_, .ref h0_subjectOf, .ref h0_teacherOf, .ref h0_seatsOf, .ref h0_columnOf, .ref h0_barsOf, .int pupils_, .ref h0_choices, .int kept_, .ref h0_tape, .int taped_, .int at_8, .int to_, .int digit_9, .int number_, .ref h0_was, .ref h0_readChoices, .int readMany_, .ref h0_open, .ref h0_wayOf, .int bestThen_, .ref h0_cure, .ref h0_left, .ref h0_satIn])), (h0_teacherOf, .inl (cyI, 17, .inl teacherOf_)), (h0_barsOf, .inl (cyI, 10, .inl barsOf_)), (h0_tape, .inl (cyI, 240, .inl tape_))] := hD
  refine lv_if_ne (tgt := 12) hx hb dX6_takesBars_7 (by decide) (fun c_ => ?_) (fun c_ => ?_)
  · have h := (if_neg c_).symm.trans h
    refine lv_aload_n hx hb dX6_takesBars_12 rfl (lv_at hl 0 rfl) ?_
    refine va_get (D := (dC, dI)) (ci := 6) (v := .int digit_9) (C := RX6) (T := TX6) (N := 29) hx hb hts hiX6 hown hK hP 0 rfl rfl 18 (by decide) (hts (.fieldLink RX6 110 "OptionLatticeModel" "digit" "I") (by decide +kernel)) (fun _ h9 => h9) rfl dX6_takesBars_13 ?_
    refine lv_istore_n (lv' := [(1, .int digit_9), (0, .ref h0)]) hx hb dX6_takesBars_16 rfl hl (by decide) rfl (fun ls hl => ?_)
    refine lv_aload_n hx hb dX6_takesBars_17 rfl (lv_at hl 1 rfl) ?_
    refine va_get (D := (dC, dI)) (ci := 6) (v := .ref h0_barsOf) (C := RX6) (T := TX6) (N := 29) hx hb hts hiX6 hown hK hP 0 rfl rfl 10 (by decide) (hts (.fieldLink RX6 32 "OptionLatticeModel" "barsOf" "[I") (by decide +kernel)) (fun _ h9 => h9) rfl dX6_takesBars_18 ?_
    refine lv_iload_n hx hb dX6_takesBars_21 rfl (lv_at hl 0 rfl) ?_
    obtain ⟨g_, h⟩ := gd_some h
    refine va_iald hx hb hK hP 2 1 rfl rfl (inb_in g_) dX6_takesBars_22 ?_
    refine lv_if_ne (tgt := 34) hx hb dX6_takesBars_23 (by decide) (fun c_ => ?_) (fun c_ => ?_)
    · have h := (if_neg c_).symm.trans h
      exact J34 at_8 digit_9 h _ _ _ hP hD hS (lv_sub hl [1] rfl)
    · have h := (if_pos c_).symm.trans h
      refine lv_aload_n hx hb dX6_takesBars_26 rfl (lv_at hl 1 rfl) ?_
      refine lv_iload_n hx hb dX6_takesBars_27 rfl (lv_at hl 0 rfl) ?_
      obtain ⟨r_10, hq, h⟩ := bd1_some h
      refine uV_i (b := h0) (As := [.int digit_9]) (rest := []) ⟨hx, hb, hml, hown, hts⟩ (c_X6_isTeaching l dC dI cyC cyI cyJ h0 h0_row h0_subjectOf h0_teacherOf h0_seatsOf h0_columnOf h0_barsOf h0_choices h0_tape h0_was h0_readChoices h0_open h0_wayOf h0_cure h0_left h0_satIn thrown_ told_ columns_ rooms_ many_ pupils_ kept_ taped_ at_8 to_ digit_9 number_ readMany_ bestThen_ teacherOf_ digit_9 r_10 hq) (cwV 1 hts gX6_takesBars_X6_isTeaching rfl rfl rfl (by decide +kernel) ⟨Nat.le_of_ble_eq_true rfl, Nat.le_of_ble_eq_true rfl⟩) hK hE hA hP hD hS [0, 1] rfl rfl rfl 6 0 rfl rfl rfl hl.1 rfl (Nat.le_of_ble_eq_true rfl) ⟨Nat.zero_le _, Nat.zero_le _⟩ dX6_takesBars_28 (fun H locs hP hD hS => ?_)
      have hP : va_P (dC, dI) vwCl [(h0, .inr (6, [.int thrown_, .int told_, .ref h0_row, .int columns_, .int rooms_, .int many_, .ref h0_subjectOf, .ref h0_teacherOf, .ref h0_seatsOf, .ref h0_columnOf, .ref h0_barsOf, .int pupils_, .ref h0_choices, .int kept_, .ref h0_tape, .int taped_, .int at_8, .int to_, .int digit_9, .int number_, .ref h0_was, .ref h0_readChoices, .int readMany_, .ref h0_open, .ref h0_wayOf, .int bestThen_, .ref h0_cure, .ref h0_left, .ref h0_satIn])), (h0_teacherOf, .inl (cyI, 17, .inl teacherOf_)), (h0_barsOf, .inl (cyI, 10, .inl barsOf_)), (h0_tape, .inl (cyI, 240, .inl tape_))] H := hP
      have hD : va_D A [(h0, .inr (6, [.int thrown_, .int told_, .ref h0_row, .int columns_, .int rooms_, .int many_, .ref h0_subjectOf, .ref h0_teacherOf, .ref h0_seatsOf, .ref h0_columnOf, .ref h0_barsOf, .int pupils_, .ref h0_choices, .int kept_, .ref h0_tape, .int taped_, .int at_8, .int to_, .int digit_9, .int number_, .ref h0_was, .ref h0_readChoices, .int readMany_, .ref h0_open, .ref h0_wayOf, .int bestThen_, .ref h0_cure, .ref h0_left, .ref h0_satIn])), (h0_teacherOf, .inl (cyI, 17, .inl teacherOf_)), (h0_barsOf, .inl (cyI, 10, .inl barsOf_)), (h0_tape, .inl (cyI, 240, .inl tape_))] := hD
      refine lv_if_eq (tgt := 46) hx hb dX6_takesBars_31 (by decide) (fun c_ => ?_) (fun c_ => ?_)
      · have h := (if_pos c_).symm.trans h
        refine lv_iconst (v := 0) hx hb dX6_takesBars_46 (by decide) ?_
        refine lv_istore_n (lv' := [(2, .int 0), (1, .int digit_9), (0, .ref h0)]) hx hb dX6_takesBars_47 rfl hl (by decide) rfl (fun ls hl => ?_)
        exact L48 digit_9 1100 0 at_8 digit_9 barsOf_ h _ _ _ hP hD hS (lv_sub hl [2, 1, 0] rfl)
      · have h := (if_neg c_).symm.trans h
        exact J34 at_8 digit_9 h _ _ _ hP hD hS (lv_sub hl [1] rfl)
  · have h := (if_pos c_).symm.trans h
    refine lv_iconst (v := 0) hx hb dX6_takesBars_10 (by decide) ?_
    have h : some (0, at_8, digit_9, barsOf_) = some (rr, o0, o1, o2) := h
    have z0 := Option.some.inj h
    obtain ⟨rfl, z1⟩ := Prod.mk.inj z0
    obtain ⟨rfl, z2⟩ := Prod.mk.inj z1
    obtain ⟨rfl, z3⟩ := Prod.mk.inj z2
    obtain rfl := z3
    exact hret _ _ _ _ hP hS rfl dX6_takesBars_11
