def m_X6_seats (thrown_ : Int32) (many_ : Int32) (seatsOf_ : Nat → Int32) (v1 : Int32) (v2 : Int32) : Option (Int32 × Int32 × (Nat → Int32)) :=
  bd1 (m_X6_isSection many_ v1) (fun r_1 => (if r_1 = 0 then some ((-1), 0, seatsOf_) else bd1 (m_X6_in (Int32.toInt64 v2) 1 30) (fun r_2 => (if r_2 = 0 then some ((-1), 0, seatsOf_) else gd (inb v1 17) (lt' (seatsOf_ v1.toNatClampNeg) (fun v3_3 => gd (inb v1 17) (some (v3_3, 0, (upd seatsOf_ v1.toNatClampNeg v2)))))))))
abbrev rmX6_seats : Room := { frames := 2, cells := 0, slots := 0, locals := 46 }
set_option maxHeartbeats 4000000 in
set_option maxRecDepth 100000 in
theorem c_X6_seats (l : Launch) (dC : Nat → ClassId) (dI : Nat → Nat → Nat) (cyC cyI cyJ : ClassId) (h0 h0_row h0_subjectOf h0_teacherOf h0_seatsOf h0_columnOf h0_barsOf h0_choices h0_tape h0_was h0_readChoices h0_open h0_wayOf h0_cure h0_left h0_satIn : Nat) (thrown_ : Int32) (told_ : Int32) (columns_ : Int32) (rooms_ : Int32) (many_ : Int32) (pupils_ : Int32) (kept_ : Int32) (taped_ : Int32) (at_ : Int32) (to_ : Int32) (digit_ : Int32) (number_ : Int32) (readMany_ : Int32) (bestThen_ : Int32) (seatsOf_ : Nat → Int32) (v1 : Int32) (v2 : Int32) (rr : Int32) (o0 : Int32) (o1 : Nat → Int32) (h : m_X6_seats thrown_ many_ seatsOf_ v1 v2 = some (rr, o0, o1)) : uMi l yX6_seats wsX6_seats rmX6_seats (dC, dI) [(cyC, .char), (cyI, .int), (cyJ, .long)] [.ref h0, .int v1, .int v2] [(h0, .inr (6, [.int thrown_, .int told_, .ref h0_row, .int columns_, .int rooms_, .int many_, .ref h0_subjectOf, .ref h0_teacherOf, .ref h0_seatsOf, .ref h0_columnOf, .ref h0_barsOf, .int pupils_, .ref h0_choices, .int kept_, .ref h0_tape, .int taped_, .int at_, .int to_, .int digit_, .int number_, .ref h0_was, .ref h0_readChoices, .int readMany_, .ref h0_open, .ref h0_wayOf, .int bestThen_, .ref h0_cure, .ref h0_left, .ref h0_satIn])), (h0_seatsOf, .inl (cyI, 17, .inl seatsOf_))] [(h0, .inr (6, [.int o0, .int told_, .ref h0_row, .int columns_, .int rooms_, .int many_, .ref h0_subjectOf, .ref h0_teacherOf, .ref h0_seatsOf, .ref h0_columnOf, .ref h0_barsOf, .int pupils_, .ref h0_choices, .int kept_, .ref h0_tape, .int taped_, .int at_, .int to_, .int digit_, .int number_, .ref h0_was, .ref h0_readChoices, .int readMany_, .ref h0_open, .ref h0_wayOf, .int bestThen_, .ref h0_cure, .ref h0_left, .ref h0_satIn])), (h0_seatsOf, .inl (cyI, 17, .inl o1))] rr := by
  refine uMi.of (cc := cX6_seats) (maxL := 4) (by decide) rfl (Nat.le_of_ble_eq_true rfl) (fun p e s m args below meth c A ls Q hx hb hml hown hts hA hP hK hD hE hS hl hret => ?_)
  have hown : s.vm.findClass RX6 = some m.cls := hown
  have hl : lv_has ls 4 [(0, .ref h0), (1, .int v1), (2, .int v2)] := hl
  have hiX6 : ∀ w ∈ u_ws RX6 TX6 29, w ∈ wsX6_seats := fun _ h9 => List.mem_cons_of_mem _ (List.mem_append_right _ h9)
  unfold m_X6_seats at h
  refine lv_aload_n hx hb dX6_seats_0 rfl (lv_at hl 0 rfl) ?_
  refine lv_iconst (v := 0) hx hb dX6_seats_1 (by decide) ?_
  refine va_put (D := (dC, dI)) (ci := 6) (v := .int 0) (ty := .int) (C := RX6) (T := TX6) (N := 29) hx hb hts hiX6 tyX6 tyX6_ok nmX6 hown hK hP hD hS 0 rfl rfl 0 (by decide) (hts (.fieldLink RX6 62 "OptionLatticeModel" "thrown" "I") (by decide +kernel)) (fun _ h9 => h9) rfl (by decide +kernel) rfl rfl (Nat.le_of_ble_eq_true rfl) dX6_seats_2 (fun H locs hP hD hS => ?_)
  have hP : va_P (dC, dI) vwCl [(h0, .inr (6, [.int 0, .int told_, .ref h0_row, .int columns_, .int rooms_, .int many_, .ref h0_subjectOf, .ref h0_teacherOf, .ref h0_seatsOf, .ref h0_columnOf, .ref h0_barsOf, .int pupils_, .ref h0_choices, .int kept_, .ref h0_tape, .int taped_, .int at_, .int to_, .int digit_, .int number_, .ref h0_was, .ref h0_readChoices, .int readMany_, .ref h0_open, .ref h0_wayOf, .int bestThen_, .ref h0_cure, .ref h0_left, .ref h0_satIn])), (h0_seatsOf, .inl (cyI, 17, .inl seatsOf_))] H := hP
  have hD : va_D A [(h0, .inr (6, [.int 0, .int told_, .ref h0_row, .int columns_, .int rooms_, .int many_, .ref h0_subjectOf, .ref h0_teacherOf, .ref h0_seatsOf, .ref h0_columnOf, .ref h0_barsOf, .int pupils_, .ref h0_choices, .int kept_, .ref h0_tape, .int taped_, .int at_, .int to_, .int digit_, .int number_, .ref h0_was, .ref h0_readChoices, .int readMany_, .ref h0_open, .ref h0_wayOf, .int bestThen_, .ref h0_cure, .ref h0_left, .ref h0_satIn])), (h0_seatsOf, .inl (cyI, 17, .inl seatsOf_))] := hD
  refine lv_aload_n hx hb dX6_seats_5 rfl (lv_at hl 0 rfl) ?_
  refine lv_iload_n hx hb dX6_seats_6 rfl (lv_at hl 1 rfl) ?_
  obtain ⟨r_1, hq, h⟩ := bd1_some h
  refine uV_i (b := h0) (As := [.int v1]) (rest := []) ⟨hx, hb, hml, hown, hts⟩ (c_X6_isSection l dC dI cyC cyI cyJ h0 h0_row h0_subjectOf h0_teacherOf h0_seatsOf h0_columnOf h0_barsOf h0_choices h0_tape h0_was h0_readChoices h0_open h0_wayOf h0_cure h0_left h0_satIn 0 told_ columns_ rooms_ many_ pupils_ kept_ taped_ at_ to_ digit_ number_ readMany_ bestThen_ v1 r_1 hq) (cwV 1 hts gX6_seats_X6_isSection rfl rfl rfl (by decide +kernel) ⟨Nat.le_of_ble_eq_true rfl, Nat.le_of_ble_eq_true rfl⟩) hK hE hA hP hD hS [0] rfl rfl rfl 6 0 rfl rfl rfl hl.1 rfl (Nat.le_of_ble_eq_true rfl) ⟨Nat.zero_le _, Nat.zero_le _⟩ dX6_seats_7 (fun H locs hP hD hS => ?_)
  have hP : va_P (dC, dI) vwCl [(h0, .inr (6, [.int 0, .int told_, .ref h0_row, .int columns_, .int rooms_, .int many_, .ref h0_subjectOf, .ref h0_teacherOf, .ref h0_seatsOf, .ref h0_columnOf, .ref h0_barsOf, .int pupils_, .ref h0_choices, .int kept_, .ref h0_tape, .int taped_, .int at_, .int to_, .int digit_, .int number_, .ref h0_was, .ref h0_readChoices, .int readMany_, .ref h0_open, .ref h0_wayOf, .int bestThen_, .ref h0_cure, .ref h0_left, .ref h0_satIn])), (h0_seatsOf, .inl (cyI, 17, .inl seatsOf_))] H := hP
  have hD : va_D A [(h0, .inr (6, [.int 0, .int told_, .ref h0_row, .int columns_, .int rooms_, .int many_, .ref h0_subjectOf, .ref h0_teacherOf, .ref h0_seatsOf, .ref h0_columnOf, .ref h0_barsOf, .int pupils_, .ref h0_choices, .int kept_, .ref h0_tape, .int taped_, .int at_, .int to_, .int digit_, .int number_, .ref h0_was, .ref h0_readChoices, .int readMany_, .ref h0_open, .ref h0_wayOf, .int bestThen_, .ref h0_cure, .ref h0_left, .ref h0_satIn])), (h0_seatsOf, .inl (cyI, 17, .inl seatsOf_))] := hD
  refine lv_if_eq (tgt := 25) hx hb dX6_seats_10 (by decide) (fun c_ => ?_) (fun c_ => ?_)
  · have h := (if_pos c_).symm.trans h
    refine lv_iconst (v := (-1)) hx hb dX6_seats_25 (by decide) ?_
    have h : some ((-1), 0, seatsOf_) = some (rr, o0, o1) := h
    have z0 := Option.some.inj h
    obtain ⟨rfl, z1⟩ := Prod.mk.inj z0
    obtain ⟨rfl, z2⟩ := Prod.mk.inj z1
    obtain rfl := z2
    exact hret _ _ _ _ hP hS rfl dX6_seats_26
  · have h := (if_neg c_).symm.trans h
    refine lv_iload_n hx hb dX6_seats_13 rfl (lv_at hl 2 rfl) ?_
    refine lv_i2l (v := (Int32.toInt64 v2)) hx hb dX6_seats_14 rfl ?_
    refine lv_lconst (v := 1) hx hb dX6_seats_15 (by decide) ?_
    refine lv_ldc2 hx hb hown (hts (.constantLong RX6 191 (30)) (by decide +kernel)) dX6_seats_16 ?_
    obtain ⟨r_2, hq, h⟩ := bd1_some h
    refine uS_i (As := [.long (Int32.toInt64 v2), .long 1, .long 30]) (rest := []) ⟨hx, hb, hml, hown, hts⟩ (c_X6_in l dC dI cyC cyI cyJ (Int32.toInt64 v2) 1 30 r_2 hq) (va_cwS 3 hts gX6_seats_X6_in rfl rfl rfl (by decide +kernel) ⟨Nat.le_of_ble_eq_true rfl, Nat.le_of_ble_eq_true rfl⟩) hK hE hA hP hD hS [] rfl rfl rfl rfl hl.1 rfl (Nat.le_of_ble_eq_true rfl) ⟨Nat.zero_le _, Nat.zero_le _⟩ dX6_seats_19 (fun H locs hP hD hS => ?_)
    have hP : va_P (dC, dI) vwCl [(h0, .inr (6, [.int 0, .int told_, .ref h0_row, .int columns_, .int rooms_, .int many_, .ref h0_subjectOf, .ref h0_teacherOf, .ref h0_seatsOf, .ref h0_columnOf, .ref h0_barsOf, .int pupils_, .ref h0_choices, .int kept_, .ref h0_tape, .int taped_, .int at_, .int to_, .int digit_, .int number_, .ref h0_was, .ref h0_readChoices, .int readMany_, .ref h0_open, .ref h0_wayOf, .int bestThen_, .ref h0_cure, .ref h0_left, .ref h0_satIn])), (h0_seatsOf, .inl (cyI, 17, .inl seatsOf_))] H := hP
    have hD : va_D A [(h0, .inr (6, [.int 0, .int told_, .ref h0_row, .int columns_, .int rooms_, .int many_, .ref h0_subjectOf, .ref h0_teacherOf, .ref h0_seatsOf, .ref h0_columnOf, .ref h0_barsOf, .int pupils_, .ref h0_choices, .int kept_, .ref h0_tape, .int taped_, .int at_, .int to_, .int digit_, .int number_, .ref h0_was, .ref h0_readChoices, .int readMany_, .ref h0_open, .ref h0_wayOf, .int bestThen_, .ref h0_cure, .ref h0_left, .ref h0_satIn])), (h0_seatsOf, .inl (cyI, 17, .inl seatsOf_))] := hD
    refine lv_if_ne (tgt := 27) hx hb dX6_seats_22 (by decide) (fun c_ => ?_) (fun c_ => ?_)
    · have h := (if_neg c_).symm.trans h
      refine lv_aload_n hx hb dX6_seats_27 rfl (lv_at hl 0 rfl) ?_
      refine va_get (D := (dC, dI)) (ci := 6) (v := .ref h0_seatsOf) (C := RX6) (T := TX6) (N := 29) hx hb hts hiX6 hown hK hP 0 rfl rfl 8 (by decide) (hts (.fieldLink RX6 26 "OptionLatticeModel" "seatsOf" "[I") (by decide +kernel)) (fun _ h9 => h9) rfl dX6_seats_28 ?_
      refine lv_iload_n hx hb dX6_seats_31 rfl (lv_at hl 1 rfl) ?_
      obtain ⟨g_, h⟩ := gd_some h
      refine va_iald hx hb hK hP 1 1 rfl rfl (inb_in g_) dX6_seats_32 ?_
      refine lv_topi (fun v3_3 e_v3_3 => ?_)
      have h := lt_use e_v3_3 h
      refine lv_istore_n (lv' := [(3, .int v3_3), (0, .ref h0), (1, .int v1), (2, .int v2)]) hx hb dX6_seats_33 rfl hl (by decide) rfl (fun ls hl => ?_)
      refine lv_aload_n hx hb dX6_seats_34 rfl (lv_at hl 1 rfl) ?_
      refine va_get (D := (dC, dI)) (ci := 6) (v := .ref h0_seatsOf) (C := RX6) (T := TX6) (N := 29) hx hb hts hiX6 hown hK hP 0 rfl rfl 8 (by decide) (hts (.fieldLink RX6 26 "OptionLatticeModel" "seatsOf" "[I") (by decide +kernel)) (fun _ h9 => h9) rfl dX6_seats_35 ?_
      refine lv_iload_n hx hb dX6_seats_38 rfl (lv_at hl 2 rfl) ?_
      refine lv_iload_n hx hb dX6_seats_39 rfl (lv_at hl 3 rfl) ?_
      obtain ⟨g_, h⟩ := gd_some h
      refine va_iast hx hb hK hP hD hS 1 1 rfl rfl (inb_in g_) dX6_seats_40 (fun H locs hP hD hS => ?_)
      have hP : va_P (dC, dI) vwCl [(h0, .inr (6, [.int 0, .int told_, .ref h0_row, .int columns_, .int rooms_, .int many_, .ref h0_subjectOf, .ref h0_teacherOf, .ref h0_seatsOf, .ref h0_columnOf, .ref h0_barsOf, .int pupils_, .ref h0_choices, .int kept_, .ref h0_tape, .int taped_, .int at_, .int to_, .int digit_, .int number_, .ref h0_was, .ref h0_readChoices, .int readMany_, .ref h0_open, .ref h0_wayOf, .int bestThen_, .ref h0_cure, .ref h0_left, .ref h0_satIn])), (h0_seatsOf, .inl (cyI, 17, .inl (upd seatsOf_ v1.toNatClampNeg v2)))] H := hP
      have hD : va_D A [(h0, .inr (6, [.int 0, .int told_, .ref h0_row, .int columns_, .int rooms_, .int many_, .ref h0_subjectOf, .ref h0_teacherOf, .ref h0_seatsOf, .ref h0_columnOf, .ref h0_barsOf, .int pupils_, .ref h0_choices, .int kept_, .ref h0_tape, .int taped_, .int at_, .int to_, .int digit_, .int number_, .ref h0_was, .ref h0_readChoices, .int readMany_, .ref h0_open, .ref h0_wayOf, .int bestThen_, .ref h0_cure, .ref h0_left, .ref h0_satIn])), (h0_seatsOf, .inl (cyI, 17, .inl (upd seatsOf_ v1.toNatClampNeg v2)))] := hD
      refine lv_iload_n hx hb dX6_seats_41 rfl (lv_at hl 0 rfl) ?_
      have h : some (v3_3, 0, (upd seatsOf_ v1.toNatClampNeg v2)) = some (rr, o0, o1) := h
      have z0 := Option.some.inj h
      obtain ⟨rfl, z1⟩ := Prod.mk.inj z0
      obtain ⟨rfl, z2⟩ := Prod.mk.inj z1
      obtain rfl := z2
      exact hret _ _ _ _ hP hS rfl dX6_seats_42
    · have h := (if_pos c_).symm.trans h
      refine lv_iconst (v := (-1)) hx hb dX6_seats_25 (by decide) ?_
      have h : some ((-1), 0, seatsOf_) = some (rr, o0, o1) := h
      have z0 := Option.some.inj h
      obtain ⟨rfl, z1⟩ := Prod.mk.inj z0
      obtain ⟨rfl, z2⟩ := Prod.mk.inj z1
      obtain rfl := z2
      exact hret _ _ _ _ hP hS rfl dX6_seats_26

def m_X6_puts (thrown_ : Int32) (columns_ : Int32) (rooms_ : Int32) (many_ : Int32) (pupils_ : Int32) (subjectOf_ : Nat → Int32) (teacherOf_ : Nat → Int32) (columnOf_ : Nat → Int32) (barsOf_ : Nat → Int32) (choices_ : Nat → Int32) (open_ : Nat → Int32) (v1 : Int32) (v2 : Int32) : Option (Int32 × Int32 × (Nat → Int32) × (Nat → Int32)) :=
  bd1 (m_X6_isSection many_ v1) (fun r_1 => (if r_1 = 0 then some ((-1), 0, columnOf_, open_) else bd1 (m_X6_isColumn columns_ v2) (fun r_2 => (if r_2 = 0 then some ((-1), 0, columnOf_, open_) else gd (inb v1 17) ((if (columnOf_ v1.toNatClampNeg) = v2 then some ((-2), 0, columnOf_, open_) else bd1 (m_X6_isLegal rooms_ many_ teacherOf_ columnOf_ barsOf_ v1 v2) (fun r_3 => (if r_3 = 0 then some ((-3), 0, columnOf_, open_) else gd (inb v1 17) (bd2 (m_X6_fitting many_ pupils_ subjectOf_ (upd columnOf_ v1.toNatClampNeg v2) choices_ open_) (fun r_4 open_5 => bd1 (m_X6_bits r_4) (fun r_6 => some (r_6, 0, (upd columnOf_ v1.toNatClampNeg v2), open_5))))))))))))
abbrev rmX6_puts : Room := { frames := 11, cells := 0, slots := 0, locals := 259 }
set_option maxHeartbeats 4000000 in
set_option maxRecDepth 100000 in
theorem c_X6_puts (l : Launch) (dC : Nat → ClassId) (dI : Nat → Nat → Nat) (cyC cyI cyJ : ClassId) (h0 h0_row h0_subjectOf h0_teacherOf h0_seatsOf h0_columnOf h0_barsOf h0_choices h0_tape h0_was h0_readChoices h0_open h0_wayOf h0_cure h0_left h0_satIn : Nat) (thrown_ : Int32) (told_ : Int32) (columns_ : Int32) (rooms_ : Int32) (many_ : Int32) (pupils_ : Int32) (kept_ : Int32) (taped_ : Int32) (at_ : Int32) (to_ : Int32) (digit_ : Int32) (number_ : Int32) (readMany_ : Int32) (bestThen_ : Int32) (subjectOf_ : Nat → Int32) (teacherOf_ : Nat → Int32) (columnOf_ : Nat → Int32) (barsOf_ : Nat → Int32) (choices_ : Nat → Int32) (open_ : Nat → Int32) (v1 : Int32) (v2 : Int32) (rr : Int32) (o0 : Int32) (o1 : Nat → Int32) (o2 : Nat → Int32) (h : m_X6_puts thrown_ columns_ rooms_ many_ pupils_ subjectOf_ teacherOf_ columnOf_ barsOf_ choices_ open_ v1 v2 = some (rr, o0, o1, o2)) : uMi l yX6_puts wsX6_puts rmX6_puts (dC, dI) [(cyC, .char), (cyI, .int), (cyJ, .long)] [.ref h0, .int v1, .int v2] [(h0, .inr (6, [.int thrown_, .int told_, .ref h0_row, .int columns_, .int rooms_, .int many_, .ref h0_subjectOf, .ref h0_teacherOf, .ref h0_seatsOf, .ref h0_columnOf, .ref h0_barsOf, .int pupils_, .ref h0_choices, .int kept_, .ref h0_tape, .int taped_, .int at_, .int to_, .int digit_, .int number_, .ref h0_was, .ref h0_readChoices, .int readMany_, .ref h0_open, .ref h0_wayOf, .int bestThen_, .ref h0_cure, .ref h0_left, .ref h0_satIn])), (h0_subjectOf, .inl (cyI, 17, .inl subjectOf_)), (h0_teacherOf, .inl (cyI, 17, .inl teacherOf_)), (h0_columnOf, .inl (cyI, 17, .inl columnOf_)), (h0_barsOf, .inl (cyI, 10, .inl barsOf_)), (h0_choices, .inl (cyI, 24, .inl choices_)), (h0_open, .inl (cyI, 10, .inl open_))] [(h0, .inr (6, [.int o0, .int told_, .ref h0_row, .int columns_, .int rooms_, .int many_, .ref h0_subjectOf, .ref h0_teacherOf, .ref h0_seatsOf, .ref h0_columnOf, .ref h0_barsOf, .int pupils_, .ref h0_choices, .int kept_, .ref h0_tape, .int taped_, .int at_, .int to_, .int digit_, .int number_, .ref h0_was, .ref h0_readChoices, .int readMany_, .ref h0_open, .ref h0_wayOf, .int bestThen_, .ref h0_cure, .ref h0_left, .ref h0_satIn])), (h0_subjectOf, .inl (cyI, 17, .inl subjectOf_)), (h0_teacherOf, .inl (cyI, 17, .inl teacherOf_)), (h0_columnOf, .inl (cyI, 17, .inl o1)), (h0_barsOf, .inl (cyI, 10, .inl barsOf_)), (h0_choices, .inl (cyI, 24, .inl choices_)), (h0_open, .inl (cyI, 10, .inl o2))] rr := by
  refine uMi.of (cc := cX6_puts) (maxL := 3) (by decide) rfl (Nat.le_of_ble_eq_true rfl) (fun p e s m args below meth c A ls Q hx hb hml hown hts hA hP hK hD hE hS hl hret => ?_)
  have hown : s.vm.findClass RX6 = some m.cls := hown
  have hl : lv_has ls 3 [(0, .ref h0), (1, .int v1), (2, .int v2)] := hl
  have hiX6 : ∀ w ∈ u_ws RX6 TX6 29, w ∈ wsX6_puts := fun _ h9 => List.mem_cons_of_mem _ (List.mem_append_right _ h9)
  unfold m_X6_puts at h
  refine lv_aload_n hx hb dX6_puts_0 rfl (lv_at hl 0 rfl) ?_
  refine lv_iconst (v := 0) hx hb dX6_puts_1 (by decide) ?_
  refine va_put (D := (dC, dI)) (ci := 6) (v := .int 0) (ty := .int) (C := RX6) (T := TX6) (N := 29) hx hb hts hiX6 tyX6 tyX6_ok nmX6 hown hK hP hD hS 0 rfl rfl 0 (by decide) (hts (.fieldLink RX6 62 "OptionLatticeModel" "thrown" "I") (by decide +kernel)) (fun _ h9 => h9) rfl (by decide +kernel) rfl rfl (Nat.le_of_ble_eq_true rfl) dX6_puts_2 (fun H locs hP hD hS => ?_)
  have hP : va_P (dC, dI) vwCl [(h0, .inr (6, [.int 0, .int told_, .ref h0_row, .int columns_, .int rooms_, .int many_, .ref h0_subjectOf, .ref h0_teacherOf, .ref h0_seatsOf, .ref h0_columnOf, .ref h0_barsOf, .int pupils_, .ref h0_choices, .int kept_, .ref h0_tape, .int taped_, .int at_, .int to_, .int digit_, .int number_, .ref h0_was, .ref h0_readChoices, .int readMany_, .ref h0_open, .ref h0_wayOf, .int bestThen_, .ref h0_cure, .ref h0_left, .ref h0_satIn])), (h0_subjectOf, .inl (cyI, 17, .inl subjectOf_)), (h0_teacherOf, .inl (cyI, 17, .inl teacherOf_)), (h0_columnOf, .inl (cyI, 17, .inl columnOf_)), (h0_barsOf, .inl (cyI, 10, .inl barsOf_)), (h0_choices, .inl (cyI, 24, .inl choices_)), (h0_open, .inl (cyI, 10, .inl open_))] H := hP
  have hD : va_D A [(h0, .inr (6, [.int 0, .int told_, .ref h0_row, .int columns_, .int rooms_, .int many_, .ref h0_subjectOf, .ref h0_teacherOf, .ref h0_seatsOf, .ref h0_columnOf, .ref h0_barsOf, .int pupils_, .ref h0_choices, .int kept_, .ref h0_tape, .int taped_, .int at_, .int to_, .int digit_, .int number_, .ref h0_was, .ref h0_readChoices, .int readMany_, .ref h0_open, .ref h0_wayOf, .int bestThen_, .ref h0_cure, .ref h0_left, .ref h0_satIn])), (h0_subjectOf, .inl (cyI, 17, .inl subjectOf_)), (h0_teacherOf, .inl (cyI, 17, .inl teacherOf_)), (h0_columnOf, .inl (cyI, 17, .inl columnOf_)), (h0_barsOf, .inl (cyI, 10, .inl barsOf_)), (h0_choices, .inl (cyI, 24, .inl choices_)), (h0_open, .inl (cyI, 10, .inl open_))] := hD
  refine lv_aload_n hx hb dX6_puts_5 rfl (lv_at hl 0 rfl) ?_
  refine lv_iload_n hx hb dX6_puts_6 rfl (lv_at hl 1 rfl) ?_
  obtain ⟨r_1, hq, h⟩ := bd1_some h
  refine uV_i (b := h0) (As := [.int v1]) (rest := []) ⟨hx, hb, hml, hown, hts⟩ (c_X6_isSection l dC dI cyC cyI cyJ h0 h0_row h0_subjectOf h0_teacherOf h0_seatsOf h0_columnOf h0_barsOf h0_choices h0_tape h0_was h0_readChoices h0_open h0_wayOf h0_cure h0_left h0_satIn 0 told_ columns_ rooms_ many_ pupils_ kept_ taped_ at_ to_ digit_ number_ readMany_ bestThen_ v1 r_1 hq) (cwV 1 hts gX6_puts_X6_isSection rfl rfl rfl (by decide +kernel) ⟨Nat.le_of_ble_eq_true rfl, Nat.le_of_ble_eq_true rfl⟩) hK hE hA hP hD hS [0] rfl rfl rfl 6 0 rfl rfl rfl hl.1 rfl (Nat.le_of_ble_eq_true rfl) ⟨Nat.zero_le _, Nat.zero_le _⟩ dX6_puts_7 (fun H locs hP hD hS => ?_)
  have hP : va_P (dC, dI) vwCl [(h0, .inr (6, [.int 0, .int told_, .ref h0_row, .int columns_, .int rooms_, .int many_, .ref h0_subjectOf, .ref h0_teacherOf, .ref h0_seatsOf, .ref h0_columnOf, .ref h0_barsOf, .int pupils_, .ref h0_choices, .int kept_, .ref h0_tape, .int taped_, .int at_, .int to_, .int digit_, .int number_, .ref h0_was, .ref h0_readChoices, .int readMany_, .ref h0_open, .ref h0_wayOf, .int bestThen_, .ref h0_cure, .ref h0_left, .ref h0_satIn])), (h0_subjectOf, .inl (cyI, 17, .inl subjectOf_)), (h0_teacherOf, .inl (cyI, 17, .inl teacherOf_)), (h0_columnOf, .inl (cyI, 17, .inl columnOf_)), (h0_barsOf, .inl (cyI, 10, .inl barsOf_)), (h0_choices, .inl (cyI, 24, .inl choices_)), (h0_open, .inl (cyI, 10, .inl open_))] H := hP
  have hD : va_D A [(h0, .inr (6, [.int 0, .int told_, .ref h0_row, .int columns_, .int rooms_, .int many_, .ref h0_subjectOf, .ref h0_teacherOf, .ref h0_seatsOf, .ref h0_columnOf, .ref h0_barsOf, .int pupils_, .ref h0_choices, .int kept_, .ref h0_tape, .int taped_, .int at_, .int to_, .int digit_, .int number_, .ref h0_was, .ref h0_readChoices, .int readMany_, .ref h0_open, .ref h0_wayOf, .int bestThen_, .ref h0_cure, .ref h0_left, .ref h0_satIn])), (h0_subjectOf, .inl (cyI, 17, .inl subjectOf_)), (h0_teacherOf, .inl (cyI, 17, .inl teacherOf_)), (h0_columnOf, .inl (cyI, 17, .inl columnOf_)), (h0_barsOf, .inl (cyI, 10, .inl barsOf_)), (h0_choices, .inl (cyI, 24, .inl choices_)), (h0_open, .inl (cyI, 10, .inl open_))] := hD
  refine lv_if_eq (tgt := 21) hx hb dX6_puts_10 (by decide) (fun c_ => ?_) (fun c_ => ?_)
  · have h := (if_pos c_).symm.trans h
    refine lv_iconst (v := (-1)) hx hb dX6_puts_21 (by decide) ?_
    have h : some ((-1), 0, columnOf_, open_) = some (rr, o0, o1, o2) := h
    have z0 := Option.some.inj h
    obtain ⟨rfl, z1⟩ := Prod.mk.inj z0
    obtain ⟨rfl, z2⟩ := Prod.mk.inj z1
    obtain ⟨rfl, z3⟩ := Prod.mk.inj z2
    obtain rfl := z3
    exact hret _ _ _ _ hP hS rfl dX6_puts_22
  · have h := (if_neg c_).symm.trans h
    refine lv_aload_n hx hb dX6_puts_13 rfl (lv_at hl 0 rfl) ?_
    refine lv_iload_n hx hb dX6_puts_14 rfl (lv_at hl 2 rfl) ?_
    obtain ⟨r_2, hq, h⟩ := bd1_some h
    refine uV_i (b := h0) (As := [.int v2]) (rest := []) ⟨hx, hb, hml, hown, hts⟩ (c_X6_isColumn l dC dI cyC cyI cyJ h0 h0_row h0_subjectOf h0_teacherOf h0_seatsOf h0_columnOf h0_barsOf h0_choices h0_tape h0_was h0_readChoices h0_open h0_wayOf h0_cure h0_left h0_satIn 0 told_ columns_ rooms_ many_ pupils_ kept_ taped_ at_ to_ digit_ number_ readMany_ bestThen_ v2 r_2 hq) (cwV 1 hts gX6_puts_X6_isColumn rfl rfl rfl (by decide +kernel) ⟨Nat.le_of_ble_eq_true rfl, Nat.le_of_ble_eq_true rfl⟩) hK hE hA hP hD hS [0] rfl rfl rfl 6 0 rfl rfl rfl hl.1 rfl (Nat.le_of_ble_eq_true rfl) ⟨Nat.zero_le _, Nat.zero_le _⟩ dX6_puts_15 (fun H locs hP hD hS => ?_)
    have hP : va_P (dC, dI) vwCl [(h0, .inr (6, [.int 0, .int told_, .ref h0_row, .int columns_, .int rooms_, .int many_, .ref h0_subjectOf, .ref h0_teacherOf, .ref h0_seatsOf, .ref h0_columnOf, .ref h0_barsOf, .int pupils_, .ref h0_choices, .int kept_, .ref h0_tape, .int taped_, .int at_, .int to_, .int digit_, .int number_, .ref h0_was, .ref h0_readChoices, .int readMany_, .ref h0_open, .ref h0_wayOf, .int bestThen_, .ref h0_cure, .ref h0_left, .ref h0_satIn])), (h0_subjectOf, .inl (cyI, 17, .inl subjectOf_)), (h0_teacherOf, .inl (cyI, 17, .inl teacherOf_)), (h0_columnOf, .inl (cyI, 17, .inl columnOf_)), (h0_barsOf, .inl (cyI, 10, .inl barsOf_)), (h0_choices, .inl (cyI, 24, .inl choices_)), (h0_open, .inl (cyI, 10, .inl open_))] H := hP
    have hD : va_D A [(h0, .inr (6, [.int 0, .int told_, .ref h0_row, .int columns_, .int rooms_, .int many_, .ref h0_subjectOf, .ref h0_teacherOf, .ref h0_seatsOf, .ref h0_columnOf, .ref h0_barsOf, .int pupils_, .ref h0_choices, .int kept_, .ref h0_tape, .int taped_, .int at_, .int to_, .int digit_, .int number_, .ref h0_was, .ref h0_readChoices, .int readMany_, .ref h0_open, .ref h0_wayOf, .int bestThen_, .ref h0_cure, .ref h0_left, .ref h0_satIn])), (h0_subjectOf, .inl (cyI, 17, .inl subjectOf_)), (h0_teacherOf, .inl (cyI, 17, .inl teacherOf_)), (h0_columnOf, .inl (cyI, 17, .inl columnOf_)), (h0_barsOf, .inl (cyI, 10, .inl barsOf_)), (h0_choices, .inl (cyI, 24, .inl choices_)), (h0_open, .inl (cyI, 10, .inl open_))] := hD
    refine lv_if_ne (tgt := 23) hx hb dX6_puts_18 (by decide) (fun c_ => ?_) (fun c_ => ?_)
    · have h := (if_neg c_).symm.trans h
      refine lv_aload_n hx hb dX6_puts_23 rfl (lv_at hl 0 rfl) ?_
      refine va_get (D := (dC, dI)) (ci := 6) (v := .ref h0_columnOf) (C := RX6) (T := TX6) (N := 29) hx hb hts hiX6 hown hK hP 0 rfl rfl 9 (by decide) (hts (.fieldLink RX6 29 "OptionLatticeModel" "columnOf" "[I") (by decide +kernel)) (fun _ h9 => h9) rfl dX6_puts_24 ?_
      refine lv_iload_n hx hb dX6_puts_27 rfl (lv_at hl 1 rfl) ?_
      obtain ⟨g_, h⟩ := gd_some h
      refine va_iald hx hb hK hP 3 1 rfl rfl (inb_in g_) dX6_puts_28 ?_
      refine lv_iload_n hx hb dX6_puts_29 rfl (lv_at hl 2 rfl) ?_
      refine lv_icmp_ne (tgt := 36) hx hb dX6_puts_30 (by decide) (fun c_ => ?_) (fun c_ => ?_)
      · have h := (if_neg c_).symm.trans h
        refine lv_aload_n hx hb dX6_puts_36 rfl (lv_at hl 0 rfl) ?_
        refine lv_iload_n hx hb dX6_puts_37 rfl (lv_at hl 1 rfl) ?_
        refine lv_iload_n hx hb dX6_puts_38 rfl (lv_at hl 2 rfl) ?_
        obtain ⟨r_3, hq, h⟩ := bd1_some h
        refine uV_i (b := h0) (As := [.int v1, .int v2]) (rest := []) ⟨hx, hb, hml, hown, hts⟩ (c_X6_isLegal l dC dI cyC cyI cyJ h0 h0_row h0_subjectOf h0_teacherOf h0_seatsOf h0_columnOf h0_barsOf h0_choices h0_tape h0_was h0_readChoices h0_open h0_wayOf h0_cure h0_left h0_satIn 0 told_ columns_ rooms_ many_ pupils_ kept_ taped_ at_ to_ digit_ number_ readMany_ bestThen_ teacherOf_ columnOf_ barsOf_ v1 v2 r_3 hq) (cwV 2 hts gX6_puts_X6_isLegal rfl rfl rfl (by decide +kernel) ⟨Nat.le_of_ble_eq_true rfl, Nat.le_of_ble_eq_true rfl⟩) hK hE hA hP hD hS [0, 2, 3, 4] rfl rfl rfl 6 0 rfl rfl rfl hl.1 rfl (Nat.le_of_ble_eq_true rfl) ⟨Nat.zero_le _, Nat.zero_le _⟩ dX6_puts_39 (fun H locs hP hD hS => ?_)
        have hP : va_P (dC, dI) vwCl [(h0, .inr (6, [.int 0, .int told_, .ref h0_row, .int columns_, .int rooms_, .int many_, .ref h0_subjectOf, .ref h0_teacherOf, .ref h0_seatsOf, .ref h0_columnOf, .ref h0_barsOf, .int pupils_, .ref h0_choices, .int kept_, .ref h0_tape, .int taped_, .int at_, .int to_, .int digit_, .int number_, .ref h0_was, .ref h0_readChoices, .int readMany_, .ref h0_open, .ref h0_wayOf, .int bestThen_, .ref h0_cure, .ref h0_left, .ref h0_satIn])), (h0_subjectOf, .inl (cyI, 17, .inl subjectOf_)), (h0_teacherOf, .inl (cyI, 17, .inl teacherOf_)), (h0_columnOf, .inl (cyI, 17, .inl columnOf_)), (h0_barsOf, .inl (cyI, 10, .inl barsOf_)), (h0_choices, .inl (cyI, 24, .inl choices_)), (h0_open, .inl (cyI, 10, .inl open_))] H := hP
        have hD : va_D A [(h0, .inr (6, [.int 0, .int told_, .ref h0_row, .int columns_, .int rooms_, .int many_, .ref h0_subjectOf, .ref h0_teacherOf, .ref h0_seatsOf, .ref h0_columnOf, .ref h0_barsOf, .int pupils_, .ref h0_choices, .int kept_, .ref h0_tape, .int taped_, .int at_, .int to_, .int digit_, .int number_, .ref h0_was, .ref h0_readChoices, .int readMany_, .ref h0_open, .ref h0_wayOf, .int bestThen_, .ref h0_cure, .ref h0_left, .ref h0_satIn])), (h0_subjectOf, .inl (cyI, 17, .inl subjectOf_)), (h0_teacherOf, .inl (cyI, 17, .inl teacherOf_)), (h0_columnOf, .inl (cyI, 17, .inl columnOf_)), (h0_barsOf, .inl (cyI, 10, .inl barsOf_)), (h0_choices, .inl (cyI, 24, .inl choices_)), (h0_open, .inl (cyI, 10, .inl open_))] := hD
        refine lv_if_ne (tgt := 48) hx hb dX6_puts_42 (by decide) (fun c_ => ?_) (fun c_ => ?_)
        · have h := (if_neg c_).symm.trans h
          refine lv_aload_n hx hb dX6_puts_48 rfl (lv_at hl 0 rfl) ?_
          refine va_get (D := (dC, dI)) (ci := 6) (v := .ref h0_columnOf) (C := RX6) (T := TX6) (N := 29) hx hb hts hiX6 hown hK hP 0 rfl rfl 9 (by decide) (hts (.fieldLink RX6 29 "OptionLatticeModel" "columnOf" "[I") (by decide +kernel)) (fun _ h9 => h9) rfl dX6_puts_49 ?_
          refine lv_iload_n hx hb dX6_puts_52 rfl (lv_at hl 1 rfl) ?_
          refine lv_iload_n hx hb dX6_puts_53 rfl (lv_at hl 2 rfl) ?_
          obtain ⟨g_, h⟩ := gd_some h
          refine va_iast hx hb hK hP hD hS 3 1 rfl rfl (inb_in g_) dX6_puts_54 (fun H locs hP hD hS => ?_)
          have hP : va_P (dC, dI) vwCl [(h0, .inr (6, [.int 0, .int told_, .ref h0_row, .int columns_, .int rooms_, .int many_, .ref h0_subjectOf, .ref h0_teacherOf, .ref h0_seatsOf, .ref h0_columnOf, .ref h0_barsOf, .int pupils_, .ref h0_choices, .int kept_, .ref h0_tape, .int taped_, .int at_, .int to_, .int digit_, .int number_, .ref h0_was, .ref h0_readChoices, .int readMany_, .ref h0_open, .ref h0_wayOf, .int bestThen_, .ref h0_cure, .ref h0_left, .ref h0_satIn])), (h0_subjectOf, .inl (cyI, 17, .inl subjectOf_)), (h0_teacherOf, .inl (cyI, 17, .inl teacherOf_)), (h0_columnOf, .inl (cyI, 17, .inl (upd columnOf_ v1.toNatClampNeg v2))), (h0_barsOf, .inl (cyI, 10, .inl barsOf_)), (h0_choices, .inl (cyI, 24, .inl choices_)), (h0_open, .inl (cyI, 10, .inl open_))] H := hP
          have hD : va_D A [(h0, .inr (6, [.int 0, .int told_, .ref h0_row, .int columns_, .int rooms_, .int many_, .ref h0_subjectOf, .ref h0_teacherOf, .ref h0_seatsOf, .ref h0_columnOf, .ref h0_barsOf, .int pupils_, .ref h0_choices, .int kept_, .ref h0_tape, .int taped_, .int at_, .int to_, .int digit_, .int number_, .ref h0_was, .ref h0_readChoices, .int readMany_, .ref h0_open, .ref h0_wayOf, .int bestThen_, .ref h0_cure, .ref h0_left, .ref h0_satIn])), (h0_subjectOf, .inl (cyI, 17, .inl subjectOf_)), (h0_teacherOf, .inl (cyI, 17, .inl teacherOf_)), (h0_columnOf, .inl (cyI, 17, .inl (upd columnOf_ v1.toNatClampNeg v2))), (h0_barsOf, .inl (cyI, 10, .inl barsOf_)), (h0_choices, .inl (cyI, 24, .inl choices_)), (h0_open, .inl (cyI, 10, .inl open_))] := hD
          refine lv_aload_n hx hb dX6_puts_55 rfl (lv_at hl 0 rfl) ?_
          obtain ⟨r_4, open_5, hq, h⟩ := bd2_some h
          refine uV_i (b := h0) (As := []) (rest := []) ⟨hx, hb, hml, hown, hts⟩ (c_X6_fitting l dC dI cyC cyI cyJ h0 h0_row h0_subjectOf h0_teacherOf h0_seatsOf h0_columnOf h0_barsOf h0_choices h0_tape h0_was h0_readChoices h0_open h0_wayOf h0_cure h0_left h0_satIn 0 told_ columns_ rooms_ many_ pupils_ kept_ taped_ at_ to_ digit_ number_ readMany_ bestThen_ subjectOf_ (upd columnOf_ v1.toNatClampNeg v2) choices_ open_ r_4 open_5 hq) (cwV 0 hts gX6_puts_X6_fitting rfl rfl rfl (by decide +kernel) ⟨Nat.le_of_ble_eq_true rfl, Nat.le_of_ble_eq_true rfl⟩) hK hE hA hP hD hS [0, 1, 3, 5, 6] rfl rfl rfl 6 0 rfl rfl rfl hl.1 rfl (Nat.le_of_ble_eq_true rfl) ⟨Nat.zero_le _, Nat.zero_le _⟩ dX6_puts_56 (fun H locs hP hD hS => ?_)
          have hP : va_P (dC, dI) vwCl [(h0, .inr (6, [.int 0, .int told_, .ref h0_row, .int columns_, .int rooms_, .int many_, .ref h0_subjectOf, .ref h0_teacherOf, .ref h0_seatsOf, .ref h0_columnOf, .ref h0_barsOf, .int pupils_, .ref h0_choices, .int kept_, .ref h0_tape, .int taped_, .int at_, .int to_, .int digit_, .int number_, .ref h0_was, .ref h0_readChoices, .int readMany_, .ref h0_open, .ref h0_wayOf, .int bestThen_, .ref h0_cure, .ref h0_left, .ref h0_satIn])), (h0_subjectOf, .inl (cyI, 17, .inl subjectOf_)), (h0_teacherOf, .inl (cyI, 17, .inl teacherOf_)), (h0_columnOf, .inl (cyI, 17, .inl (upd columnOf_ v1.toNatClampNeg v2))), (h0_barsOf, .inl (cyI, 10, .inl barsOf_)), (h0_choices, .inl (cyI, 24, .inl choices_)), (h0_open, .inl (cyI, 10, .inl open_5))] H := hP
          have hD : va_D A [(h0, .inr (6, [.int 0, .int told_, .ref h0_row, .int columns_, .int rooms_, .int many_, .ref h0_subjectOf, .ref h0_teacherOf, .ref h0_seatsOf, .ref h0_columnOf, .ref h0_barsOf, .int pupils_, .ref h0_choices, .int kept_, .ref h0_tape, .int taped_, .int at_, .int to_, .int digit_, .int number_, .ref h0_was, .ref h0_readChoices, .int readMany_, .ref h0_open, .ref h0_wayOf, .int bestThen_, .ref h0_cure, .ref h0_left, .ref h0_satIn])), (h0_subjectOf, .inl (cyI, 17, .inl subjectOf_)), (h0_teacherOf, .inl (cyI, 17, .inl teacherOf_)), (h0_columnOf, .inl (cyI, 17, .inl (upd columnOf_ v1.toNatClampNeg v2))), (h0_barsOf, .inl (cyI, 10, .inl barsOf_)), (h0_choices, .inl (cyI, 24, .inl choices_)), (h0_open, .inl (cyI, 10, .inl open_5))] := hD
          obtain ⟨r_6, hq, h⟩ := bd1_some h
          refine uS_i (As := [.int r_4]) (rest := []) ⟨hx, hb, hml, hown, hts⟩ (c_X6_bits l dC dI cyC cyI cyJ r_4 r_6 hq) (va_cwS 1 hts gX6_puts_X6_bits rfl rfl rfl (by decide +kernel) ⟨Nat.le_of_ble_eq_true rfl, Nat.le_of_ble_eq_true rfl⟩) hK hE hA hP hD hS [] rfl rfl rfl rfl hl.1 rfl (Nat.le_of_ble_eq_true rfl) ⟨Nat.zero_le _, Nat.zero_le _⟩ dX6_puts_59 (fun H locs hP hD hS => ?_)
          have hP : va_P (dC, dI) vwCl [(h0, .inr (6, [.int 0, .int told_, .ref h0_row, .int columns_, .int rooms_, .int many_, .ref h0_subjectOf, .ref h0_teacherOf, .ref h0_seatsOf, .ref h0_columnOf, .ref h0_barsOf, .int pupils_, .ref h0_choices, .int kept_, .ref h0_tape, .int taped_, .int at_, .int to_, .int digit_, .int number_, .ref h0_was, .ref h0_readChoices, .int readMany_, .ref h0_open, .ref h0_wayOf, .int bestThen_, .ref h0_cure, .ref h0_left, .ref h0_satIn])), (h0_subjectOf, .inl (cyI, 17, .inl subjectOf_)), (h0_teacherOf, .inl (cyI, 17, .inl teacherOf_)), (h0_columnOf, .inl (cyI, 17, .inl (upd columnOf_ v1.toNatClampNeg v2))), (h0_barsOf, .inl (cyI, 10, .inl barsOf_)), (h0_choices, .inl (cyI, 24, .inl choices_)), (h0_open, .inl (cyI, 10, .inl open_5))] H := hP
          have hD : va_D A [(h0, .inr (6, [.int 0, .int told_, .ref h0_row, .int columns_, .int rooms_, .int many_, .ref h0_subjectOf, .ref h0_teacherOf, .ref h0_seatsOf, .ref h0_columnOf, .ref h0_barsOf, .int pupils_, .ref h0_choices, .int kept_, .ref h0_tape, .int taped_, .int at_, .int to_, .int digit_, .int number_, .ref h0_was, .ref h0_readChoices, .int readMany_, .ref h0_open, .ref h0_wayOf, .int bestThen_, .ref h0_cure, .ref h0_left, .ref h0_satIn])), (h0_subjectOf, .inl (cyI, 17, .inl subjectOf_)), (h0_teacherOf, .inl (cyI, 17, .inl teacherOf_)), (h0_columnOf, .inl (cyI, 17, .inl (upd columnOf_ v1.toNatClampNeg v2))), (h0_barsOf, .inl (cyI, 10, .inl barsOf_)), (h0_choices, .inl (cyI, 24, .inl choices_)), (h0_open, .inl (cyI, 10, .inl open_5))] := hD
          have h : some (r_6, 0, (upd columnOf_ v1.toNatClampNeg v2), open_5) = some (rr, o0, o1, o2) := h
          have z0 := Option.some.inj h
          obtain ⟨rfl, z1⟩ := Prod.mk.inj z0
          obtain ⟨rfl, z2⟩ := Prod.mk.inj z1
          obtain ⟨rfl, z3⟩ := Prod.mk.inj z2
          obtain rfl := z3
          exact hret _ _ _ _ hP hS rfl dX6_puts_62
        · have h := (if_pos c_).symm.trans h
          refine lv_bipush (v := (-3)) hx hb dX6_puts_45 (by decide) ?_
          have h : some ((-3), 0, columnOf_, open_) = some (rr, o0, o1, o2) := h
          have z0 := Option.some.inj h
          obtain ⟨rfl, z1⟩ := Prod.mk.inj z0
          obtain ⟨rfl, z2⟩ := Prod.mk.inj z1
          obtain ⟨rfl, z3⟩ := Prod.mk.inj z2
          obtain rfl := z3
          exact hret _ _ _ _ hP hS rfl dX6_puts_47
      · have h := (if_pos c_).symm.trans h
        refine lv_bipush (v := (-2)) hx hb dX6_puts_33 (by decide) ?_
        have h : some ((-2), 0, columnOf_, open_) = some (rr, o0, o1, o2) := h
        have z0 := Option.some.inj h
        obtain ⟨rfl, z1⟩ := Prod.mk.inj z0
        obtain ⟨rfl, z2⟩ := Prod.mk.inj z1
        obtain ⟨rfl, z3⟩ := Prod.mk.inj z2
        obtain rfl := z3
        exact hret _ _ _ _ hP hS rfl dX6_puts_35
    · have h := (if_pos c_).symm.trans h
      refine lv_iconst (v := (-1)) hx hb dX6_puts_21 (by decide) ?_
      have h : some ((-1), 0, columnOf_, open_) = some (rr, o0, o1, o2) := h
      have z0 := Option.some.inj h
      obtain ⟨rfl, z1⟩ := Prod.mk.inj z0
      obtain ⟨rfl, z2⟩ := Prod.mk.inj z1
      obtain ⟨rfl, z3⟩ := Prod.mk.inj z2
      obtain rfl := z3
      exact hret _ _ _ _ hP hS rfl dX6_puts_22

def m_X6_takes (thrown_ : Int32) (many_ : Int32) (pupils_ : Int32) (subjectOf_ : Nat → Int32) (columnOf_ : Nat → Int32) (choices_ : Nat → Int32) (open_ : Nat → Int32) (v1 : Int32) : Option (Int32 × Int32 × (Nat → Int32) × (Nat → Int32)) :=
  bd1 (m_X6_isSection many_ v1) (fun r_1 => (if r_1 = 0 then some ((-1), 0, columnOf_, open_) else gd (inb v1 17) ((if (columnOf_ v1.toNatClampNeg) = (-2) then some ((-2), 0, columnOf_, open_) else gd (inb v1 17) (bd2 (m_X6_fitting many_ pupils_ subjectOf_ (upd columnOf_ v1.toNatClampNeg (-2)) choices_ open_) (fun r_2 open_3 => bd1 (m_X6_bits r_2) (fun r_4 => some (r_4, 0, (upd columnOf_ v1.toNatClampNeg (-2)), open_3))))))))
abbrev rmX6_takes : Room := { frames := 11, cells := 0, slots := 0, locals := 259 }
set_option maxHeartbeats 4000000 in
set_option maxRecDepth 100000 in
theorem c_X6_takes (l : Launch) (dC : Nat → ClassId) (dI : Nat → Nat → Nat) (cyC cyI cyJ : ClassId) (h0 h0_row h0_subjectOf h0_teacherOf h0_seatsOf h0_columnOf h0_barsOf h0_choices h0_tape h0_was h0_readChoices h0_open h0_wayOf h0_cure h0_left h0_satIn : Nat) (thrown_ : Int32) (told_ : Int32) (columns_ : Int32) (rooms_ : Int32) (many_ : Int32) (pupils_ : Int32) (kept_ : Int32) (taped_ : Int32) (at_ : Int32) (to_ : Int32) (digit_ : Int32) (number_ : Int32) (readMany_ : Int32) (bestThen_ : Int32) (subjectOf_ : Nat → Int32) (columnOf_ : Nat → Int32) (choices_ : Nat → Int32) (open_ : Nat → Int32) (v1 : Int32) (rr : Int32) (o0 : Int32) (o1 : Nat → Int32) (o2 : Nat → Int32) (h : m_X6_takes thrown_ many_ pupils_ subjectOf_ columnOf_ choices_ open_ v1 = some (rr, o0, o1, o2)) : uMi l yX6_takes wsX6_takes rmX6_takes (dC, dI) [(cyC, .char), (cyI, .int), (cyJ, .long)] [.ref h0, .int v1] [(h0, .inr (6, [.int thrown_, .int told_, .ref h0_row, .int columns_, .int rooms_, .int many_, .ref h0_subjectOf, .ref h0_teacherOf, .ref h0_seatsOf, .ref h0_columnOf, .ref h0_barsOf, .int pupils_, .ref h0_choices, .int kept_, .ref h0_tape, .int taped_, .int at_, .int to_, .int digit_, .int number_, .ref h0_was, .ref h0_readChoices, .int readMany_, .ref h0_open, .ref h0_wayOf, .int bestThen_, .ref h0_cure, .ref h0_left, .ref h0_satIn])), (h0_subjectOf, .inl (cyI, 17, .inl subjectOf_)), (h0_columnOf, .inl (cyI, 17, .inl columnOf_)), (h0_choices, .inl (cyI, 24, .inl choices_)), (h0_open, .inl (cyI, 10, .inl open_))] [(h0, .inr (6, [.int o0, .int told_, .ref h0_row, .int columns_, .int rooms_, .int many_, .ref h0_subjectOf, .ref h0_teacherOf, .ref h0_seatsOf, .ref h0_columnOf, .ref h0_barsOf, .int pupils_, .ref h0_choices, .int kept_, .ref h0_tape, .int taped_, .int at_, .int to_, .int digit_, .int number_, .ref h0_was, .ref h0_readChoices, .int readMany_, .ref h0_open, .ref h0_wayOf, .int bestThen_, .ref h0_cure, .ref h0_left, .ref h0_satIn])), (h0_subjectOf, .inl (cyI, 17, .inl subjectOf_)), (h0_columnOf, .inl (cyI, 17, .inl o1)), (h0_choices, .inl (cyI, 24, .inl choices_)), (h0_open, .inl (cyI, 10, .inl o2))] rr := by
  refine uMi.of (cc := cX6_takes) (maxL := 2) (by decide) rfl (Nat.le_of_ble_eq_true rfl) (fun p e s m args below meth c A ls Q hx hb hml hown hts hA hP hK hD hE hS hl hret => ?_)
  have hown : s.vm.findClass RX6 = some m.cls := hown
  have hl : lv_has ls 2 [(0, .ref h0), (1, .int v1)] := hl
  have hiX6 : ∀ w ∈ u_ws RX6 TX6 29, w ∈ wsX6_takes := fun _ h9 => List.mem_cons_of_mem _ (List.mem_append_right _ h9)
  unfold m_X6_takes at h
  refine lv_aload_n hx hb dX6_takes_0 rfl (lv_at hl 0 rfl) ?_
  refine lv_iconst (v := 0) hx hb dX6_takes_1 (by decide) ?_
  refine va_put (D := (dC, dI)) (ci := 6) (v := .int 0) (ty := .int) (C := RX6) (T := TX6) (N := 29) hx hb hts hiX6 tyX6 tyX6_ok nmX6 hown hK hP hD hS 0 rfl rfl 0 (by decide) (hts (.fieldLink RX6 62 "OptionLatticeModel" "thrown" "I") (by decide +kernel)) (fun _ h9 => h9) rfl (by decide +kernel) rfl rfl (Nat.le_of_ble_eq_true rfl) dX6_takes_2 (fun H locs hP hD hS => ?_)
  have hP : va_P (dC, dI) vwCl [(h0, .inr (6, [.int 0, .int told_, .ref h0_row, .int columns_, .int rooms_, .int many_, .ref h0_subjectOf, .ref h0_teacherOf, .ref h0_seatsOf, .ref h0_columnOf, .ref h0_barsOf, .int pupils_, .ref h0_choices, .int kept_, .ref h0_tape, .int taped_, .int at_, .int to_, .int digit_, .int number_, .ref h0_was, .ref h0_readChoices, .int readMany_, .ref h0_open, .ref h0_wayOf, .int bestThen_, .ref h0_cure, .ref h0_left, .ref h0_satIn])), (h0_subjectOf, .inl (cyI, 17, .inl subjectOf_)), (h0_columnOf, .inl (cyI, 17, .inl columnOf_)), (h0_choices, .inl (cyI, 24, .inl choices_)), (h0_open, .inl (cyI, 10, .inl open_))] H := hP
  have hD : va_D A [(h0, .inr (6, [.int 0, .int told_, .ref h0_row, .int columns_, .int rooms_, .int many_, .ref h0_subjectOf, .ref h0_teacherOf, .ref h0_seatsOf, .ref h0_columnOf, .ref h0_barsOf, .int pupils_, .ref h0_choices, .int kept_, .ref h0_tape, .int taped_, .int at_, .int to_, .int digit_, .int number_, .ref h0_was, .ref h0_readChoices, .int readMany_, .ref h0_open, .ref h0_wayOf, .int bestThen_, .ref h0_cure, .ref h0_left, .ref h0_satIn])), (h0_subjectOf, .inl (cyI, 17, .inl subjectOf_)), (h0_columnOf, .inl (cyI, 17, .inl columnOf_)), (h0_choices, .inl (cyI, 24, .inl choices_)), (h0_open, .inl (cyI, 10, .inl open_))] := hD
  refine lv_aload_n hx hb dX6_takes_5 rfl (lv_at hl 0 rfl) ?_
  refine lv_iload_n hx hb dX6_takes_6 rfl (lv_at hl 1 rfl) ?_
  obtain ⟨r_1, hq, h⟩ := bd1_some h
  refine uV_i (b := h0) (As := [.int v1]) (rest := []) ⟨hx, hb, hml, hown, hts⟩ (c_X6_isSection l dC dI cyC cyI cyJ h0 h0_row h0_subjectOf h0_teacherOf h0_seatsOf h0_columnOf h0_barsOf h0_choices h0_tape h0_was h0_readChoices h0_open h0_wayOf h0_cure h0_left h0_satIn 0 told_ columns_ rooms_ many_ pupils_ kept_ taped_ at_ to_ digit_ number_ readMany_ bestThen_ v1 r_1 hq) (cwV 1 hts gX6_takes_X6_isSection rfl rfl rfl (by decide +kernel) ⟨Nat.le_of_ble_eq_true rfl, Nat.le_of_ble_eq_true rfl⟩) hK hE hA hP hD hS [0] rfl rfl rfl 6 0 rfl rfl rfl hl.1 rfl (Nat.le_of_ble_eq_true rfl) ⟨Nat.zero_le _, Nat.zero_le _⟩ dX6_takes_7 (fun H locs hP hD hS => ?_)
  have hP : va_P (dC, dI) vwCl [(h0, .inr (6, [.int 0, .int told_, .ref h0_row, .int columns_, .int rooms_, .int many_, .ref h0_subjectOf, .ref h0_teacherOf, .ref h0_seatsOf, .ref h0_columnOf, .ref h0_barsOf, .int pupils_, .ref h0_choices, .int kept_, .ref h0_tape, .int taped_, .int at_, .int to_, .int digit_, .int number_, .ref h0_was, .ref h0_readChoices, .int readMany_, .ref h0_open, .ref h0_wayOf, .int bestThen_, .ref h0_cure, .ref h0_left, .ref h0_satIn])), (h0_subjectOf, .inl (cyI, 17, .inl subjectOf_)), (h0_columnOf, .inl (cyI, 17, .inl columnOf_)), (h0_choices, .inl (cyI, 24, .inl choices_)), (h0_open, .inl (cyI, 10, .inl open_))] H := hP
  have hD : va_D A [(h0, .inr (6, [.int 0, .int told_, .ref h0_row, .int columns_, .int rooms_, .int many_, .ref h0_subjectOf, .ref h0_teacherOf, .ref h0_seatsOf, .ref h0_columnOf, .ref h0_barsOf, .int pupils_, .ref h0_choices, .int kept_, .ref h0_tape, .int taped_, .int at_, .int to_, .int digit_, .int number_, .ref h0_was, .ref h0_readChoices, .int readMany_, .ref h0_open, .ref h0_wayOf, .int bestThen_, .ref h0_cure, .ref h0_left, .ref h0_satIn])), (h0_subjectOf, .inl (cyI, 17, .inl subjectOf_)), (h0_columnOf, .inl (cyI, 17, .inl columnOf_)), (h0_choices, .inl (cyI, 24, .inl choices_)), (h0_open, .inl (cyI, 10, .inl open_))] := hD
  refine lv_if_ne (tgt := 15) hx hb dX6_takes_10 (by decide) (fun c_ => ?_) (fun c_ => ?_)
  · have h := (if_neg c_).symm.trans h
    refine lv_aload_n hx hb dX6_takes_15 rfl (lv_at hl 0 rfl) ?_
    refine va_get (D := (dC, dI)) (ci := 6) (v := .ref h0_columnOf) (C := RX6) (T := TX6) (N := 29) hx hb hts hiX6 hown hK hP 0 rfl rfl 9 (by decide) (hts (.fieldLink RX6 29 "OptionLatticeModel" "columnOf" "[I") (by decide +kernel)) (fun _ h9 => h9) rfl dX6_takes_16 ?_
    refine lv_iload_n hx hb dX6_takes_19 rfl (lv_at hl 1 rfl) ?_
    obtain ⟨g_, h⟩ := gd_some h
    refine va_iald hx hb hK hP 2 1 rfl rfl (inb_in g_) dX6_takes_20 ?_
    refine lv_bipush (v := (-2)) hx hb dX6_takes_21 (by decide) ?_
    refine lv_icmp_ne (tgt := 29) hx hb dX6_takes_23 (by decide) (fun c_ => ?_) (fun c_ => ?_)
    · have h := (if_neg c_).symm.trans h
      refine lv_aload_n hx hb dX6_takes_29 rfl (lv_at hl 0 rfl) ?_
      refine va_get (D := (dC, dI)) (ci := 6) (v := .ref h0_columnOf) (C := RX6) (T := TX6) (N := 29) hx hb hts hiX6 hown hK hP 0 rfl rfl 9 (by decide) (hts (.fieldLink RX6 29 "OptionLatticeModel" "columnOf" "[I") (by decide +kernel)) (fun _ h9 => h9) rfl dX6_takes_30 ?_
      refine lv_iload_n hx hb dX6_takes_33 rfl (lv_at hl 1 rfl) ?_
      refine lv_bipush (v := (-2)) hx hb dX6_takes_34 (by decide) ?_
      obtain ⟨g_, h⟩ := gd_some h
      refine va_iast hx hb hK hP hD hS 2 1 rfl rfl (inb_in g_) dX6_takes_36 (fun H locs hP hD hS => ?_)
      have hP : va_P (dC, dI) vwCl [(h0, .inr (6, [.int 0, .int told_, .ref h0_row, .int columns_, .int rooms_, .int many_, .ref h0_subjectOf, .ref h0_teacherOf, .ref h0_seatsOf, .ref h0_columnOf, .ref h0_barsOf, .int pupils_, .ref h0_choices, .int kept_, .ref h0_tape, .int taped_, .int at_, .int to_, .int digit_, .int number_, .ref h0_was, .ref h0_readChoices, .int readMany_, .ref h0_open, .ref h0_wayOf, .int bestThen_, .ref h0_cure, .ref h0_left, .ref h0_satIn])), (h0_subjectOf, .inl (cyI, 17, .inl subjectOf_)), (h0_columnOf, .inl (cyI, 17, .inl (upd columnOf_ v1.toNatClampNeg (-2)))), (h0_choices, .inl (cyI, 24, .inl choices_)), (h0_open, .inl (cyI, 10, .inl open_))] H := hP
      have hD : va_D A [(h0, .inr (6, [.int 0, .int told_, .ref h0_row, .int columns_, .int rooms_, .int many_, .ref h0_subjectOf, .ref h0_teacherOf, .ref h0_seatsOf, .ref h0_columnOf, .ref h0_barsOf, .int pupils_, .ref h0_choices, .int kept_, .ref h0_tape, .int taped_, .int at_, .int to_, .int digit_, .int number_, .ref h0_was, .ref h0_readChoices, .int readMany_, .ref h0_open, .ref h0_wayOf, .int bestThen_, .ref h0_cure, .ref h0_left, .ref h0_satIn])), (h0_subjectOf, .inl (cyI, 17, .inl subjectOf_)), (h0_columnOf, .inl (cyI, 17, .inl (upd columnOf_ v1.toNatClampNeg (-2)))), (h0_choices, .inl (cyI, 24, .inl choices_)), (h0_open, .inl (cyI, 10, .inl open_))] := hD
      refine lv_aload_n hx hb dX6_takes_37 rfl (lv_at hl 0 rfl) ?_
      obtain ⟨r_2, open_3, hq, h⟩ := bd2_some h
      refine uV_i (b := h0) (As := []) (rest := []) ⟨hx, hb, hml, hown, hts⟩ (c_X6_fitting l dC dI cyC cyI cyJ h0 h0_row h0_subjectOf h0_teacherOf h0_seatsOf h0_columnOf h0_barsOf h0_choices h0_tape h0_was h0_readChoices h0_open h0_wayOf h0_cure h0_left h0_satIn 0 told_ columns_ rooms_ many_ pupils_ kept_ taped_ at_ to_ digit_ number_ readMany_ bestThen_ subjectOf_ (upd columnOf_ v1.toNatClampNeg (-2)) choices_ open_ r_2 open_3 hq) (cwV 0 hts gX6_takes_X6_fitting rfl rfl rfl (by decide +kernel) ⟨Nat.le_of_ble_eq_true rfl, Nat.le_of_ble_eq_true rfl⟩) hK hE hA hP hD hS [0, 1, 2, 3, 4] rfl rfl rfl 6 0 rfl rfl rfl hl.1 rfl (Nat.le_of_ble_eq_true rfl) ⟨Nat.zero_le _, Nat.zero_le _⟩ dX6_takes_38 (fun H locs hP hD hS => ?_)
      have hP : va_P (dC, dI) vwCl [(h0, .inr (6, [.int 0, .int told_, .ref h0_row, .int columns_, .int rooms_, .int many_, .ref h0_subjectOf, .ref h0_teacherOf, .ref h0_seatsOf, .ref h0_columnOf, .ref h0_barsOf, .int pupils_, .ref h0_choices, .int kept_, .ref h0_tape, .int taped_, .int at_, .int to_, .int digit_, .int number_, .ref h0_was, .ref h0_readChoices, .int readMany_, .ref h0_open, .ref h0_wayOf, .int bestThen_, .ref h0_cure, .ref h0_left, .ref h0_satIn])), (h0_subjectOf, .inl (cyI, 17, .inl subjectOf_)), (h0_columnOf, .inl (cyI, 17, .inl (upd columnOf_ v1.toNatClampNeg (-2)))), (h0_choices, .inl (cyI, 24, .inl choices_)), (h0_open, .inl (cyI, 10, .inl open_3))] H := hP
      have hD : va_D A [(h0, .inr (6, [.int 0, .int told_, .ref h0_row, .int columns_, .int rooms_, .int many_, .ref h0_subjectOf, .ref h0_teacherOf, .ref h0_seatsOf, .ref h0_columnOf, .ref h0_barsOf, .int pupils_, .ref h0_choices, .int kept_, .ref h0_tape, .int taped_, .int at_, .int to_, .int digit_, .int number_, .ref h0_was, .ref h0_readChoices, .int readMany_, .ref h0_open, .ref h0_wayOf, .int bestThen_, .ref h0_cure, .ref h0_left, .ref h0_satIn])), (h0_subjectOf, .inl (cyI, 17, .inl subjectOf_)), (h0_columnOf, .inl (cyI, 17, .inl (upd columnOf_ v1.toNatClampNeg (-2)))), (h0_choices, .inl (cyI, 24, .inl choices_)), (h0_open, .inl (cyI, 10, .inl open_3))] := hD
      obtain ⟨r_4, hq, h⟩ := bd1_some h
      refine uS_i (As := [.int r_2]) (rest := []) ⟨hx, hb, hml, hown, hts⟩ (c_X6_bits l dC dI cyC cyI cyJ r_2 r_4 hq) (va_cwS 1 hts gX6_takes_X6_bits rfl rfl rfl (by decide +kernel) ⟨Nat.le_of_ble_eq_true rfl, Nat.le_of_ble_eq_true rfl⟩) hK hE hA hP hD hS [] rfl rfl rfl rfl hl.1 rfl (Nat.le_of_ble_eq_true rfl) ⟨Nat.zero_le _, Nat.zero_le _⟩ dX6_takes_41 (fun H locs hP hD hS => ?_)
      have hP : va_P (dC, dI) vwCl [(h0, .inr (6, [.int 0, .int told_, .ref h0_row, .int columns_, .int rooms_, .int many_, .ref h0_subjectOf, .ref h0_teacherOf, .ref h0_seatsOf, .ref h0_columnOf, .ref h0_barsOf, .int pupils_, .ref h0_choices, .int kept_, .ref h0_tape, .int taped_, .int at_, .int to_, .int digit_, .int number_, .ref h0_was, .ref h0_readChoices, .int readMany_, .ref h0_open, .ref h0_wayOf, .int bestThen_, .ref h0_cure, .ref h0_left, .ref h0_satIn])), (h0_subjectOf, .inl (cyI, 17, .inl subjectOf_)), (h0_columnOf, .inl (cyI, 17, .inl (upd columnOf_ v1.toNatClampNeg (-2)))), (h0_choices, .inl (cyI, 24, .inl choices_)), (h0_open, .inl (cyI, 10, .inl open_3))] H := hP
      have hD : va_D A [(h0, .inr (6, [.int 0, .int told_, .ref h0_row, .int columns_, .int rooms_, .int many_, .ref h0_subjectOf, .ref h0_teacherOf, .ref h0_seatsOf, .ref h0_columnOf, .ref h0_barsOf, .int pupils_, .ref h0_choices, .int kept_, .ref h0_tape, .int taped_, .int at_, .int to_, .int digit_, .int number_, .ref h0_was, .ref h0_readChoices, .int readMany_, .ref h0_open, .ref h0_wayOf, .int bestThen_, .ref h0_cure, .ref h0_left, .ref h0_satIn])), (h0_subjectOf, .inl (cyI, 17, .inl subjectOf_)), (h0_columnOf, .inl (cyI, 17, .inl (upd columnOf_ v1.toNatClampNeg (-2)))), (h0_choices, .inl (cyI, 24, .inl choices_)), (h0_open, .inl (cyI, 10, .inl open_3))] := hD
      have h : some (r_4, 0, (upd columnOf_ v1.toNatClampNeg (-2)), open_3) = some (rr, o0, o1, o2) := h
      have z0 := Option.some.inj h
      obtain ⟨rfl, z1⟩ := Prod.mk.inj z0
      obtain ⟨rfl, z2⟩ := Prod.mk.inj z1
      obtain ⟨rfl, z3⟩ := Prod.mk.inj z2
      obtain rfl := z3
      exact hret _ _ _ _ hP hS rfl dX6_takes_44
    · have h := (if_pos c_).symm.trans h
      refine lv_bipush (v := (-2)) hx hb dX6_takes_26 (by decide) ?_
      have h : some ((-2), 0, columnOf_, open_) = some (rr, o0, o1, o2) := h
      have z0 := Option.some.inj h
      obtain ⟨rfl, z1⟩ := Prod.mk.inj z0
      obtain ⟨rfl, z2⟩ := Prod.mk.inj z1
      obtain ⟨rfl, z3⟩ := Prod.mk.inj z2
      obtain rfl := z3
      exact hret _ _ _ _ hP hS rfl dX6_takes_28
  · have h := (if_pos c_).symm.trans h
    refine lv_iconst (v := (-1)) hx hb dX6_takes_13 (by decide) ?_
    have h : some ((-1), 0, columnOf_, open_) = some (rr, o0, o1, o2) := h
    have z0 := Option.some.inj h
    obtain ⟨rfl, z1⟩ := Prod.mk.inj z0
    obtain ⟨rfl, z2⟩ := Prod.mk.inj z1
    obtain ⟨rfl, z3⟩ := Prod.mk.inj z2
    obtain rfl := z3
    exact hret _ _ _ _ hP hS rfl dX6_takes_14

def m_X6_changes (columnOf_ : Nat → Int32) (v1 : Int32) (v2 : Int32) : Option ((Nat → Int32)) :=
  gd (inb v1 17) (lt' (columnOf_ v1.toNatClampNeg) (fun v3_1 => gd (inb v2 17) (gd (inb v1 17) (gd (inb v2 17) (some (upd (upd columnOf_ v1.toNatClampNeg (columnOf_ v2.toNatClampNeg)) v2.toNatClampNeg v3_1))))))
abbrev rmX6_changes : Room := { frames := 0, cells := 0, slots := 0, locals := 0 }
set_option maxHeartbeats 4000000 in
set_option maxRecDepth 100000 in
theorem c_X6_changes (l : Launch) (dC : Nat → ClassId) (dI : Nat → Nat → Nat) (cyC cyI cyJ : ClassId) (h0 h0_row h0_subjectOf h0_teacherOf h0_seatsOf h0_columnOf h0_barsOf h0_choices h0_tape h0_was h0_readChoices h0_open h0_wayOf h0_cure h0_left h0_satIn : Nat) (thrown_ : Int32) (told_ : Int32) (columns_ : Int32) (rooms_ : Int32) (many_ : Int32) (pupils_ : Int32) (kept_ : Int32) (taped_ : Int32) (at_ : Int32) (to_ : Int32) (digit_ : Int32) (number_ : Int32) (readMany_ : Int32) (bestThen_ : Int32) (columnOf_ : Nat → Int32) (v1 : Int32) (v2 : Int32) (o0 : Nat → Int32) (h : m_X6_changes columnOf_ v1 v2 = some o0) : uMv l yX6_changes wsX6_changes rmX6_changes (dC, dI) [(cyC, .char), (cyI, .int), (cyJ, .long)] [.ref h0, .int v1, .int v2] [(h0, .inr (6, [.int thrown_, .int told_, .ref h0_row, .int columns_, .int rooms_, .int many_, .ref h0_subjectOf, .ref h0_teacherOf, .ref h0_seatsOf, .ref h0_columnOf, .ref h0_barsOf, .int pupils_, .ref h0_choices, .int kept_, .ref h0_tape, .int taped_, .int at_, .int to_, .int digit_, .int number_, .ref h0_was, .ref h0_readChoices, .int readMany_, .ref h0_open, .ref h0_wayOf, .int bestThen_, .ref h0_cure, .ref h0_left, .ref h0_satIn])), (h0_columnOf, .inl (cyI, 17, .inl columnOf_))] [(h0, .inr (6, [.int thrown_, .int told_, .ref h0_row, .int columns_, .int rooms_, .int many_, .ref h0_subjectOf, .ref h0_teacherOf, .ref h0_seatsOf, .ref h0_columnOf, .ref h0_barsOf, .int pupils_, .ref h0_choices, .int kept_, .ref h0_tape, .int taped_, .int at_, .int to_, .int digit_, .int number_, .ref h0_was, .ref h0_readChoices, .int readMany_, .ref h0_open, .ref h0_wayOf, .int bestThen_, .ref h0_cure, .ref h0_left, .ref h0_satIn])), (h0_columnOf, .inl (cyI, 17, .inl o0))] := by
  refine uMv.of (cc := cX6_changes) (maxL := 4) (by decide) rfl (Nat.le_of_ble_eq_true rfl) (fun p e s m args below meth c A ls Q hx hb hml hown hts hA hP hK hD hE hS hl hret => ?_)
  have hown : s.vm.findClass RX6 = some m.cls := hown
  have hl : lv_has ls 4 [(0, .ref h0), (1, .int v1), (2, .int v2)] := hl
  have hiX6 : ∀ w ∈ u_ws RX6 TX6 29, w ∈ wsX6_changes := fun _ h9 => List.mem_cons_of_mem _ (List.mem_append_right _ h9)
  unfold m_X6_changes at h
  refine lv_aload_n hx hb dX6_changes_0 rfl (lv_at hl 0 rfl) ?_
  refine va_get (D := (dC, dI)) (ci := 6) (v := .ref h0_columnOf) (C := RX6) (T := TX6) (N := 29) hx hb hts hiX6 hown hK hP 0 rfl rfl 9 (by decide) (hts (.fieldLink RX6 29 "OptionLatticeModel" "columnOf" "[I") (by decide +kernel)) (fun _ h9 => h9) rfl dX6_changes_1 ?_
  refine lv_iload_n hx hb dX6_changes_4 rfl (lv_at hl 1 rfl) ?_
  obtain ⟨g_, h⟩ := gd_some h
  refine va_iald hx hb hK hP 1 1 rfl rfl (inb_in g_) dX6_changes_5 ?_
  refine lv_topi (fun v3_1 e_v3_1 => ?_)
  have h := lt_use e_v3_1 h
  refine lv_istore_n (lv' := [(3, .int v3_1), (0, .ref h0), (1, .int v1), (2, .int v2)]) hx hb dX6_changes_6 rfl hl (by decide) rfl (fun ls hl => ?_)
  refine lv_aload_n hx hb dX6_changes_7 rfl (lv_at hl 1 rfl) ?_
  refine va_get (D := (dC, dI)) (ci := 6) (v := .ref h0_columnOf) (C := RX6) (T := TX6) (N := 29) hx hb hts hiX6 hown hK hP 0 rfl rfl 9 (by decide) (hts (.fieldLink RX6 29 "OptionLatticeModel" "columnOf" "[I") (by decide +kernel)) (fun _ h9 => h9) rfl dX6_changes_8 ?_
  refine lv_iload_n hx hb dX6_changes_11 rfl (lv_at hl 2 rfl) ?_
  refine lv_aload_n hx hb dX6_changes_12 rfl (lv_at hl 1 rfl) ?_
  refine va_get (D := (dC, dI)) (ci := 6) (v := .ref h0_columnOf) (C := RX6) (T := TX6) (N := 29) hx hb hts hiX6 hown hK hP 0 rfl rfl 9 (by decide) (hts (.fieldLink RX6 29 "OptionLatticeModel" "columnOf" "[I") (by decide +kernel)) (fun _ h9 => h9) rfl dX6_changes_13 ?_
  refine lv_iload_n hx hb dX6_changes_16 rfl (lv_at hl 3 rfl) ?_
  obtain ⟨g_, h⟩ := gd_some h
  refine va_iald hx hb hK hP 1 1 rfl rfl (inb_in g_) dX6_changes_17 ?_
  obtain ⟨g_, h⟩ := gd_some h
  refine va_iast hx hb hK hP hD hS 1 1 rfl rfl (inb_in g_) dX6_changes_18 (fun H locs hP hD hS => ?_)
  have hP : va_P (dC, dI) vwCl [(h0, .inr (6, [.int thrown_, .int told_, .ref h0_row, .int columns_, .int rooms_, .int many_, .ref h0_subjectOf, .ref h0_teacherOf, .ref h0_seatsOf, .ref h0_columnOf, .ref h0_barsOf, .int pupils_, .ref h0_choices, .int kept_, .ref h0_tape, .int taped_, .int at_, .int to_, .int digit_, .int number_, .ref h0_was, .ref h0_readChoices, .int readMany_, .ref h0_open, .ref h0_wayOf, .int bestThen_, .ref h0_cure, .ref h0_left, .ref h0_satIn])), (h0_columnOf, .inl (cyI, 17, .inl (upd columnOf_ v1.toNatClampNeg (columnOf_ v2.toNatClampNeg))))] H := hP
  have hD : va_D A [(h0, .inr (6, [.int thrown_, .int told_, .ref h0_row, .int columns_, .int rooms_, .int many_, .ref h0_subjectOf, .ref h0_teacherOf, .ref h0_seatsOf, .ref h0_columnOf, .ref h0_barsOf, .int pupils_, .ref h0_choices, .int kept_, .ref h0_tape, .int taped_, .int at_, .int to_, .int digit_, .int number_, .ref h0_was, .ref h0_readChoices, .int readMany_, .ref h0_open, .ref h0_wayOf, .int bestThen_, .ref h0_cure, .ref h0_left, .ref h0_satIn])), (h0_columnOf, .inl (cyI, 17, .inl (upd columnOf_ v1.toNatClampNeg (columnOf_ v2.toNatClampNeg))))] := hD
  refine lv_aload_n hx hb dX6_changes_19 rfl (lv_at hl 1 rfl) ?_
  refine va_get (D := (dC, dI)) (ci := 6) (v := .ref h0_columnOf) (C := RX6) (T := TX6) (N := 29) hx hb hts hiX6 hown hK hP 0 rfl rfl 9 (by decide) (hts (.fieldLink RX6 29 "OptionLatticeModel" "columnOf" "[I") (by decide +kernel)) (fun _ h9 => h9) rfl dX6_changes_20 ?_
  refine lv_iload_n hx hb dX6_changes_23 rfl (lv_at hl 3 rfl) ?_
  refine lv_iload_n hx hb dX6_changes_24 rfl (lv_at hl 0 rfl) ?_
  obtain ⟨g_, h⟩ := gd_some h
  refine va_iast hx hb hK hP hD hS 1 1 rfl rfl (inb_in g_) dX6_changes_25 (fun H locs hP hD hS => ?_)
  have hP : va_P (dC, dI) vwCl [(h0, .inr (6, [.int thrown_, .int told_, .ref h0_row, .int columns_, .int rooms_, .int many_, .ref h0_subjectOf, .ref h0_teacherOf, .ref h0_seatsOf, .ref h0_columnOf, .ref h0_barsOf, .int pupils_, .ref h0_choices, .int kept_, .ref h0_tape, .int taped_, .int at_, .int to_, .int digit_, .int number_, .ref h0_was, .ref h0_readChoices, .int readMany_, .ref h0_open, .ref h0_wayOf, .int bestThen_, .ref h0_cure, .ref h0_left, .ref h0_satIn])), (h0_columnOf, .inl (cyI, 17, .inl (upd (upd columnOf_ v1.toNatClampNeg (columnOf_ v2.toNatClampNeg)) v2.toNatClampNeg v3_1)))] H := hP
  have hD : va_D A [(h0, .inr (6, [.int thrown_, .int told_, .ref h0_row, .int columns_, .int rooms_, .int many_, .ref h0_subjectOf, .ref h0_teacherOf, .ref h0_seatsOf, .ref h0_columnOf, .ref h0_barsOf, .int pupils_, .ref h0_choices, .int kept_, .ref h0_tape, .int taped_, .int at_, .int to_, .int digit_, .int number_, .ref h0_was, .ref h0_readChoices, .int readMany_, .ref h0_open, .ref h0_wayOf, .int bestThen_, .ref h0_cure, .ref h0_left, .ref h0_satIn])), (h0_columnOf, .inl (cyI, 17, .inl (upd (upd columnOf_ v1.toNatClampNeg (columnOf_ v2.toNatClampNeg)) v2.toNatClampNeg v3_1)))] := hD
  have h : some (upd (upd columnOf_ v1.toNatClampNeg (columnOf_ v2.toNatClampNeg)) v2.toNatClampNeg v3_1) = some o0 := h
  have z0 := Option.some.inj h
  obtain rfl := z0
  exact hret _ _ _ _ hP hS dX6_changes_26

def m_X6_isRight (rooms_ : Int32) (many_ : Int32) (teacherOf_ : Nat → Int32) (columnOf_ : Nat → Int32) (barsOf_ : Nat → Int32) (v1 : Int32) : Option (Int32) :=
  gd (inb v1 17) ((if (columnOf_ v1.toNatClampNeg) = (-2) then some 1 else gd (inb v1 17) (bd1 (m_X6_isLegal rooms_ many_ teacherOf_ columnOf_ barsOf_ v1 (columnOf_ v1.toNatClampNeg)) (fun r_1 => (if r_1 = 0 then some 0 else some 1)))))
abbrev rmX6_isRight : Room := { frames := 3, cells := 0, slots := 0, locals := 68 }
set_option maxHeartbeats 4000000 in
set_option maxRecDepth 100000 in
theorem c_X6_isRight (l : Launch) (dC : Nat → ClassId) (dI : Nat → Nat → Nat) (cyC cyI cyJ : ClassId) (h0 h0_row h0_subjectOf h0_teacherOf h0_seatsOf h0_columnOf h0_barsOf h0_choices h0_tape h0_was h0_readChoices h0_open h0_wayOf h0_cure h0_left h0_satIn : Nat) (thrown_ : Int32) (told_ : Int32) (columns_ : Int32) (rooms_ : Int32) (many_ : Int32) (pupils_ : Int32) (kept_ : Int32) (taped_ : Int32) (at_ : Int32) (to_ : Int32) (digit_ : Int32) (number_ : Int32) (readMany_ : Int32) (bestThen_ : Int32) (teacherOf_ : Nat → Int32) (columnOf_ : Nat → Int32) (barsOf_ : Nat → Int32) (v1 : Int32) (rr : Int32) (h : m_X6_isRight rooms_ many_ teacherOf_ columnOf_ barsOf_ v1 = some rr) : uMi l yX6_isRight wsX6_isRight rmX6_isRight (dC, dI) [(cyC, .char), (cyI, .int), (cyJ, .long)] [.ref h0, .int v1] [(h0, .inr (6, [.int thrown_, .int told_, .ref h0_row, .int columns_, .int rooms_, .int many_, .ref h0_subjectOf, .ref h0_teacherOf, .ref h0_seatsOf, .ref h0_columnOf, .ref h0_barsOf, .int pupils_, .ref h0_choices, .int kept_, .ref h0_tape, .int taped_, .int at_, .int to_, .int digit_, .int number_, .ref h0_was, .ref h0_readChoices, .int readMany_, .ref h0_open, .ref h0_wayOf, .int bestThen_, .ref h0_cure, .ref h0_left, .ref h0_satIn])), (h0_teacherOf, .inl (cyI, 17, .inl teacherOf_)), (h0_columnOf, .inl (cyI, 17, .inl columnOf_)), (h0_barsOf, .inl (cyI, 10, .inl barsOf_))] [(h0, .inr (6, [.int thrown_, .int told_, .ref h0_row, .int columns_, .int rooms_, .int many_, .ref h0_subjectOf, .ref h0_teacherOf, .ref h0_seatsOf, .ref h0_columnOf, .ref h0_barsOf, .int pupils_, .ref h0_choices, .int kept_, .ref h0_tape, .int taped_, .int at_, .int to_, .int digit_, .int number_, .ref h0_was, .ref h0_readChoices, .int readMany_, .ref h0_open, .ref h0_wayOf, .int bestThen_, .ref h0_cure, .ref h0_left, .ref h0_satIn])), (h0_teacherOf, .inl (cyI, 17, .inl teacherOf_)), (h0_columnOf, .inl (cyI, 17, .inl columnOf_)), (h0_barsOf, .inl (cyI, 10, .inl barsOf_))] rr := by
  refine uMi.of (cc := cX6_isRight) (maxL := 2) (by decide) rfl (Nat.le_of_ble_eq_true rfl) (fun p e s m args below meth c A ls Q hx hb hml hown hts hA hP hK hD hE hS hl hret => ?_)
  have hown : s.vm.findClass RX6 = some m.cls := hown
  have hl : lv_has ls 2 [(0, .ref h0), (1, .int v1)] := hl
  have hiX6 : ∀ w ∈ u_ws RX6 TX6 29, w ∈ wsX6_isRight := fun _ h9 => List.mem_cons_of_mem _ (List.mem_append_right _ h9)
  unfold m_X6_isRight at h
  refine lv_aload_n hx hb dX6_isRight_0 rfl (lv_at hl 0 rfl) ?_
  refine va_get (D := (dC, dI)) (ci := 6) (v := .ref h0_columnOf) (C := RX6) (T := TX6) (N := 29) hx hb hts hiX6 hown hK hP 0 rfl rfl 9 (by decide) (hts (.fieldLink RX6 29 "OptionLatticeModel" "columnOf" "[I") (by decide +kernel)) (fun _ h9 => h9) rfl dX6_isRight_1 ?_
  refine lv_iload_n hx hb dX6_isRight_4 rfl (lv_at hl 1 rfl) ?_
  obtain ⟨g_, h⟩ := gd_some h
  refine va_iald hx hb hK hP 2 1 rfl rfl (inb_in g_) dX6_isRight_5 ?_
  refine lv_bipush (v := (-2)) hx hb dX6_isRight_6 (by decide) ?_
  refine lv_icmp_eq (tgt := 25) hx hb dX6_isRight_8 (by decide) (fun c_ => ?_) (fun c_ => ?_)
  · have h := (if_pos c_).symm.trans h
    refine lv_iconst (v := 1) hx hb dX6_isRight_25 (by decide) ?_
    refine lv_goto (tgt := 30) hx hb dX6_isRight_26 (by decide) ?_
    have h : some 1 = some rr := h
    have z0 := Option.some.inj h
    obtain rfl := z0
    exact hret _ _ _ _ hP hS rfl dX6_isRight_30
  · have h := (if_neg c_).symm.trans h
    refine lv_aload_n hx hb dX6_isRight_11 rfl (lv_at hl 0 rfl) ?_
    refine lv_iload_n hx hb dX6_isRight_12 rfl (lv_at hl 1 rfl) ?_
    refine lv_aload_n hx hb dX6_isRight_13 rfl (lv_at hl 0 rfl) ?_
    refine va_get (D := (dC, dI)) (ci := 6) (v := .ref h0_columnOf) (C := RX6) (T := TX6) (N := 29) hx hb hts hiX6 hown hK hP 0 rfl rfl 9 (by decide) (hts (.fieldLink RX6 29 "OptionLatticeModel" "columnOf" "[I") (by decide +kernel)) (fun _ h9 => h9) rfl dX6_isRight_14 ?_
    refine lv_iload_n hx hb dX6_isRight_17 rfl (lv_at hl 1 rfl) ?_
    obtain ⟨g_, h⟩ := gd_some h
    refine va_iald hx hb hK hP 2 1 rfl rfl (inb_in g_) dX6_isRight_18 ?_
    obtain ⟨r_1, hq, h⟩ := bd1_some h
    refine uV_i (b := h0) (As := [.int v1, .int (columnOf_ v1.toNatClampNeg)]) (rest := []) ⟨hx, hb, hml, hown, hts⟩ (c_X6_isLegal l dC dI cyC cyI cyJ h0 h0_row h0_subjectOf h0_teacherOf h0_seatsOf h0_columnOf h0_barsOf h0_choices h0_tape h0_was h0_readChoices h0_open h0_wayOf h0_cure h0_left h0_satIn thrown_ told_ columns_ rooms_ many_ pupils_ kept_ taped_ at_ to_ digit_ number_ readMany_ bestThen_ teacherOf_ columnOf_ barsOf_ v1 (columnOf_ v1.toNatClampNeg) r_1 hq) (cwV 2 hts gX6_isRight_X6_isLegal rfl rfl rfl (by decide +kernel) ⟨Nat.le_of_ble_eq_true rfl, Nat.le_of_ble_eq_true rfl⟩) hK hE hA hP hD hS [0, 1, 2, 3] rfl rfl rfl 6 0 rfl rfl rfl hl.1 rfl (Nat.le_of_ble_eq_true rfl) ⟨Nat.zero_le _, Nat.zero_le _⟩ dX6_isRight_19 (fun H locs hP hD hS => ?_)
    have hP : va_P (dC, dI) vwCl [(h0, .inr (6, [.int thrown_, .int told_, .ref h0_row, .int columns_, .int rooms_, .int many_, .ref h0_subjectOf, .ref h0_teacherOf, .ref h0_seatsOf, .ref h0_columnOf, .ref h0_barsOf, .int pupils_, .ref h0_choices, .int kept_, .ref h0_tape, .int taped_, .int at_, .int to_, .int digit_, .int number_, .ref h0_was, .ref h0_readChoices, .int readMany_, .ref h0_open, .ref h0_wayOf, .int bestThen_, .ref h0_cure, .ref h0_left, .ref h0_satIn])), (h0_teacherOf, .inl (cyI, 17, .inl teacherOf_)), (h0_columnOf, .inl (cyI, 17, .inl columnOf_)), (h0_barsOf, .inl (cyI, 10, .inl barsOf_))] H := hP
    have hD : va_D A [(h0, .inr (6, [.int thrown_, .int told_, .ref h0_row, .int columns_, .int rooms_, .int many_, .ref h0_subjectOf, .ref h0_teacherOf, .ref h0_seatsOf, .ref h0_columnOf, .ref h0_barsOf, .int pupils_, .ref h0_choices, .int kept_, .ref h0_tape, .int taped_, .int at_, .int to_, .int digit_, .int number_, .ref h0_was, .ref h0_readChoices, .int readMany_, .ref h0_open, .ref h0_wayOf, .int bestThen_, .ref h0_cure, .ref h0_left, .ref h0_satIn])), (h0_teacherOf, .inl (cyI, 17, .inl teacherOf_)), (h0_columnOf, .inl (cyI, 17, .inl columnOf_)), (h0_barsOf, .inl (cyI, 10, .inl barsOf_))] := hD
    refine lv_if_eq (tgt := 29) hx hb dX6_isRight_22 (by decide) (fun c_ => ?_) (fun c_ => ?_)
    · have h := (if_pos c_).symm.trans h
      refine lv_iconst (v := 0) hx hb dX6_isRight_29 (by decide) ?_
      have h : some 0 = some rr := h
      have z0 := Option.some.inj h
      obtain rfl := z0
      exact hret _ _ _ _ hP hS rfl dX6_isRight_30
    · have h := (if_neg c_).symm.trans h
      refine lv_iconst (v := 1) hx hb dX6_isRight_25 (by decide) ?_
      refine lv_goto (tgt := 30) hx hb dX6_isRight_26 (by decide) ?_
      have h : some 1 = some rr := h
      have z0 := Option.some.inj h
      obtain rfl := z0
      exact hret _ _ _ _ hP hS rfl dX6_isRight_30

def m_X6_swap_24 (columnOf_ : Nat → Int32) (v1 : Int32) (v2 : Int32) : Option (Int32 × (Nat → Int32)) :=
  bd1 (m_X6_changes columnOf_ v1 v2) (fun columnOf_1 => some (0, columnOf_1))
def m_X6_swap (rooms_ : Int32) (many_ : Int32) (teacherOf_ : Nat → Int32) (columnOf_ : Nat → Int32) (barsOf_ : Nat → Int32) (v1 : Int32) (v2 : Int32) : Option (Int32 × (Nat → Int32)) :=
  bd1 (m_X6_changes columnOf_ v1 v2) (fun columnOf_2 => bd1 (m_X6_isRight rooms_ many_ teacherOf_ columnOf_2 barsOf_ v1) (fun r_3 => (if r_3 = 0 then m_X6_swap_24 columnOf_2 v1 v2 else bd1 (m_X6_isRight rooms_ many_ teacherOf_ columnOf_2 barsOf_ v2) (fun r_4 => (if r_4 = 0 then m_X6_swap_24 columnOf_2 v1 v2 else some (1, columnOf_2))))))
abbrev rmX6_swap : Room := { frames := 4, cells := 0, slots := 0, locals := 89 }
set_option maxHeartbeats 4000000 in
set_option maxRecDepth 100000 in
theorem c_X6_swap (l : Launch) (dC : Nat → ClassId) (dI : Nat → Nat → Nat) (cyC cyI cyJ : ClassId) (h0 h0_row h0_subjectOf h0_teacherOf h0_seatsOf h0_columnOf h0_barsOf h0_choices h0_tape h0_was h0_readChoices h0_open h0_wayOf h0_cure h0_left h0_satIn : Nat) (thrown_ : Int32) (told_ : Int32) (columns_ : Int32) (rooms_ : Int32) (many_ : Int32) (pupils_ : Int32) (kept_ : Int32) (taped_ : Int32) (at_ : Int32) (to_ : Int32) (digit_ : Int32) (number_ : Int32) (readMany_ : Int32) (bestThen_ : Int32) (teacherOf_ : Nat → Int32) (columnOf_ : Nat → Int32) (barsOf_ : Nat → Int32) (v1 : Int32) (v2 : Int32) (rr : Int32) (o0 : Nat → Int32) (h : m_X6_swap rooms_ many_ teacherOf_ columnOf_ barsOf_ v1 v2 = some (rr, o0)) : uMi l yX6_swap wsX6_swap rmX6_swap (dC, dI) [(cyC, .char), (cyI, .int), (cyJ, .long)] [.ref h0, .int v1, .int v2] [(h0, .inr (6, [.int thrown_, .int told_, .ref h0_row, .int columns_, .int rooms_, .int many_, .ref h0_subjectOf, .ref h0_teacherOf, .ref h0_seatsOf, .ref h0_columnOf, .ref h0_barsOf, .int pupils_, .ref h0_choices, .int kept_, .ref h0_tape, .int taped_, .int at_, .int to_, .int digit_, .int number_, .ref h0_was, .ref h0_readChoices, .int readMany_, .ref h0_open, .ref h0_wayOf, .int bestThen_, .ref h0_cure, .ref h0_left, .ref h0_satIn])), (h0_teacherOf, .inl (cyI, 17, .inl teacherOf_)), (h0_columnOf, .inl (cyI, 17, .inl columnOf_)), (h0_barsOf, .inl (cyI, 10, .inl barsOf_))] [(h0, .inr (6, [.int thrown_, .int told_, .ref h0_row, .int columns_, .int rooms_, .int many_, .ref h0_subjectOf, .ref h0_teacherOf, .ref h0_seatsOf, .ref h0_columnOf, .ref h0_barsOf, .int pupils_, .ref h0_choices, .int kept_, .ref h0_tape, .int taped_, .int at_, .int to_, .int digit_, .int number_, .ref h0_was, .ref h0_readChoices, .int readMany_, .ref h0_open, .ref h0_wayOf, .int bestThen_, .ref h0_cure, .ref h0_left, .ref h0_satIn])), (h0_teacherOf, .inl (cyI, 17, .inl teacherOf_)), (h0_columnOf, .inl (cyI, 17, .inl o0)), (h0_barsOf, .inl (cyI, 10, .inl barsOf_))] rr := by
  refine uMi.of (cc := cX6_swap) (maxL := 3) (by decide) rfl (Nat.le_of_ble_eq_true rfl) (fun p e s m args below meth c A ls Q hx hb hml hown hts hA hP hK hD hE hS hl hret => ?_)
  have hown : s.vm.findClass RX6 = some m.cls := hown
  have hl : lv_has ls 3 [(0, .ref h0), (1, .int v1), (2, .int v2)] := hl
  have J24 : ∀ (columnOf_ : Nat → Int32), m_X6_swap_24 columnOf_ v1 v2 = some (rr, o0) → ∀ (H : Heap) (locs : List Loc) (ls : Array Slot), va_P (dC, dI) vwCl [(h0, .inr (6, [.int thrown_, .int told_, .ref h0_row, .int columns_, .int rooms_, .int many_, .ref h0_subjectOf, .ref h0_teacherOf, .ref h0_seatsOf, .ref h0_columnOf, .ref h0_barsOf, .int pupils_, .ref h0_choices, .int kept_, .ref h0_tape, .int taped_, .int at_, .int to_, .int digit_, .int number_, .ref h0_was, .ref h0_readChoices, .int readMany_, .ref h0_open, .ref h0_wayOf, .int bestThen_, .ref h0_cure, .ref h0_left, .ref h0_satIn])), (h0_teacherOf, .inl (cyI, 17, .inl teacherOf_)), (h0_columnOf, .inl (cyI, 17, .inl columnOf_)), (h0_barsOf, .inl (cyI, 10, .inl barsOf_))] H → va_D A [(h0, .inr (6, [.int thrown_, .int told_, .ref h0_row, .int columns_, .int rooms_, .int many_, .ref h0_subjectOf, .ref h0_teacherOf, .ref h0_seatsOf, .ref h0_columnOf, .ref h0_barsOf, .int pupils_, .ref h0_choices, .int kept_, .ref h0_tape, .int taped_, .int at_, .int to_, .int digit_, .int number_, .ref h0_was, .ref h0_readChoices, .int readMany_, .ref h0_open, .ref h0_wayOf, .int bestThen_, .ref h0_cure, .ref h0_left, .ref h0_satIn])), (h0_teacherOf, .inl (cyI, 17, .inl teacherOf_)), (h0_columnOf, .inl (cyI, 17, .inl columnOf_)), (h0_barsOf, .inl (cyI, 10, .inl barsOf_))] → va_S A s.heap H locs → lv_has ls 3 [(0, .ref h0), (1, .int v1), (2, .int v2)] → W p l e rmX6_swap s m args below meth c H locs 0 0 Q (F0 m 24 ls []) := by
    intro columnOf_ h H locs ls hP hD hS hl
    unfold m_X6_swap_24 at h
    refine lv_aload_n hx hb dX6_swap_24 rfl (lv_at hl 0 rfl) ?_
    refine lv_iload_n hx hb dX6_swap_25 rfl (lv_at hl 1 rfl) ?_
    refine lv_iload_n hx hb dX6_swap_26 rfl (lv_at hl 2 rfl) ?_
    obtain ⟨columnOf_1, hq, h⟩ := bd1_some h
    refine uV_v (b := h0) (As := [.int v1, .int v2]) (rest := []) ⟨hx, hb, hml, hown, hts⟩ (c_X6_changes l dC dI cyC cyI cyJ h0 h0_row h0_subjectOf h0_teacherOf h0_seatsOf h0_columnOf h0_barsOf h0_choices h0_tape h0_was h0_readChoices h0_open h0_wayOf h0_cure h0_left h0_satIn thrown_ told_ columns_ rooms_ many_ pupils_ kept_ taped_ at_ to_ digit_ number_ readMany_ bestThen_ columnOf_ v1 v2 columnOf_1 hq) (cwV 2 hts gX6_swap_X6_changes rfl rfl rfl (by decide +kernel) ⟨Nat.le_of_ble_eq_true rfl, Nat.le_of_ble_eq_true rfl⟩) hK hE hA hP hD hS [0, 2] rfl rfl rfl 6 0 rfl rfl rfl hl.1 rfl (Nat.le_of_ble_eq_true rfl) ⟨Nat.zero_le _, Nat.zero_le _⟩ dX6_swap_27 (fun H locs hP hD hS => ?_)
    have hP : va_P (dC, dI) vwCl [(h0, .inr (6, [.int thrown_, .int told_, .ref h0_row, .int columns_, .int rooms_, .int many_, .ref h0_subjectOf, .ref h0_teacherOf, .ref h0_seatsOf, .ref h0_columnOf, .ref h0_barsOf, .int pupils_, .ref h0_choices, .int kept_, .ref h0_tape, .int taped_, .int at_, .int to_, .int digit_, .int number_, .ref h0_was, .ref h0_readChoices, .int readMany_, .ref h0_open, .ref h0_wayOf, .int bestThen_, .ref h0_cure, .ref h0_left, .ref h0_satIn])), (h0_teacherOf, .inl (cyI, 17, .inl teacherOf_)), (h0_columnOf, .inl (cyI, 17, .inl columnOf_1)), (h0_barsOf, .inl (cyI, 10, .inl barsOf_))] H := hP
    have hD : va_D A [(h0, .inr (6, [.int thrown_, .int told_, .ref h0_row, .int columns_, .int rooms_, .int many_, .ref h0_subjectOf, .ref h0_teacherOf, .ref h0_seatsOf, .ref h0_columnOf, .ref h0_barsOf, .int pupils_, .ref h0_choices, .int kept_, .ref h0_tape, .int taped_, .int at_, .int to_, .int digit_, .int number_, .ref h0_was, .ref h0_readChoices, .int readMany_, .ref h0_open, .ref h0_wayOf, .int bestThen_, .ref h0_cure, .ref h0_left, .ref h0_satIn])), (h0_teacherOf, .inl (cyI, 17, .inl teacherOf_)), (h0_columnOf, .inl (cyI, 17, .inl columnOf_1)), (h0_barsOf, .inl (cyI, 10, .inl barsOf_))] := hD
    refine lv_iconst (v := 0) hx hb dX6_swap_30 (by decide) ?_
    have h : some (0, columnOf_1) = some (rr, o0) := h
    have z0 := Option.some.inj h
    obtain ⟨rfl, z1⟩ := Prod.mk.inj z0
    obtain rfl := z1
    exact hret _ _ _ _ hP hS rfl dX6_swap_31
  unfold m_X6_swap at h
  refine lv_aload_n hx hb dX6_swap_0 rfl (lv_at hl 0 rfl) ?_
  refine lv_iload_n hx hb dX6_swap_1 rfl (lv_at hl 1 rfl) ?_
  refine lv_iload_n hx hb dX6_swap_2 rfl (lv_at hl 2 rfl) ?_
  obtain ⟨columnOf_2, hq, h⟩ := bd1_some h
  refine uV_v (b := h0) (As := [.int v1, .int v2]) (rest := []) ⟨hx, hb, hml, hown, hts⟩ (c_X6_changes l dC dI cyC cyI cyJ h0 h0_row h0_subjectOf h0_teacherOf h0_seatsOf h0_columnOf h0_barsOf h0_choices h0_tape h0_was h0_readChoices h0_open h0_wayOf h0_cure h0_left h0_satIn thrown_ told_ columns_ rooms_ many_ pupils_ kept_ taped_ at_ to_ digit_ number_ readMany_ bestThen_ columnOf_ v1 v2 columnOf_2 hq) (cwV 2 hts gX6_swap_X6_changes rfl rfl rfl (by decide +kernel) ⟨Nat.le_of_ble_eq_true rfl, Nat.le_of_ble_eq_true rfl⟩) hK hE hA hP hD hS [0, 2] rfl rfl rfl 6 0 rfl rfl rfl hl.1 rfl (Nat.le_of_ble_eq_true rfl) ⟨Nat.zero_le _, Nat.zero_le _⟩ dX6_swap_3 (fun H locs hP hD hS => ?_)
  have hP : va_P (dC, dI) vwCl [(h0, .inr (6, [.int thrown_, .int told_, .ref h0_row, .int columns_, .int rooms_, .int many_, .ref h0_subjectOf, .ref h0_teacherOf, .ref h0_seatsOf, .ref h0_columnOf, .ref h0_barsOf, .int pupils_, .ref h0_choices, .int kept_, .ref h0_tape, .int taped_, .int at_, .int to_, .int digit_, .int number_, .ref h0_was, .ref h0_readChoices, .int readMany_, .ref h0_open, .ref h0_wayOf, .int bestThen_, .ref h0_cure, .ref h0_left, .ref h0_satIn])), (h0_teacherOf, .inl (cyI, 17, .inl teacherOf_)), (h0_columnOf, .inl (cyI, 17, .inl columnOf_2)), (h0_barsOf, .inl (cyI, 10, .inl barsOf_))] H := hP
  have hD : va_D A [(h0, .inr (6, [.int thrown_, .int told_, .ref h0_row, .int columns_, .int rooms_, .int many_, .ref h0_subjectOf, .ref h0_teacherOf, .ref h0_seatsOf, .ref h0_columnOf, .ref h0_barsOf, .int pupils_, .ref h0_choices, .int kept_, .ref h0_tape, .int taped_, .int at_, .int to_, .int digit_, .int number_, .ref h0_was, .ref h0_readChoices, .int readMany_, .ref h0_open, .ref h0_wayOf, .int bestThen_, .ref h0_cure, .ref h0_left, .ref h0_satIn])), (h0_teacherOf, .inl (cyI, 17, .inl teacherOf_)), (h0_columnOf, .inl (cyI, 17, .inl columnOf_2)), (h0_barsOf, .inl (cyI, 10, .inl barsOf_))] := hD
  refine lv_aload_n hx hb dX6_swap_6 rfl (lv_at hl 0 rfl) ?_
  refine lv_iload_n hx hb dX6_swap_7 rfl (lv_at hl 1 rfl) ?_
  obtain ⟨r_3, hq, h⟩ := bd1_some h
  refine uV_i (b := h0) (As := [.int v1]) (rest := []) ⟨hx, hb, hml, hown, hts⟩ (c_X6_isRight l dC dI cyC cyI cyJ h0 h0_row h0_subjectOf h0_teacherOf h0_seatsOf h0_columnOf h0_barsOf h0_choices h0_tape h0_was h0_readChoices h0_open h0_wayOf h0_cure h0_left h0_satIn thrown_ told_ columns_ rooms_ many_ pupils_ kept_ taped_ at_ to_ digit_ number_ readMany_ bestThen_ teacherOf_ columnOf_2 barsOf_ v1 r_3 hq) (cwV 1 hts gX6_swap_X6_isRight rfl rfl rfl (by decide +kernel) ⟨Nat.le_of_ble_eq_true rfl, Nat.le_of_ble_eq_true rfl⟩) hK hE hA hP hD hS [0, 1, 2, 3] rfl rfl rfl 6 0 rfl rfl rfl hl.1 rfl (Nat.le_of_ble_eq_true rfl) ⟨Nat.zero_le _, Nat.zero_le _⟩ dX6_swap_8 (fun H locs hP hD hS => ?_)
  have hP : va_P (dC, dI) vwCl [(h0, .inr (6, [.int thrown_, .int told_, .ref h0_row, .int columns_, .int rooms_, .int many_, .ref h0_subjectOf, .ref h0_teacherOf, .ref h0_seatsOf, .ref h0_columnOf, .ref h0_barsOf, .int pupils_, .ref h0_choices, .int kept_, .ref h0_tape, .int taped_, .int at_, .int to_, .int digit_, .int number_, .ref h0_was, .ref h0_readChoices, .int readMany_, .ref h0_open, .ref h0_wayOf, .int bestThen_, .ref h0_cure, .ref h0_left, .ref h0_satIn])), (h0_teacherOf, .inl (cyI, 17, .inl teacherOf_)), (h0_columnOf, .inl (cyI, 17, .inl columnOf_2)), (h0_barsOf, .inl (cyI, 10, .inl barsOf_))] H := hP
  have hD : va_D A [(h0, .inr (6, [.int thrown_, .int told_, .ref h0_row, .int columns_, .int rooms_, .int many_, .ref h0_subjectOf, .ref h0_teacherOf, .ref h0_seatsOf, .ref h0_columnOf, .ref h0_barsOf, .int pupils_, .ref h0_choices, .int kept_, .ref h0_tape, .int taped_, .int at_, .int to_, .int digit_, .int number_, .ref h0_was, .ref h0_readChoices, .int readMany_, .ref h0_open, .ref h0_wayOf, .int bestThen_, .ref h0_cure, .ref h0_left, .ref h0_satIn])), (h0_teacherOf, .inl (cyI, 17, .inl teacherOf_)), (h0_columnOf, .inl (cyI, 17, .inl columnOf_2)), (h0_barsOf, .inl (cyI, 10, .inl barsOf_))] := hD
  refine lv_if_eq (tgt := 24) hx hb dX6_swap_11 (by decide) (fun c_ => ?_) (fun c_ => ?_)
  · have h := (if_pos c_).symm.trans h
    exact J24 columnOf_2 h _ _ _ hP hD hS (lv_sub hl [0, 1, 2] rfl)
  · have h := (if_neg c_).symm.trans h
    refine lv_aload_n hx hb dX6_swap_14 rfl (lv_at hl 0 rfl) ?_
    refine lv_iload_n hx hb dX6_swap_15 rfl (lv_at hl 2 rfl) ?_
    obtain ⟨r_4, hq, h⟩ := bd1_some h
    refine uV_i (b := h0) (As := [.int v2]) (rest := []) ⟨hx, hb, hml, hown, hts⟩ (c_X6_isRight l dC dI cyC cyI cyJ h0 h0_row h0_subjectOf h0_teacherOf h0_seatsOf h0_columnOf h0_barsOf h0_choices h0_tape h0_was h0_readChoices h0_open h0_wayOf h0_cure h0_left h0_satIn thrown_ told_ columns_ rooms_ many_ pupils_ kept_ taped_ at_ to_ digit_ number_ readMany_ bestThen_ teacherOf_ columnOf_2 barsOf_ v2 r_4 hq) (cwV 1 hts gX6_swap_X6_isRight rfl rfl rfl (by decide +kernel) ⟨Nat.le_of_ble_eq_true rfl, Nat.le_of_ble_eq_true rfl⟩) hK hE hA hP hD hS [0, 1, 2, 3] rfl rfl rfl 6 0 rfl rfl rfl hl.1 rfl (Nat.le_of_ble_eq_true rfl) ⟨Nat.zero_le _, Nat.zero_le _⟩ dX6_swap_16 (fun H locs hP hD hS => ?_)
    have hP : va_P (dC, dI) vwCl [(h0, .inr (6, [.int thrown_, .int told_, .ref h0_row, .int columns_, .int rooms_, .int many_, .ref h0_subjectOf, .ref h0_teacherOf, .ref h0_seatsOf, .ref h0_columnOf, .ref h0_barsOf, .int pupils_, .ref h0_choices, .int kept_, .ref h0_tape, .int taped_, .int at_, .int to_, .int digit_, .int number_, .ref h0_was, .ref h0_readChoices, .int readMany_, .ref h0_open, .ref h0_wayOf, .int bestThen_, .ref h0_cure, .ref h0_left, .ref h0_satIn])), (h0_teacherOf, .inl (cyI, 17, .inl teacherOf_)), (h0_columnOf, .inl (cyI, 17, .inl columnOf_2)), (h0_barsOf, .inl (cyI, 10, .inl barsOf_))] H := hP
    have hD : va_D A [(h0, .inr (6, [.int thrown_, .int told_, .ref h0_row, .int columns_, .int rooms_, .int many_, .ref h0_subjectOf, .ref h0_teacherOf, .ref h0_seatsOf, .ref h0_columnOf, .ref h0_barsOf, .int pupils_, .ref h0_choices, .int kept_, .ref h0_tape, .int taped_, .int at_, .int to_, .int digit_, .int number_, .ref h0_was, .ref h0_readChoices, .int readMany_, .ref h0_open, .ref h0_wayOf, .int bestThen_, .ref h0_cure, .ref h0_left, .ref h0_satIn])), (h0_teacherOf, .inl (cyI, 17, .inl teacherOf_)), (h0_columnOf, .inl (cyI, 17, .inl columnOf_2)), (h0_barsOf, .inl (cyI, 10, .inl barsOf_))] := hD
    refine lv_if_eq (tgt := 24) hx hb dX6_swap_19 (by decide) (fun c_ => ?_) (fun c_ => ?_)
    · have h := (if_pos c_).symm.trans h
      exact J24 columnOf_2 h _ _ _ hP hD hS (lv_sub hl [0, 1, 2] rfl)
    · have h := (if_neg c_).symm.trans h
      refine lv_iconst (v := 1) hx hb dX6_swap_22 (by decide) ?_
      have h : some (1, columnOf_2) = some (rr, o0) := h
      have z0 := Option.some.inj h
      obtain ⟨rfl, z1⟩ := Prod.mk.inj z0
      obtain rfl := z1
      exact hret _ _ _ _ hP hS rfl dX6_swap_23

def m_X6_swaps (thrown_ : Int32) (rooms_ : Int32) (many_ : Int32) (pupils_ : Int32) (subjectOf_ : Nat → Int32) (teacherOf_ : Nat → Int32) (columnOf_ : Nat → Int32) (barsOf_ : Nat → Int32) (choices_ : Nat → Int32) (open_ : Nat → Int32) (v1 : Int32) (v2 : Int32) : Option (Int32 × Int32 × (Nat → Int32) × (Nat → Int32)) :=
  bd1 (m_X6_isSection many_ v1) (fun r_1 => (if r_1 = 0 then some ((-1), 0, columnOf_, open_) else bd1 (m_X6_isSection many_ v2) (fun r_2 => (if r_2 = 0 then some ((-1), 0, columnOf_, open_) else gd (inb v1 17) (gd (inb v2 17) ((if (columnOf_ v1.toNatClampNeg) = (columnOf_ v2.toNatClampNeg) then some ((-2), 0, columnOf_, open_) else bd2 (m_X6_swap rooms_ many_ teacherOf_ columnOf_ barsOf_ v1 v2) (fun r_3 columnOf_4 => (if r_3 = 0 then some ((-3), 0, columnOf_4, open_) else bd2 (m_X6_fitting many_ pupils_ subjectOf_ columnOf_4 choices_ open_) (fun r_5 open_6 => bd1 (m_X6_bits r_5) (fun r_7 => some (r_7, 0, columnOf_4, open_6))))))))))))
abbrev rmX6_swaps : Room := { frames := 11, cells := 0, slots := 0, locals := 259 }
set_option maxHeartbeats 4000000 in
set_option maxRecDepth 100000 in
theorem c_X6_swaps (l : Launch) (dC : Nat → ClassId) (dI : Nat → Nat → Nat) (cyC cyI cyJ : ClassId) (h0 h0_row h0_subjectOf h0_teacherOf h0_seatsOf h0_columnOf h0_barsOf h0_choices h0_tape h0_was h0_readChoices h0_open h0_wayOf h0_cure h0_left h0_satIn : Nat) (thrown_ : Int32) (told_ : Int32) (columns_ : Int32) (rooms_ : Int32) (many_ : Int32) (pupils_ : Int32) (kept_ : Int32) (taped_ : Int32) (at_ : Int32) (to_ : Int32) (digit_ : Int32) (number_ : Int32) (readMany_ : Int32) (bestThen_ : Int32) (subjectOf_ : Nat → Int32) (teacherOf_ : Nat → Int32) (columnOf_ : Nat → Int32) (barsOf_ : Nat → Int32) (choices_ : Nat → Int32) (open_ : Nat → Int32) (v1 : Int32) (v2 : Int32) (rr : Int32) (o0 : Int32) (o1 : Nat → Int32) (o2 : Nat → Int32) (h : m_X6_swaps thrown_ rooms_ many_ pupils_ subjectOf_ teacherOf_ columnOf_ barsOf_ choices_ open_ v1 v2 = some (rr, o0, o1, o2)) : uMi l yX6_swaps wsX6_swaps rmX6_swaps (dC, dI) [(cyC, .char), (cyI, .int), (cyJ, .long)] [.ref h0, .int v1, .int v2] [(h0, .inr (6, [.int thrown_, .int told_, .ref h0_row, .int columns_, .int rooms_, .int many_, .ref h0_subjectOf, .ref h0_teacherOf, .ref h0_seatsOf, .ref h0_columnOf, .ref h0_barsOf, .int pupils_, .ref h0_choices, .int kept_, .ref h0_tape, .int taped_, .int at_, .int to_, .int digit_, .int number_, .ref h0_was, .ref h0_readChoices, .int readMany_, .ref h0_open, .ref h0_wayOf, .int bestThen_, .ref h0_cure, .ref h0_left, .ref h0_satIn])), (h0_subjectOf, .inl (cyI, 17, .inl subjectOf_)), (h0_teacherOf, .inl (cyI, 17, .inl teacherOf_)), (h0_columnOf, .inl (cyI, 17, .inl columnOf_)), (h0_barsOf, .inl (cyI, 10, .inl barsOf_)), (h0_choices, .inl (cyI, 24, .inl choices_)), (h0_open, .inl (cyI, 10, .inl open_))] [(h0, .inr (6, [.int o0, .int told_, .ref h0_row, .int columns_, .int rooms_, .int many_, .ref h0_subjectOf, .ref h0_teacherOf, .ref h0_seatsOf, .ref h0_columnOf, .ref h0_barsOf, .int pupils_, .ref h0_choices, .int kept_, .ref h0_tape, .int taped_, .int at_, .int to_, .int digit_, .int number_, .ref h0_was, .ref h0_readChoices, .int readMany_, .ref h0_open, .ref h0_wayOf, .int bestThen_, .ref h0_cure, .ref h0_left, .ref h0_satIn])), (h0_subjectOf, .inl (cyI, 17, .inl subjectOf_)), (h0_teacherOf, .inl (cyI, 17, .inl teacherOf_)), (h0_columnOf, .inl (cyI, 17, .inl o1)), (h0_barsOf, .inl (cyI, 10, .inl barsOf_)), (h0_choices, .inl (cyI, 24, .inl choices_)), (h0_open, .inl (cyI, 10, .inl o2))] rr := by
  refine uMi.of (cc := cX6_swaps) (maxL := 3) (by decide) rfl (Nat.le_of_ble_eq_true rfl) (fun p e s m args below meth c A ls Q hx hb hml hown hts hA hP hK hD hE hS hl hret => ?_)
  have hown : s.vm.findClass RX6 = some m.cls := hown
  have hl : lv_has ls 3 [(0, .ref h0), (1, .int v1), (2, .int v2)] := hl
  have hiX6 : ∀ w ∈ u_ws RX6 TX6 29, w ∈ wsX6_swaps := fun _ h9 => List.mem_cons_of_mem _ (List.mem_append_right _ h9)
  unfold m_X6_swaps at h
  refine lv_aload_n hx hb dX6_swaps_0 rfl (lv_at hl 0 rfl) ?_
  refine lv_iconst (v := 0) hx hb dX6_swaps_1 (by decide) ?_
  refine va_put (D := (dC, dI)) (ci := 6) (v := .int 0) (ty := .int) (C := RX6) (T := TX6) (N := 29) hx hb hts hiX6 tyX6 tyX6_ok nmX6 hown hK hP hD hS 0 rfl rfl 0 (by decide) (hts (.fieldLink RX6 62 "OptionLatticeModel" "thrown" "I") (by decide +kernel)) (fun _ h9 => h9) rfl (by decide +kernel) rfl rfl (Nat.le_of_ble_eq_true rfl) dX6_swaps_2 (fun H locs hP hD hS => ?_)
  have hP : va_P (dC, dI) vwCl [(h0, .inr (6, [.int 0, .int told_, .ref h0_row, .int columns_, .int rooms_, .int many_, .ref h0_subjectOf, .ref h0_teacherOf, .ref h0_seatsOf, .ref h0_columnOf, .ref h0_barsOf, .int pupils_, .ref h0_choices, .int kept_, .ref h0_tape, .int taped_, .int at_, .int to_, .int digit_, .int number_, .ref h0_was, .ref h0_readChoices, .int readMany_, .ref h0_open, .ref h0_wayOf, .int bestThen_, .ref h0_cure, .ref h0_left, .ref h0_satIn])), (h0_subjectOf, .inl (cyI, 17, .inl subjectOf_)), (h0_teacherOf, .inl (cyI, 17, .inl teacherOf_)), (h0_columnOf, .inl (cyI, 17, .inl columnOf_)), (h0_barsOf, .inl (cyI, 10, .inl barsOf_)), (h0_choices, .inl (cyI, 24, .inl choices_)), (h0_open, .inl (cyI, 10, .inl open_))] H := hP
  have hD : va_D A [(h0, .inr (6, [.int 0, .int told_, .ref h0_row, .int columns_, .int rooms_, .int many_, .ref h0_subjectOf, .ref h0_teacherOf, .ref h0_seatsOf, .ref h0_columnOf, .ref h0_barsOf, .int pupils_, .ref h0_choices, .int kept_, .ref h0_tape, .int taped_, .int at_, .int to_, .int digit_, .int number_, .ref h0_was, .ref h0_readChoices, .int readMany_, .ref h0_open, .ref h0_wayOf, .int bestThen_, .ref h0_cure, .ref h0_left, .ref h0_satIn])), (h0_subjectOf, .inl (cyI, 17, .inl subjectOf_)), (h0_teacherOf, .inl (cyI, 17, .inl teacherOf_)), (h0_columnOf, .inl (cyI, 17, .inl columnOf_)), (h0_barsOf, .inl (cyI, 10, .inl barsOf_)), (h0_choices, .inl (cyI, 24, .inl choices_)), (h0_open, .inl (cyI, 10, .inl open_))] := hD
  refine lv_aload_n hx hb dX6_swaps_5 rfl (lv_at hl 0 rfl) ?_
  refine lv_iload_n hx hb dX6_swaps_6 rfl (lv_at hl 1 rfl) ?_
  obtain ⟨r_1, hq, h⟩ := bd1_some h
  refine uV_i (b := h0) (As := [.int v1]) (rest := []) ⟨hx, hb, hml, hown, hts⟩ (c_X6_isSection l dC dI cyC cyI cyJ h0 h0_row h0_subjectOf h0_teacherOf h0_seatsOf h0_columnOf h0_barsOf h0_choices h0_tape h0_was h0_readChoices h0_open h0_wayOf h0_cure h0_left h0_satIn 0 told_ columns_ rooms_ many_ pupils_ kept_ taped_ at_ to_ digit_ number_ readMany_ bestThen_ v1 r_1 hq) (cwV 1 hts gX6_swaps_X6_isSection rfl rfl rfl (by decide +kernel) ⟨Nat.le_of_ble_eq_true rfl, Nat.le_of_ble_eq_true rfl⟩) hK hE hA hP hD hS [0] rfl rfl rfl 6 0 rfl rfl rfl hl.1 rfl (Nat.le_of_ble_eq_true rfl) ⟨Nat.zero_le _, Nat.zero_le _⟩ dX6_swaps_7 (fun H locs hP hD hS => ?_)
  have hP : va_P (dC, dI) vwCl [(h0, .inr (6, [.int 0, .int told_, .ref h0_row, .int columns_, .int rooms_, .int many_, .ref h0_subjectOf, .ref h0_teacherOf, .ref h0_seatsOf, .ref h0_columnOf, .ref h0_barsOf, .int pupils_, .ref h0_choices, .int kept_, .ref h0_tape, .int taped_, .int at_, .int to_, .int digit_, .int number_, .ref h0_was, .ref h0_readChoices, .int readMany_, .ref h0_open, .ref h0_wayOf, .int bestThen_, .ref h0_cure, .ref h0_left, .ref h0_satIn])), (h0_subjectOf, .inl (cyI, 17, .inl subjectOf_)), (h0_teacherOf, .inl (cyI, 17, .inl teacherOf_)), (h0_columnOf, .inl (cyI, 17, .inl columnOf_)), (h0_barsOf, .inl (cyI, 10, .inl barsOf_)), (h0_choices, .inl (cyI, 24, .inl choices_)), (h0_open, .inl (cyI, 10, .inl open_))] H := hP
  have hD : va_D A [(h0, .inr (6, [.int 0, .int told_, .ref h0_row, .int columns_, .int rooms_, .int many_, .ref h0_subjectOf, .ref h0_teacherOf, .ref h0_seatsOf, .ref h0_columnOf, .ref h0_barsOf, .int pupils_, .ref h0_choices, .int kept_, .ref h0_tape, .int taped_, .int at_, .int to_, .int digit_, .int number_, .ref h0_was, .ref h0_readChoices, .int readMany_, .ref h0_open, .ref h0_wayOf, .int bestThen_, .ref h0_cure, .ref h0_left, .ref h0_satIn])), (h0_subjectOf, .inl (cyI, 17, .inl subjectOf_)), (h0_teacherOf, .inl (cyI, 17, .inl teacherOf_)), (h0_columnOf, .inl (cyI, 17, .inl columnOf_)), (h0_barsOf, .inl (cyI, 10, .inl barsOf_)), (h0_choices, .inl (cyI, 24, .inl choices_)), (h0_open, .inl (cyI, 10, .inl open_))] := hD
  refine lv_if_eq (tgt := 21) hx hb dX6_swaps_10 (by decide) (fun c_ => ?_) (fun c_ => ?_)
  · have h := (if_pos c_).symm.trans h
    refine lv_iconst (v := (-1)) hx hb dX6_swaps_21 (by decide) ?_
    have h : some ((-1), 0, columnOf_, open_) = some (rr, o0, o1, o2) := h
    have z0 := Option.some.inj h
    obtain ⟨rfl, z1⟩ := Prod.mk.inj z0
    obtain ⟨rfl, z2⟩ := Prod.mk.inj z1
    obtain ⟨rfl, z3⟩ := Prod.mk.inj z2
    obtain rfl := z3
    exact hret _ _ _ _ hP hS rfl dX6_swaps_22
  · have h := (if_neg c_).symm.trans h
    refine lv_aload_n hx hb dX6_swaps_13 rfl (lv_at hl 0 rfl) ?_
    refine lv_iload_n hx hb dX6_swaps_14 rfl (lv_at hl 2 rfl) ?_
    obtain ⟨r_2, hq, h⟩ := bd1_some h
    refine uV_i (b := h0) (As := [.int v2]) (rest := []) ⟨hx, hb, hml, hown, hts⟩ (c_X6_isSection l dC dI cyC cyI cyJ h0 h0_row h0_subjectOf h0_teacherOf h0_seatsOf h0_columnOf h0_barsOf h0_choices h0_tape h0_was h0_readChoices h0_open h0_wayOf h0_cure h0_left h0_satIn 0 told_ columns_ rooms_ many_ pupils_ kept_ taped_ at_ to_ digit_ number_ readMany_ bestThen_ v2 r_2 hq) (cwV 1 hts gX6_swaps_X6_isSection rfl rfl rfl (by decide +kernel) ⟨Nat.le_of_ble_eq_true rfl, Nat.le_of_ble_eq_true rfl⟩) hK hE hA hP hD hS [0] rfl rfl rfl 6 0 rfl rfl rfl hl.1 rfl (Nat.le_of_ble_eq_true rfl) ⟨Nat.zero_le _, Nat.zero_le _⟩ dX6_swaps_15 (fun H locs hP hD hS => ?_)
    have hP : va_P (dC, dI) vwCl [(h0, .inr (6, [.int 0, .int told_, .ref h0_row, .int columns_, .int rooms_, .int many_, .ref h0_subjectOf, .ref h0_teacherOf, .ref h0_seatsOf, .ref h0_columnOf, .ref h0_barsOf, .int pupils_, .ref h0_choices, .int kept_, .ref h0_tape, .int taped_, .int at_, .int to_, .int digit_, .int number_, .ref h0_was, .ref h0_readChoices, .int readMany_, .ref h0_open, .ref h0_wayOf, .int bestThen_, .ref h0_cure, .ref h0_left, .ref h0_satIn])), (h0_subjectOf, .inl (cyI, 17, .inl subjectOf_)), (h0_teacherOf, .inl (cyI, 17, .inl teacherOf_)), (h0_columnOf, .inl (cyI, 17, .inl columnOf_)), (h0_barsOf, .inl (cyI, 10, .inl barsOf_)), (h0_choices, .inl (cyI, 24, .inl choices_)), (h0_open, .inl (cyI, 10, .inl open_))] H := hP
    have hD : va_D A [(h0, .inr (6, [.int 0, .int told_, .ref h0_row, .int columns_, .int rooms_, .int many_, .ref h0_subjectOf, .ref h0_teacherOf, .ref h0_seatsOf, .ref h0_columnOf, .ref h0_barsOf, .int pupils_, .ref h0_choices, .int kept_, .ref h0_tape, .int taped_, .int at_, .int to_, .int digit_, .int number_, .ref h0_was, .ref h0_readChoices, .int readMany_, .ref h0_open, .ref h0_wayOf, .int bestThen_, .ref h0_cure, .ref h0_left, .ref h0_satIn])), (h0_subjectOf, .inl (cyI, 17, .inl subjectOf_)), (h0_teacherOf, .inl (cyI, 17, .inl teacherOf_)), (h0_columnOf, .inl (cyI, 17, .inl columnOf_)), (h0_barsOf, .inl (cyI, 10, .inl barsOf_)), (h0_choices, .inl (cyI, 24, .inl choices_)), (h0_open, .inl (cyI, 10, .inl open_))] := hD
    refine lv_if_ne (tgt := 23) hx hb dX6_swaps_18 (by decide) (fun c_ => ?_) (fun c_ => ?_)
    · have h := (if_neg c_).symm.trans h
      refine lv_aload_n hx hb dX6_swaps_23 rfl (lv_at hl 0 rfl) ?_
      refine va_get (D := (dC, dI)) (ci := 6) (v := .ref h0_columnOf) (C := RX6) (T := TX6) (N := 29) hx hb hts hiX6 hown hK hP 0 rfl rfl 9 (by decide) (hts (.fieldLink RX6 29 "OptionLatticeModel" "columnOf" "[I") (by decide +kernel)) (fun _ h9 => h9) rfl dX6_swaps_24 ?_
      refine lv_iload_n hx hb dX6_swaps_27 rfl (lv_at hl 1 rfl) ?_
      obtain ⟨g_, h⟩ := gd_some h
      refine va_iald hx hb hK hP 3 1 rfl rfl (inb_in g_) dX6_swaps_28 ?_
      refine lv_aload_n hx hb dX6_swaps_29 rfl (lv_at hl 0 rfl) ?_
      refine va_get (D := (dC, dI)) (ci := 6) (v := .ref h0_columnOf) (C := RX6) (T := TX6) (N := 29) hx hb hts hiX6 hown hK hP 0 rfl rfl 9 (by decide) (hts (.fieldLink RX6 29 "OptionLatticeModel" "columnOf" "[I") (by decide +kernel)) (fun _ h9 => h9) rfl dX6_swaps_30 ?_
      refine lv_iload_n hx hb dX6_swaps_33 rfl (lv_at hl 2 rfl) ?_
      obtain ⟨g_, h⟩ := gd_some h
      refine va_iald hx hb hK hP 3 1 rfl rfl (inb_in g_) dX6_swaps_34 ?_
      refine lv_icmp_ne (tgt := 41) hx hb dX6_swaps_35 (by decide) (fun c_ => ?_) (fun c_ => ?_)
      · have h := (if_neg c_).symm.trans h
        refine lv_aload_n hx hb dX6_swaps_41 rfl (lv_at hl 0 rfl) ?_
        refine lv_iload_n hx hb dX6_swaps_42 rfl (lv_at hl 1 rfl) ?_
        refine lv_iload_n hx hb dX6_swaps_43 rfl (lv_at hl 2 rfl) ?_
        obtain ⟨r_3, columnOf_4, hq, h⟩ := bd2_some h
        refine uV_i (b := h0) (As := [.int v1, .int v2]) (rest := []) ⟨hx, hb, hml, hown, hts⟩ (c_X6_swap l dC dI cyC cyI cyJ h0 h0_row h0_subjectOf h0_teacherOf h0_seatsOf h0_columnOf h0_barsOf h0_choices h0_tape h0_was h0_readChoices h0_open h0_wayOf h0_cure h0_left h0_satIn 0 told_ columns_ rooms_ many_ pupils_ kept_ taped_ at_ to_ digit_ number_ readMany_ bestThen_ teacherOf_ columnOf_ barsOf_ v1 v2 r_3 columnOf_4 hq) (cwV 2 hts gX6_swaps_X6_swap rfl rfl rfl (by decide +kernel) ⟨Nat.le_of_ble_eq_true rfl, Nat.le_of_ble_eq_true rfl⟩) hK hE hA hP hD hS [0, 2, 3, 4] rfl rfl rfl 6 0 rfl rfl rfl hl.1 rfl (Nat.le_of_ble_eq_true rfl) ⟨Nat.zero_le _, Nat.zero_le _⟩ dX6_swaps_44 (fun H locs hP hD hS => ?_)
        have hP : va_P (dC, dI) vwCl [(h0, .inr (6, [.int 0, .int told_, .ref h0_row, .int columns_, .int rooms_, .int many_, .ref h0_subjectOf, .ref h0_teacherOf, .ref h0_seatsOf, .ref h0_columnOf, .ref h0_barsOf, .int pupils_, .ref h0_choices, .int kept_, .ref h0_tape, .int taped_, .int at_, .int to_, .int digit_, .int number_, .ref h0_was, .ref h0_readChoices, .int readMany_, .ref h0_open, .ref h0_wayOf, .int bestThen_, .ref h0_cure, .ref h0_left, .ref h0_satIn])), (h0_subjectOf, .inl (cyI, 17, .inl subjectOf_)), (h0_teacherOf, .inl (cyI, 17, .inl teacherOf_)), (h0_columnOf, .inl (cyI, 17, .inl columnOf_4)), (h0_barsOf, .inl (cyI, 10, .inl barsOf_)), (h0_choices, .inl (cyI, 24, .inl choices_)), (h0_open, .inl (cyI, 10, .inl open_))] H := hP
        have hD : va_D A [(h0, .inr (6, [.int 0, .int told_, .ref h0_row, .int columns_, .int rooms_, .int many_, .ref h0_subjectOf, .ref h0_teacherOf, .ref h0_seatsOf, .ref h0_columnOf, .ref h0_barsOf, .int pupils_, .ref h0_choices, .int kept_, .ref h0_tape, .int taped_, .int at_, .int to_, .int digit_, .int number_, .ref h0_was, .ref h0_readChoices, .int readMany_, .ref h0_open, .ref h0_wayOf, .int bestThen_, .ref h0_cure, .ref h0_left, .ref h0_satIn])), (h0_subjectOf, .inl (cyI, 17, .inl subjectOf_)), (h0_teacherOf, .inl (cyI, 17, .inl teacherOf_)), (h0_columnOf, .inl (cyI, 17, .inl columnOf_4)), (h0_barsOf, .inl (cyI, 10, .inl barsOf_)), (h0_choices, .inl (cyI, 24, .inl choices_)), (h0_open, .inl (cyI, 10, .inl open_))] := hD
        refine lv_if_eq (tgt := 60) hx hb dX6_swaps_47 (by decide) (fun c_ => ?_) (fun c_ => ?_)
        · have h := (if_pos c_).symm.trans h
          refine lv_bipush (v := (-3)) hx hb dX6_swaps_60 (by decide) ?_
          have h : some ((-3), 0, columnOf_4, open_) = some (rr, o0, o1, o2) := h
          have z0 := Option.some.inj h
          obtain ⟨rfl, z1⟩ := Prod.mk.inj z0
          obtain ⟨rfl, z2⟩ := Prod.mk.inj z1
          obtain ⟨rfl, z3⟩ := Prod.mk.inj z2
          obtain rfl := z3
          exact hret _ _ _ _ hP hS rfl dX6_swaps_62
        · have h := (if_neg c_).symm.trans h
          refine lv_aload_n hx hb dX6_swaps_50 rfl (lv_at hl 0 rfl) ?_
          obtain ⟨r_5, open_6, hq, h⟩ := bd2_some h
          refine uV_i (b := h0) (As := []) (rest := []) ⟨hx, hb, hml, hown, hts⟩ (c_X6_fitting l dC dI cyC cyI cyJ h0 h0_row h0_subjectOf h0_teacherOf h0_seatsOf h0_columnOf h0_barsOf h0_choices h0_tape h0_was h0_readChoices h0_open h0_wayOf h0_cure h0_left h0_satIn 0 told_ columns_ rooms_ many_ pupils_ kept_ taped_ at_ to_ digit_ number_ readMany_ bestThen_ subjectOf_ columnOf_4 choices_ open_ r_5 open_6 hq) (cwV 0 hts gX6_swaps_X6_fitting rfl rfl rfl (by decide +kernel) ⟨Nat.le_of_ble_eq_true rfl, Nat.le_of_ble_eq_true rfl⟩) hK hE hA hP hD hS [0, 1, 3, 5, 6] rfl rfl rfl 6 0 rfl rfl rfl hl.1 rfl (Nat.le_of_ble_eq_true rfl) ⟨Nat.zero_le _, Nat.zero_le _⟩ dX6_swaps_51 (fun H locs hP hD hS => ?_)
          have hP : va_P (dC, dI) vwCl [(h0, .inr (6, [.int 0, .int told_, .ref h0_row, .int columns_, .int rooms_, .int many_, .ref h0_subjectOf, .ref h0_teacherOf, .ref h0_seatsOf, .ref h0_columnOf, .ref h0_barsOf, .int pupils_, .ref h0_choices, .int kept_, .ref h0_tape, .int taped_, .int at_, .int to_, .int digit_, .int number_, .ref h0_was, .ref h0_readChoices, .int readMany_, .ref h0_open, .ref h0_wayOf, .int bestThen_, .ref h0_cure, .ref h0_left, .ref h0_satIn])), (h0_subjectOf, .inl (cyI, 17, .inl subjectOf_)), (h0_teacherOf, .inl (cyI, 17, .inl teacherOf_)), (h0_columnOf, .inl (cyI, 17, .inl columnOf_4)), (h0_barsOf, .inl (cyI, 10, .inl barsOf_)), (h0_choices, .inl (cyI, 24, .inl choices_)), (h0_open, .inl (cyI, 10, .inl open_6))] H := hP
          have hD : va_D A [(h0, .inr (6, [.int 0, .int told_, .ref h0_row, .int columns_, .int rooms_, .int many_, .ref h0_subjectOf, .ref h0_teacherOf, .ref h0_seatsOf, .ref h0_columnOf, .ref h0_barsOf, .int pupils_, .ref h0_choices, .int kept_, .ref h0_tape, .int taped_, .int at_, .int to_, .int digit_, .int number_, .ref h0_was, .ref h0_readChoices, .int readMany_, .ref h0_open, .ref h0_wayOf, .int bestThen_, .ref h0_cure, .ref h0_left, .ref h0_satIn])), (h0_subjectOf, .inl (cyI, 17, .inl subjectOf_)), (h0_teacherOf, .inl (cyI, 17, .inl teacherOf_)), (h0_columnOf, .inl (cyI, 17, .inl columnOf_4)), (h0_barsOf, .inl (cyI, 10, .inl barsOf_)), (h0_choices, .inl (cyI, 24, .inl choices_)), (h0_open, .inl (cyI, 10, .inl open_6))] := hD
          obtain ⟨r_7, hq, h⟩ := bd1_some h
          refine uS_i (As := [.int r_5]) (rest := []) ⟨hx, hb, hml, hown, hts⟩ (c_X6_bits l dC dI cyC cyI cyJ r_5 r_7 hq) (va_cwS 1 hts gX6_swaps_X6_bits rfl rfl rfl (by decide +kernel) ⟨Nat.le_of_ble_eq_true rfl, Nat.le_of_ble_eq_true rfl⟩) hK hE hA hP hD hS [] rfl rfl rfl rfl hl.1 rfl (Nat.le_of_ble_eq_true rfl) ⟨Nat.zero_le _, Nat.zero_le _⟩ dX6_swaps_54 (fun H locs hP hD hS => ?_)
          have hP : va_P (dC, dI) vwCl [(h0, .inr (6, [.int 0, .int told_, .ref h0_row, .int columns_, .int rooms_, .int many_, .ref h0_subjectOf, .ref h0_teacherOf, .ref h0_seatsOf, .ref h0_columnOf, .ref h0_barsOf, .int pupils_, .ref h0_choices, .int kept_, .ref h0_tape, .int taped_, .int at_, .int to_, .int digit_, .int number_, .ref h0_was, .ref h0_readChoices, .int readMany_, .ref h0_open, .ref h0_wayOf, .int bestThen_, .ref h0_cure, .ref h0_left, .ref h0_satIn])), (h0_subjectOf, .inl (cyI, 17, .inl subjectOf_)), (h0_teacherOf, .inl (cyI, 17, .inl teacherOf_)), (h0_columnOf, .inl (cyI, 17, .inl columnOf_4)), (h0_barsOf, .inl (cyI, 10, .inl barsOf_)), (h0_choices, .inl (cyI, 24, .inl choices_)), (h0_open, .inl (cyI, 10, .inl open_6))] H := hP
          have hD : va_D A [(h0, .inr (6, [.int 0, .int told_, .ref h0_row, .int columns_, .int rooms_, .int many_, .ref h0_subjectOf, .ref h0_teacherOf, .ref h0_seatsOf, .ref h0_columnOf, .ref h0_barsOf, .int pupils_, .ref h0_choices, .int kept_, .ref h0_tape, .int taped_, .int at_, .int to_, .int digit_, .int number_, .ref h0_was, .ref h0_readChoices, .int readMany_, .ref h0_open, .ref h0_wayOf, .int bestThen_, .ref h0_cure, .ref h0_left, .ref h0_satIn])), (h0_subjectOf, .inl (cyI, 17, .inl subjectOf_)), (h0_teacherOf, .inl (cyI, 17, .inl teacherOf_)), (h0_columnOf, .inl (cyI, 17, .inl columnOf_4)), (h0_barsOf, .inl (cyI, 10, .inl barsOf_)), (h0_choices, .inl (cyI, 24, .inl choices_)), (h0_open, .inl (cyI, 10, .inl open_6))] := hD
          refine lv_goto (tgt := 62) hx hb dX6_swaps_57 (by decide) ?_
          have h : some (r_7, 0, columnOf_4, open_6) = some (rr, o0, o1, o2) := h
          have z0 := Option.some.inj h
          obtain ⟨rfl, z1⟩ := Prod.mk.inj z0
          obtain ⟨rfl, z2⟩ := Prod.mk.inj z1
          obtain ⟨rfl, z3⟩ := Prod.mk.inj z2
          obtain rfl := z3
          exact hret _ _ _ _ hP hS rfl dX6_swaps_62
      · have h := (if_pos c_).symm.trans h
        refine lv_bipush (v := (-2)) hx hb dX6_swaps_38 (by decide) ?_
        have h : some ((-2), 0, columnOf_, open_) = some (rr, o0, o1, o2) := h
        have z0 := Option.some.inj h
        obtain ⟨rfl, z1⟩ := Prod.mk.inj z0
        obtain ⟨rfl, z2⟩ := Prod.mk.inj z1
        obtain ⟨rfl, z3⟩ := Prod.mk.inj z2
        obtain rfl := z3
        exact hret _ _ _ _ hP hS rfl dX6_swaps_40
    · have h := (if_pos c_).symm.trans h
      refine lv_iconst (v := (-1)) hx hb dX6_swaps_21 (by decide) ?_
      have h : some ((-1), 0, columnOf_, open_) = some (rr, o0, o1, o2) := h
      have z0 := Option.some.inj h
      obtain ⟨rfl, z1⟩ := Prod.mk.inj z0
      obtain ⟨rfl, z2⟩ := Prod.mk.inj z1
      obtain ⟨rfl, z3⟩ := Prod.mk.inj z2
      obtain rfl := z3
      exact hret _ _ _ _ hP hS rfl dX6_swaps_22

def m_X6_bars_86 (thrown_ : Int32) (barsOf_ : Nat → Int32) (v1 : Int32) (v2 : Int32) : Option (Int32 × Int32 × (Nat → Int32)) :=
  gd (inb v1 10) (gd (inb v1 10) (gd (inb v1 10) (some (((upd barsOf_ v1.toNatClampNeg ((barsOf_ v1.toNatClampNeg) ^^^ ((1 : Int32) <<< (v2 &&& 31)))) v1.toNatClampNeg), thrown_, (upd barsOf_ v1.toNatClampNeg ((barsOf_ v1.toNatClampNeg) ^^^ ((1 : Int32) <<< (v2 &&& 31))))))))
def m_X6_bars_42 (thrown_ : Int32) (many_ : Int32) (teacherOf_ : Nat → Int32) (columnOf_ : Nat → Int32) (barsOf_ : Nat → Int32) (v1 : Int32) (v2 : Int32) (v3 : Int32) (rec42 : Int32 → Option (Int32 × Int32 × (Nat → Int32))) : Int32 → Option (Int32 × Int32 × (Nat → Int32)) := fun v4 =>
  (if many_ ≤ v4 then m_X6_bars_86 thrown_ barsOf_ v1 v2 else (if v3 = 0 then lt' (v4 + 1) (fun v4_1 => rec42 v4_1) else gd (inb v4 17) ((if (teacherOf_ v4.toNatClampNeg) = v1 then gd (inb v4 17) ((if (columnOf_ v4.toNatClampNeg) = v2 then some ((-3), thrown_, barsOf_) else lt' (v4 + 1) (fun v4_3 => rec42 v4_3))) else lt' (v4 + 1) (fun v4_2 => rec42 v4_2)))))
def m_X6_bars (thrown_ : Int32) (columns_ : Int32) (many_ : Int32) (teacherOf_ : Nat → Int32) (columnOf_ : Nat → Int32) (barsOf_ : Nat → Int32) (v1 : Int32) (v2 : Int32) (v3 : Int32) : Option (Int32 × Int32 × (Nat → Int32)) :=
  bd1 (m_X6_isTeacher v1) (fun r_4 => (if r_4 = 0 then some ((-1), 0, barsOf_) else bd1 (m_X6_isColumn columns_ v2) (fun r_5 => (if r_5 = 0 then some ((-1), 0, barsOf_) else gd (inb v1 10) (bd1 (m_X6_has (barsOf_ v1.toNatClampNeg) v2) (fun r_6 => (if r_6 = v3 then some ((-2), 0, barsOf_) else it1 (m_X6_bars_42 0 many_ teacherOf_ columnOf_ barsOf_ v1 v2 v3) 1100 0)))))))
abbrev rmX6_bars : Room := { frames := 2, cells := 0, slots := 0, locals := 46 }
set_option maxHeartbeats 4000000 in
set_option maxRecDepth 100000 in
theorem c_X6_bars (l : Launch) (dC : Nat → ClassId) (dI : Nat → Nat → Nat) (cyC cyI cyJ : ClassId) (h0 h0_row h0_subjectOf h0_teacherOf h0_seatsOf h0_columnOf h0_barsOf h0_choices h0_tape h0_was h0_readChoices h0_open h0_wayOf h0_cure h0_left h0_satIn : Nat) (thrown_ : Int32) (told_ : Int32) (columns_ : Int32) (rooms_ : Int32) (many_ : Int32) (pupils_ : Int32) (kept_ : Int32) (taped_ : Int32) (at_ : Int32) (to_ : Int32) (digit_ : Int32) (number_ : Int32) (readMany_ : Int32) (bestThen_ : Int32) (teacherOf_ : Nat → Int32) (columnOf_ : Nat → Int32) (barsOf_ : Nat → Int32) (v1 : Int32) (v2 : Int32) (v3 : Int32) (rr : Int32) (o0 : Int32) (o1 : Nat → Int32) (h : m_X6_bars thrown_ columns_ many_ teacherOf_ columnOf_ barsOf_ v1 v2 v3 = some (rr, o0, o1)) : uMi l yX6_bars wsX6_bars rmX6_bars (dC, dI) [(cyC, .char), (cyI, .int), (cyJ, .long)] [.ref h0, .int v1, .int v2, .int v3] [(h0, .inr (6, [.int thrown_, .int told_, .ref h0_row, .int columns_, .int rooms_, .int many_, .ref h0_subjectOf, .ref h0_teacherOf, .ref h0_seatsOf, .ref h0_columnOf, .ref h0_barsOf, .int pupils_, .ref h0_choices, .int kept_, .ref h0_tape, .int taped_, .int at_, .int to_, .int digit_, .int number_, .ref h0_was, .ref h0_readChoices, .int readMany_, .ref h0_open, .ref h0_wayOf, .int bestThen_, .ref h0_cure, .ref h0_left, .ref h0_satIn])), (h0_teacherOf, .inl (cyI, 17, .inl teacherOf_)), (h0_columnOf, .inl (cyI, 17, .inl columnOf_)), (h0_barsOf, .inl (cyI, 10, .inl barsOf_))] [(h0, .inr (6, [.int o0, .int told_, .ref h0_row, .int columns_, .int rooms_, .int many_, .ref h0_subjectOf, .ref h0_teacherOf, .ref h0_seatsOf, .ref h0_columnOf, .ref h0_barsOf, .int pupils_, .ref h0_choices, .int kept_, .ref h0_tape, .int taped_, .int at_, .int to_, .int digit_, .int number_, .ref h0_was, .ref h0_readChoices, .int readMany_, .ref h0_open, .ref h0_wayOf, .int bestThen_, .ref h0_cure, .ref h0_left, .ref h0_satIn])), (h0_teacherOf, .inl (cyI, 17, .inl teacherOf_)), (h0_columnOf, .inl (cyI, 17, .inl columnOf_)), (h0_barsOf, .inl (cyI, 10, .inl o1))] rr := by
  refine uMi.of (cc := cX6_bars) (maxL := 5) (by decide) rfl (Nat.le_of_ble_eq_true rfl) (fun p e s m args below meth c A ls Q hx hb hml hown hts hA hP hK hD hE hS hl hret => ?_)
  have hown : s.vm.findClass RX6 = some m.cls := hown
  have hl : lv_has ls 5 [(0, .ref h0), (1, .int v1), (2, .int v2), (3, .int v3)] := hl
  have hiX6 : ∀ w ∈ u_ws RX6 TX6 29, w ∈ wsX6_bars := fun _ h9 => List.mem_cons_of_mem _ (List.mem_append_right _ h9)
  have J86 : ∀ (thrown_ : Int32), m_X6_bars_86 thrown_ barsOf_ v1 v2 = some (rr, o0, o1) → ∀ (H : Heap) (locs : List Loc) (ls : Array Slot), va_P (dC, dI) vwCl [(h0, .inr (6, [.int thrown_, .int told_, .ref h0_row, .int columns_, .int rooms_, .int many_, .ref h0_subjectOf, .ref h0_teacherOf, .ref h0_seatsOf, .ref h0_columnOf, .ref h0_barsOf, .int pupils_, .ref h0_choices, .int kept_, .ref h0_tape, .int taped_, .int at_, .int to_, .int digit_, .int number_, .ref h0_was, .ref h0_readChoices, .int readMany_, .ref h0_open, .ref h0_wayOf, .int bestThen_, .ref h0_cure, .ref h0_left, .ref h0_satIn])), (h0_teacherOf, .inl (cyI, 17, .inl teacherOf_)), (h0_columnOf, .inl (cyI, 17, .inl columnOf_)), (h0_barsOf, .inl (cyI, 10, .inl barsOf_))] H → va_D A [(h0, .inr (6, [.int thrown_, .int told_, .ref h0_row, .int columns_, .int rooms_, .int many_, .ref h0_subjectOf, .ref h0_teacherOf, .ref h0_seatsOf, .ref h0_columnOf, .ref h0_barsOf, .int pupils_, .ref h0_choices, .int kept_, .ref h0_tape, .int taped_, .int at_, .int to_, .int digit_, .int number_, .ref h0_was, .ref h0_readChoices, .int readMany_, .ref h0_open, .ref h0_wayOf, .int bestThen_, .ref h0_cure, .ref h0_left, .ref h0_satIn])), (h0_teacherOf, .inl (cyI, 17, .inl teacherOf_)), (h0_columnOf, .inl (cyI, 17, .inl columnOf_)), (h0_barsOf, .inl (cyI, 10, .inl barsOf_))] → va_S A s.heap H locs → lv_has ls 5 [(0, .ref h0), (1, .int v1), (2, .int v2)] → W p l e rmX6_bars s m args below meth c H locs 0 0 Q (F0 m 86 ls []) := by
    intro thrown_ h H locs ls hP hD hS hl
    unfold m_X6_bars_86 at h
    refine lv_aload_n hx hb dX6_bars_86 rfl (lv_at hl 0 rfl) ?_
    refine va_get (D := (dC, dI)) (ci := 6) (v := .ref h0_barsOf) (C := RX6) (T := TX6) (N := 29) hx hb hts hiX6 hown hK hP 0 rfl rfl 10 (by decide) (hts (.fieldLink RX6 32 "OptionLatticeModel" "barsOf" "[I") (by decide +kernel)) (fun _ h9 => h9) rfl dX6_bars_87 ?_
    refine lv_iload_n hx hb dX6_bars_90 rfl (lv_at hl 1 rfl) ?_
    refine lv_dup2_11 hx hb dX6_bars_91 rfl rfl ?_
    obtain ⟨g_, h⟩ := gd_some h
    refine va_iald hx hb hK hP 3 1 rfl rfl (inb_in g_) dX6_bars_92 ?_
    refine lv_iconst (v := 1) hx hb dX6_bars_93 (by decide) ?_
    refine lv_iload_n hx hb dX6_bars_94 rfl (lv_at hl 2 rfl) ?_
    refine lv_ishl hx hb dX6_bars_95 ?_
    refine lv_ixor hx hb dX6_bars_96 ?_
    obtain ⟨g_, h⟩ := gd_some h
    refine va_iast hx hb hK hP hD hS 3 1 rfl rfl (inb_in g_) dX6_bars_97 (fun H locs hP hD hS => ?_)
    have hP : va_P (dC, dI) vwCl [(h0, .inr (6, [.int thrown_, .int told_, .ref h0_row, .int columns_, .int rooms_, .int many_, .ref h0_subjectOf, .ref h0_teacherOf, .ref h0_seatsOf, .ref h0_columnOf, .ref h0_barsOf, .int pupils_, .ref h0_choices, .int kept_, .ref h0_tape, .int taped_, .int at_, .int to_, .int digit_, .int number_, .ref h0_was, .ref h0_readChoices, .int readMany_, .ref h0_open, .ref h0_wayOf, .int bestThen_, .ref h0_cure, .ref h0_left, .ref h0_satIn])), (h0_teacherOf, .inl (cyI, 17, .inl teacherOf_)), (h0_columnOf, .inl (cyI, 17, .inl columnOf_)), (h0_barsOf, .inl (cyI, 10, .inl (upd barsOf_ v1.toNatClampNeg ((barsOf_ v1.toNatClampNeg) ^^^ ((1 : Int32) <<< (v2 &&& 31))))))] H := hP
    have hD : va_D A [(h0, .inr (6, [.int thrown_, .int told_, .ref h0_row, .int columns_, .int rooms_, .int many_, .ref h0_subjectOf, .ref h0_teacherOf, .ref h0_seatsOf, .ref h0_columnOf, .ref h0_barsOf, .int pupils_, .ref h0_choices, .int kept_, .ref h0_tape, .int taped_, .int at_, .int to_, .int digit_, .int number_, .ref h0_was, .ref h0_readChoices, .int readMany_, .ref h0_open, .ref h0_wayOf, .int bestThen_, .ref h0_cure, .ref h0_left, .ref h0_satIn])), (h0_teacherOf, .inl (cyI, 17, .inl teacherOf_)), (h0_columnOf, .inl (cyI, 17, .inl columnOf_)), (h0_barsOf, .inl (cyI, 10, .inl (upd barsOf_ v1.toNatClampNeg ((barsOf_ v1.toNatClampNeg) ^^^ ((1 : Int32) <<< (v2 &&& 31))))))] := hD
    refine lv_aload_n hx hb dX6_bars_98 rfl (lv_at hl 0 rfl) ?_
    refine va_get (D := (dC, dI)) (ci := 6) (v := .ref h0_barsOf) (C := RX6) (T := TX6) (N := 29) hx hb hts hiX6 hown hK hP 0 rfl rfl 10 (by decide) (hts (.fieldLink RX6 32 "OptionLatticeModel" "barsOf" "[I") (by decide +kernel)) (fun _ h9 => h9) rfl dX6_bars_99 ?_
    refine lv_iload_n hx hb dX6_bars_102 rfl (lv_at hl 1 rfl) ?_
    obtain ⟨g_, h⟩ := gd_some h
    refine va_iald hx hb hK hP 3 1 rfl rfl (inb_in g_) dX6_bars_103 ?_
    have h : some (((upd barsOf_ v1.toNatClampNeg ((barsOf_ v1.toNatClampNeg) ^^^ ((1 : Int32) <<< (v2 &&& 31)))) v1.toNatClampNeg), thrown_, (upd barsOf_ v1.toNatClampNeg ((barsOf_ v1.toNatClampNeg) ^^^ ((1 : Int32) <<< (v2 &&& 31))))) = some (rr, o0, o1) := h
    have z0 := Option.some.inj h
    obtain ⟨rfl, z1⟩ := Prod.mk.inj z0
    obtain ⟨rfl, z2⟩ := Prod.mk.inj z1
    obtain rfl := z2
    exact hret _ _ _ _ hP hS rfl dX6_bars_104
  have L42 : ∀ (thrown_ : Int32), ∀ (n42 : Nat), ∀ (v4 : Int32), it1 (m_X6_bars_42 thrown_ many_ teacherOf_ columnOf_ barsOf_ v1 v2 v3) n42 v4 = some (rr, o0, o1) → ∀ (H : Heap) (locs : List Loc) (ls : Array Slot), va_P (dC, dI) vwCl [(h0, .inr (6, [.int thrown_, .int told_, .ref h0_row, .int columns_, .int rooms_, .int many_, .ref h0_subjectOf, .ref h0_teacherOf, .ref h0_seatsOf, .ref h0_columnOf, .ref h0_barsOf, .int pupils_, .ref h0_choices, .int kept_, .ref h0_tape, .int taped_, .int at_, .int to_, .int digit_, .int number_, .ref h0_was, .ref h0_readChoices, .int readMany_, .ref h0_open, .ref h0_wayOf, .int bestThen_, .ref h0_cure, .ref h0_left, .ref h0_satIn])), (h0_teacherOf, .inl (cyI, 17, .inl teacherOf_)), (h0_columnOf, .inl (cyI, 17, .inl columnOf_)), (h0_barsOf, .inl (cyI, 10, .inl barsOf_))] H → va_D A [(h0, .inr (6, [.int thrown_, .int told_, .ref h0_row, .int columns_, .int rooms_, .int many_, .ref h0_subjectOf, .ref h0_teacherOf, .ref h0_seatsOf, .ref h0_columnOf, .ref h0_barsOf, .int pupils_, .ref h0_choices, .int kept_, .ref h0_tape, .int taped_, .int at_, .int to_, .int digit_, .int number_, .ref h0_was, .ref h0_readChoices, .int readMany_, .ref h0_open, .ref h0_wayOf, .int bestThen_, .ref h0_cure, .ref h0_left, .ref h0_satIn])), (h0_teacherOf, .inl (cyI, 17, .inl teacherOf_)), (h0_columnOf, .inl (cyI, 17, .inl columnOf_)), (h0_barsOf, .inl (cyI, 10, .inl barsOf_))] → va_S A s.heap H locs → lv_has ls 5 [(0, .ref h0), (1, .int v1), (2, .int v2), (3, .int v3), (4, .int v4)] → W p l e rmX6_bars s m args below meth c H locs 0 0 Q (F0 m 42 ls []) := by
    intro thrown_ n42
    induction n42 with
    | zero => intro v4 h; exact absurd h (fun z => it1_z z)
    | succ n42 ih42 =>
      intro v4 h H locs ls hP hD hS hl
      have h : m_X6_bars_42 thrown_ many_ teacherOf_ columnOf_ barsOf_ v1 v2 v3 (it1 (m_X6_bars_42 thrown_ many_ teacherOf_ columnOf_ barsOf_ v1 v2 v3) n42) v4 = some (rr, o0, o1) := h
      unfold m_X6_bars_42 at h
      refine lv_iload hx hb dX6_bars_42 (lv_at hl 4 rfl) ?_
      refine lv_aload_n hx hb dX6_bars_44 rfl (lv_at hl 0 rfl) ?_
      refine va_get (D := (dC, dI)) (ci := 6) (v := .int many_) (C := RX6) (T := TX6) (N := 29) hx hb hts hiX6 hown hK hP 0 rfl rfl 5 (by decide) (hts (.fieldLink RX6 87 "OptionLatticeModel" "many" "I") (by decide +kernel)) (fun _ h9 => h9) rfl dX6_bars_45 ?_
      refine lv_icmp_ge (tgt := 86) hx hb dX6_bars_48 (by decide) (fun c_ => ?_) (fun c_ => ?_)
      · have h := (if_pos c_).symm.trans h
        exact J86 thrown_ h _ _ _ hP hD hS (lv_sub hl [0, 1, 2] rfl)
      · have h := (if_neg c_).symm.trans h
        refine lv_iload_n hx hb dX6_bars_51 rfl (lv_at hl 3 rfl) ?_
        refine lv_if_eq (tgt := 80) hx hb dX6_bars_52 (by decide) (fun c_ => ?_) (fun c_ => ?_)
        · have h := (if_pos c_).symm.trans h
          obtain ⟨v4_1, e_v4_1⟩ : ∃ z : Int32, z = (v4 + 1) := ⟨_, rfl⟩
          have h := lt_use e_v4_1 h
          refine lv_iinc (v := v4_1) (lv' := [(4, .int v4_1), (0, .ref h0), (1, .int v1), (2, .int v2), (3, .int v3)]) hx hb dX6_bars_80 hl (k := 4) rfl (by rw [e_v4_1]; rfl) (by decide) rfl (fun ls hl => ?_)
          refine lv_goto (tgt := 42) hx hb dX6_bars_83 (by decide) ?_
          exact ih42 v4_1 h _ _ _ hP hD hS (lv_sub hl [1, 2, 3, 4, 0] rfl)
        · have h := (if_neg c_).symm.trans h
          refine lv_aload_n hx hb dX6_bars_55 rfl (lv_at hl 0 rfl) ?_
          refine va_get (D := (dC, dI)) (ci := 6) (v := .ref h0_teacherOf) (C := RX6) (T := TX6) (N := 29) hx hb hts hiX6 hown hK hP 0 rfl rfl 7 (by decide) (hts (.fieldLink RX6 23 "OptionLatticeModel" "teacherOf" "[I") (by decide +kernel)) (fun _ h9 => h9) rfl dX6_bars_56 ?_
          refine lv_iload hx hb dX6_bars_59 (lv_at hl 4 rfl) ?_
          obtain ⟨g_, h⟩ := gd_some h
          refine va_iald hx hb hK hP 1 1 rfl rfl (inb_in g_) dX6_bars_61 ?_
          refine lv_iload_n hx hb dX6_bars_62 rfl (lv_at hl 1 rfl) ?_
          refine lv_icmp_ne (tgt := 80) hx hb dX6_bars_63 (by decide) (fun c_ => ?_) (fun c_ => ?_)
          · have h := (if_neg c_).symm.trans h
            obtain ⟨v4_2, e_v4_2⟩ : ∃ z : Int32, z = (v4 + 1) := ⟨_, rfl⟩
            have h := lt_use e_v4_2 h
            refine lv_iinc (v := v4_2) (lv' := [(4, .int v4_2), (0, .ref h0), (1, .int v1), (2, .int v2), (3, .int v3)]) hx hb dX6_bars_80 hl (k := 4) rfl (by rw [e_v4_2]; rfl) (by decide) rfl (fun ls hl => ?_)
            refine lv_goto (tgt := 42) hx hb dX6_bars_83 (by decide) ?_
            exact ih42 v4_2 h _ _ _ hP hD hS (lv_sub hl [1, 2, 3, 4, 0] rfl)
          · have h := (if_pos c_).symm.trans h
            refine lv_aload_n hx hb dX6_bars_66 rfl (lv_at hl 0 rfl) ?_
            refine va_get (D := (dC, dI)) (ci := 6) (v := .ref h0_columnOf) (C := RX6) (T := TX6) (N := 29) hx hb hts hiX6 hown hK hP 0 rfl rfl 9 (by decide) (hts (.fieldLink RX6 29 "OptionLatticeModel" "columnOf" "[I") (by decide +kernel)) (fun _ h9 => h9) rfl dX6_bars_67 ?_
            refine lv_iload hx hb dX6_bars_70 (lv_at hl 4 rfl) ?_
            obtain ⟨g_, h⟩ := gd_some h
            refine va_iald hx hb hK hP 2 1 rfl rfl (inb_in g_) dX6_bars_72 ?_
            refine lv_iload_n hx hb dX6_bars_73 rfl (lv_at hl 2 rfl) ?_
            refine lv_icmp_ne (tgt := 80) hx hb dX6_bars_74 (by decide) (fun c_ => ?_) (fun c_ => ?_)
            · have h := (if_neg c_).symm.trans h
              obtain ⟨v4_3, e_v4_3⟩ : ∃ z : Int32, z = (v4 + 1) := ⟨_, rfl⟩
              have h := lt_use e_v4_3 h
              refine lv_iinc (v := v4_3) (lv' := [(4, .int v4_3), (0, .ref h0), (1, .int v1), (2, .int v2), (3, .int v3)]) hx hb dX6_bars_80 hl (k := 4) rfl (by rw [e_v4_3]; rfl) (by decide) rfl (fun ls hl => ?_)
              refine lv_goto (tgt := 42) hx hb dX6_bars_83 (by decide) ?_
              exact ih42 v4_3 h _ _ _ hP hD hS (lv_sub hl [1, 2, 3, 4, 0] rfl)
            · have h := (if_pos c_).symm.trans h
              refine lv_bipush (v := (-3)) hx hb dX6_bars_77 (by decide) ?_
              have h : some ((-3), thrown_, barsOf_) = some (rr, o0, o1) := h
              have z0 := Option.some.inj h
              obtain ⟨rfl, z1⟩ := Prod.mk.inj z0
              obtain ⟨rfl, z2⟩ := Prod.mk.inj z1
              obtain rfl := z2
              exact hret _ _ _ _ hP hS rfl dX6_bars_79
  unfold m_X6_bars at h
  refine lv_aload_n hx hb dX6_bars_0 rfl (lv_at hl 0 rfl) ?_
  refine lv_iconst (v := 0) hx hb dX6_bars_1 (by decide) ?_
  refine va_put (D := (dC, dI)) (ci := 6) (v := .int 0) (ty := .int) (C := RX6) (T := TX6) (N := 29) hx hb hts hiX6 tyX6 tyX6_ok nmX6 hown hK hP hD hS 0 rfl rfl 0 (by decide) (hts (.fieldLink RX6 62 "OptionLatticeModel" "thrown" "I") (by decide +kernel)) (fun _ h9 => h9) rfl (by decide +kernel) rfl rfl (Nat.le_of_ble_eq_true rfl) dX6_bars_2 (fun H locs hP hD hS => ?_)
  have hP : va_P (dC, dI) vwCl [(h0, .inr (6, [.int 0, .int told_, .ref h0_row, .int columns_, .int rooms_, .int many_, .ref h0_subjectOf, .ref h0_teacherOf, .ref h0_seatsOf, .ref h0_columnOf, .ref h0_barsOf, .int pupils_, .ref h0_choices, .int kept_, .ref h0_tape, .int taped_, .int at_, .int to_, .int digit_, .int number_, .ref h0_was, .ref h0_readChoices, .int readMany_, .ref h0_open, .ref h0_wayOf, .int bestThen_, .ref h0_cure, .ref h0_left, .ref h0_satIn])), (h0_teacherOf, .inl (cyI, 17, .inl teacherOf_)), (h0_columnOf, .inl (cyI, 17, .inl columnOf_)), (h0_barsOf, .inl (cyI, 10, .inl barsOf_))] H := hP
  have hD : va_D A [(h0, .inr (6, [.int 0, .int told_, .ref h0_row, .int columns_, .int rooms_, .int many_, .ref h0_subjectOf, .ref h0_teacherOf, .ref h0_seatsOf, .ref h0_columnOf, .ref h0_barsOf, .int pupils_, .ref h0_choices, .int kept_, .ref h0_tape, .int taped_, .int at_, .int to_, .int digit_, .int number_, .ref h0_was, .ref h0_readChoices, .int readMany_, .ref h0_open, .ref h0_wayOf, .int bestThen_, .ref h0_cure, .ref h0_left, .ref h0_satIn])), (h0_teacherOf, .inl (cyI, 17, .inl teacherOf_)), (h0_columnOf, .inl (cyI, 17, .inl columnOf_)), (h0_barsOf, .inl (cyI, 10, .inl barsOf_))] := hD
  refine lv_iload_n hx hb dX6_bars_5 rfl (lv_at hl 1 rfl) ?_
  obtain ⟨r_4, hq, h⟩ := bd1_some h
  refine uS_i (As := [.int v1]) (rest := []) ⟨hx, hb, hml, hown, hts⟩ (c_X6_isTeacher l dC dI cyC cyI cyJ v1 r_4 hq) (va_cwS 1 hts gX6_bars_X6_isTeacher rfl rfl rfl (by decide +kernel) ⟨Nat.le_of_ble_eq_true rfl, Nat.le_of_ble_eq_true rfl⟩) hK hE hA hP hD hS [] rfl rfl rfl rfl hl.1 rfl (Nat.le_of_ble_eq_true rfl) ⟨Nat.zero_le _, Nat.zero_le _⟩ dX6_bars_6 (fun H locs hP hD hS => ?_)
  have hP : va_P (dC, dI) vwCl [(h0, .inr (6, [.int 0, .int told_, .ref h0_row, .int columns_, .int rooms_, .int many_, .ref h0_subjectOf, .ref h0_teacherOf, .ref h0_seatsOf, .ref h0_columnOf, .ref h0_barsOf, .int pupils_, .ref h0_choices, .int kept_, .ref h0_tape, .int taped_, .int at_, .int to_, .int digit_, .int number_, .ref h0_was, .ref h0_readChoices, .int readMany_, .ref h0_open, .ref h0_wayOf, .int bestThen_, .ref h0_cure, .ref h0_left, .ref h0_satIn])), (h0_teacherOf, .inl (cyI, 17, .inl teacherOf_)), (h0_columnOf, .inl (cyI, 17, .inl columnOf_)), (h0_barsOf, .inl (cyI, 10, .inl barsOf_))] H := hP
  have hD : va_D A [(h0, .inr (6, [.int 0, .int told_, .ref h0_row, .int columns_, .int rooms_, .int many_, .ref h0_subjectOf, .ref h0_teacherOf, .ref h0_seatsOf, .ref h0_columnOf, .ref h0_barsOf, .int pupils_, .ref h0_choices, .int kept_, .ref h0_tape, .int taped_, .int at_, .int to_, .int digit_, .int number_, .ref h0_was, .ref h0_readChoices, .int readMany_, .ref h0_open, .ref h0_wayOf, .int bestThen_, .ref h0_cure, .ref h0_left, .ref h0_satIn])), (h0_teacherOf, .inl (cyI, 17, .inl teacherOf_)), (h0_columnOf, .inl (cyI, 17, .inl columnOf_)), (h0_barsOf, .inl (cyI, 10, .inl barsOf_))] := hD
  refine lv_if_eq (tgt := 20) hx hb dX6_bars_9 (by decide) (fun c_ => ?_) (fun c_ => ?_)
  · have h := (if_pos c_).symm.trans h
    refine lv_iconst (v := (-1)) hx hb dX6_bars_20 (by decide) ?_
    have h : some ((-1), 0, barsOf_) = some (rr, o0, o1) := h
    have z0 := Option.some.inj h
    obtain ⟨rfl, z1⟩ := Prod.mk.inj z0
    obtain ⟨rfl, z2⟩ := Prod.mk.inj z1
    obtain rfl := z2
    exact hret _ _ _ _ hP hS rfl dX6_bars_21
  · have h := (if_neg c_).symm.trans h
    refine lv_aload_n hx hb dX6_bars_12 rfl (lv_at hl 0 rfl) ?_
    refine lv_iload_n hx hb dX6_bars_13 rfl (lv_at hl 2 rfl) ?_
    obtain ⟨r_5, hq, h⟩ := bd1_some h
    refine uV_i (b := h0) (As := [.int v2]) (rest := []) ⟨hx, hb, hml, hown, hts⟩ (c_X6_isColumn l dC dI cyC cyI cyJ h0 h0_row h0_subjectOf h0_teacherOf h0_seatsOf h0_columnOf h0_barsOf h0_choices h0_tape h0_was h0_readChoices h0_open h0_wayOf h0_cure h0_left h0_satIn 0 told_ columns_ rooms_ many_ pupils_ kept_ taped_ at_ to_ digit_ number_ readMany_ bestThen_ v2 r_5 hq) (cwV 1 hts gX6_bars_X6_isColumn rfl rfl rfl (by decide +kernel) ⟨Nat.le_of_ble_eq_true rfl, Nat.le_of_ble_eq_true rfl⟩) hK hE hA hP hD hS [0] rfl rfl rfl 6 0 rfl rfl rfl hl.1 rfl (Nat.le_of_ble_eq_true rfl) ⟨Nat.zero_le _, Nat.zero_le _⟩ dX6_bars_14 (fun H locs hP hD hS => ?_)
    have hP : va_P (dC, dI) vwCl [(h0, .inr (6, [.int 0, .int told_, .ref h0_row, .int columns_, .int rooms_, .int many_, .ref h0_subjectOf, .ref h0_teacherOf, .ref h0_seatsOf, .ref h0_columnOf, .ref h0_barsOf, .int pupils_, .ref h0_choices, .int kept_, .ref h0_tape, .int taped_, .int at_, .int to_, .int digit_, .int number_, .ref h0_was, .ref h0_readChoices, .int readMany_, .ref h0_open, .ref h0_wayOf, .int bestThen_, .ref h0_cure, .ref h0_left, .ref h0_satIn])), (h0_teacherOf, .inl (cyI, 17, .inl teacherOf_)), (h0_columnOf, .inl (cyI, 17, .inl columnOf_)), (h0_barsOf, .inl (cyI, 10, .inl barsOf_))] H := hP
    have hD : va_D A [(h0, .inr (6, [.int 0, .int told_, .ref h0_row, .int columns_, .int rooms_, .int many_, .ref h0_subjectOf, .ref h0_teacherOf, .ref h0_seatsOf, .ref h0_columnOf, .ref h0_barsOf, .int pupils_, .ref h0_choices, .int kept_, .ref h0_tape, .int taped_, .int at_, .int to_, .int digit_, .int number_, .ref h0_was, .ref h0_readChoices, .int readMany_, .ref h0_open, .ref h0_wayOf, .int bestThen_, .ref h0_cure, .ref h0_left, .ref h0_satIn])), (h0_teacherOf, .inl (cyI, 17, .inl teacherOf_)), (h0_columnOf, .inl (cyI, 17, .inl columnOf_)), (h0_barsOf, .inl (cyI, 10, .inl barsOf_))] := hD
    refine lv_if_ne (tgt := 22) hx hb dX6_bars_17 (by decide) (fun c_ => ?_) (fun c_ => ?_)
    · have h := (if_neg c_).symm.trans h
      refine lv_aload_n hx hb dX6_bars_22 rfl (lv_at hl 0 rfl) ?_
      refine va_get (D := (dC, dI)) (ci := 6) (v := .ref h0_barsOf) (C := RX6) (T := TX6) (N := 29) hx hb hts hiX6 hown hK hP 0 rfl rfl 10 (by decide) (hts (.fieldLink RX6 32 "OptionLatticeModel" "barsOf" "[I") (by decide +kernel)) (fun _ h9 => h9) rfl dX6_bars_23 ?_
      refine lv_iload_n hx hb dX6_bars_26 rfl (lv_at hl 1 rfl) ?_
      obtain ⟨g_, h⟩ := gd_some h
      refine va_iald hx hb hK hP 3 1 rfl rfl (inb_in g_) dX6_bars_27 ?_
      refine lv_iload_n hx hb dX6_bars_28 rfl (lv_at hl 2 rfl) ?_
      obtain ⟨r_6, hq, h⟩ := bd1_some h
      refine uS_i (As := [.int (barsOf_ v1.toNatClampNeg), .int v2]) (rest := []) ⟨hx, hb, hml, hown, hts⟩ (c_X6_has l dC dI cyC cyI cyJ (barsOf_ v1.toNatClampNeg) v2 r_6 hq) (va_cwS 2 hts gX6_bars_X6_has rfl rfl rfl (by decide +kernel) ⟨Nat.le_of_ble_eq_true rfl, Nat.le_of_ble_eq_true rfl⟩) hK hE hA hP hD hS [] rfl rfl rfl rfl hl.1 rfl (Nat.le_of_ble_eq_true rfl) ⟨Nat.zero_le _, Nat.zero_le _⟩ dX6_bars_29 (fun H locs hP hD hS => ?_)
      have hP : va_P (dC, dI) vwCl [(h0, .inr (6, [.int 0, .int told_, .ref h0_row, .int columns_, .int rooms_, .int many_, .ref h0_subjectOf, .ref h0_teacherOf, .ref h0_seatsOf, .ref h0_columnOf, .ref h0_barsOf, .int pupils_, .ref h0_choices, .int kept_, .ref h0_tape, .int taped_, .int at_, .int to_, .int digit_, .int number_, .ref h0_was, .ref h0_readChoices, .int readMany_, .ref h0_open, .ref h0_wayOf, .int bestThen_, .ref h0_cure, .ref h0_left, .ref h0_satIn])), (h0_teacherOf, .inl (cyI, 17, .inl teacherOf_)), (h0_columnOf, .inl (cyI, 17, .inl columnOf_)), (h0_barsOf, .inl (cyI, 10, .inl barsOf_))] H := hP
      have hD : va_D A [(h0, .inr (6, [.int 0, .int told_, .ref h0_row, .int columns_, .int rooms_, .int many_, .ref h0_subjectOf, .ref h0_teacherOf, .ref h0_seatsOf, .ref h0_columnOf, .ref h0_barsOf, .int pupils_, .ref h0_choices, .int kept_, .ref h0_tape, .int taped_, .int at_, .int to_, .int digit_, .int number_, .ref h0_was, .ref h0_readChoices, .int readMany_, .ref h0_open, .ref h0_wayOf, .int bestThen_, .ref h0_cure, .ref h0_left, .ref h0_satIn])), (h0_teacherOf, .inl (cyI, 17, .inl teacherOf_)), (h0_columnOf, .inl (cyI, 17, .inl columnOf_)), (h0_barsOf, .inl (cyI, 10, .inl barsOf_))] := hD
      refine lv_iload_n hx hb dX6_bars_32 rfl (lv_at hl 3 rfl) ?_
      refine lv_icmp_ne (tgt := 39) hx hb dX6_bars_33 (by decide) (fun c_ => ?_) (fun c_ => ?_)
      · have h := (if_neg c_).symm.trans h
        refine lv_iconst (v := 0) hx hb dX6_bars_39 (by decide) ?_
        refine lv_istore (lv' := [(4, .int 0), (0, .ref h0), (1, .int v1), (2, .int v2), (3, .int v3)]) hx hb dX6_bars_40 hl (by decide) rfl (fun ls hl => ?_)
        exact L42 0 1100 0 h _ _ _ hP hD hS (lv_sub hl [1, 2, 3, 4, 0] rfl)
      · have h := (if_pos c_).symm.trans h
        refine lv_bipush (v := (-2)) hx hb dX6_bars_36 (by decide) ?_
        have h : some ((-2), 0, barsOf_) = some (rr, o0, o1) := h
        have z0 := Option.some.inj h
        obtain ⟨rfl, z1⟩ := Prod.mk.inj z0
        obtain ⟨rfl, z2⟩ := Prod.mk.inj z1
        obtain rfl := z2
        exact hret _ _ _ _ hP hS rfl dX6_bars_38
    · have h := (if_pos c_).symm.trans h
      refine lv_iconst (v := (-1)) hx hb dX6_bars_20 (by decide) ?_
      have h : some ((-1), 0, barsOf_) = some (rr, o0, o1) := h
      have z0 := Option.some.inj h
      obtain ⟨rfl, z1⟩ := Prod.mk.inj z0
      obtain ⟨rfl, z2⟩ := Prod.mk.inj z1
      obtain rfl := z2
      exact hret _ _ _ _ hP hS rfl dX6_bars_21

def m_X6_inColumn_4 (many_ : Int32) (columnOf_ : Nat → Int32) (v1 : Int32) (rec4 : Int32 → Int32 → Option (Int32)) : Int32 → Int32 → Option (Int32) := fun v2 v3 =>
  (if many_ ≤ v3 then some v2 else gd (inb v3 17) ((if (columnOf_ v3.toNatClampNeg) = v1 then lt' (v2 ||| ((1 : Int32) <<< (v3 &&& 31))) (fun v2_3 => lt' (v3 + 1) (fun v3_4 => rec4 v2_3 v3_4)) else lt' (v2 ||| 0) (fun v2_1 => lt' (v3 + 1) (fun v3_2 => rec4 v2_1 v3_2)))))
def m_X6_inColumn (many_ : Int32) (columnOf_ : Nat → Int32) (v1 : Int32) : Option (Int32) :=
  it2 (m_X6_inColumn_4 many_ columnOf_ v1) 1100 0 0
abbrev rmX6_inColumn : Room := { frames := 0, cells := 0, slots := 0, locals := 0 }
set_option maxHeartbeats 4000000 in
set_option maxRecDepth 100000 in
theorem c_X6_inColumn (l : Launch) (dC : Nat → ClassId) (dI : Nat → Nat → Nat) (cyC cyI cyJ : ClassId) (h0 h0_row h0_subjectOf h0_teacherOf h0_seatsOf h0_columnOf h0_barsOf h0_choices h0_tape h0_was h0_readChoices h0_open h0_wayOf h0_cure h0_left h0_satIn : Nat) (thrown_ : Int32) (told_ : Int32) (columns_ : Int32) (rooms_ : Int32) (many_ : Int32) (pupils_ : Int32) (kept_ : Int32) (taped_ : Int32) (at_ : Int32) (to_ : Int32) (digit_ : Int32) (number_ : Int32) (readMany_ : Int32) (bestThen_ : Int32) (columnOf_ : Nat → Int32) (v1 : Int32) (rr : Int32) (h : m_X6_inColumn many_ columnOf_ v1 = some rr) : uMi l yX6_inColumn wsX6_inColumn rmX6_inColumn (dC, dI) [(cyC, .char), (cyI, .int), (cyJ, .long)] [.ref h0, .int v1] [(h0, .inr (6, [.int thrown_, .int told_, .ref h0_row, .int columns_, .int rooms_, .int many_, .ref h0_subjectOf, .ref h0_teacherOf, .ref h0_seatsOf, .ref h0_columnOf, .ref h0_barsOf, .int pupils_, .ref h0_choices, .int kept_, .ref h0_tape, .int taped_, .int at_, .int to_, .int digit_, .int number_, .ref h0_was, .ref h0_readChoices, .int readMany_, .ref h0_open, .ref h0_wayOf, .int bestThen_, .ref h0_cure, .ref h0_left, .ref h0_satIn])), (h0_columnOf, .inl (cyI, 17, .inl columnOf_))] [(h0, .inr (6, [.int thrown_, .int told_, .ref h0_row, .int columns_, .int rooms_, .int many_, .ref h0_subjectOf, .ref h0_teacherOf, .ref h0_seatsOf, .ref h0_columnOf, .ref h0_barsOf, .int pupils_, .ref h0_choices, .int kept_, .ref h0_tape, .int taped_, .int at_, .int to_, .int digit_, .int number_, .ref h0_was, .ref h0_readChoices, .int readMany_, .ref h0_open, .ref h0_wayOf, .int bestThen_, .ref h0_cure, .ref h0_left, .ref h0_satIn])), (h0_columnOf, .inl (cyI, 17, .inl columnOf_))] rr := by
  refine uMi.of (cc := cX6_inColumn) (maxL := 4) (by decide) rfl (Nat.le_of_ble_eq_true rfl) (fun p e s m args below meth c A ls Q hx hb hml hown hts hA hP hK hD hE hS hl hret => ?_)
  have hown : s.vm.findClass RX6 = some m.cls := hown
  have hl : lv_has ls 4 [(0, .ref h0), (1, .int v1)] := hl
  have hiX6 : ∀ w ∈ u_ws RX6 TX6 29, w ∈ wsX6_inColumn := fun _ h9 => List.mem_cons_of_mem _ (List.mem_append_right _ h9)
  have L4 : ∀ (n4 : Nat), ∀ (v2 : Int32), ∀ (v3 : Int32), it2 (m_X6_inColumn_4 many_ columnOf_ v1) n4 v2 v3 = some rr → ∀ (H : Heap) (locs : List Loc) (ls : Array Slot), va_P (dC, dI) vwCl [(h0, .inr (6, [.int thrown_, .int told_, .ref h0_row, .int columns_, .int rooms_, .int many_, .ref h0_subjectOf, .ref h0_teacherOf, .ref h0_seatsOf, .ref h0_columnOf, .ref h0_barsOf, .int pupils_, .ref h0_choices, .int kept_, .ref h0_tape, .int taped_, .int at_, .int to_, .int digit_, .int number_, .ref h0_was, .ref h0_readChoices, .int readMany_, .ref h0_open, .ref h0_wayOf, .int bestThen_, .ref h0_cure, .ref h0_left, .ref h0_satIn])), (h0_columnOf, .inl (cyI, 17, .inl columnOf_))] H → va_D A [(h0, .inr (6, [.int thrown_, .int told_, .ref h0_row, .int columns_, .int rooms_, .int many_, .ref h0_subjectOf, .ref h0_teacherOf, .ref h0_seatsOf, .ref h0_columnOf, .ref h0_barsOf, .int pupils_, .ref h0_choices, .int kept_, .ref h0_tape, .int taped_, .int at_, .int to_, .int digit_, .int number_, .ref h0_was, .ref h0_readChoices, .int readMany_, .ref h0_open, .ref h0_wayOf, .int bestThen_, .ref h0_cure, .ref h0_left, .ref h0_satIn])), (h0_columnOf, .inl (cyI, 17, .inl columnOf_))] → va_S A s.heap H locs → lv_has ls 4 [(0, .ref h0), (1, .int v1), (2, .int v2), (3, .int v3)] → W p l e rmX6_inColumn s m args below meth c H locs 0 0 Q (F0 m 4 ls []) := by
    intro n4
    induction n4 with
    | zero => intro v2 v3 h; exact absurd h (fun z => it2_z z)
    | succ n4 ih4 =>
      intro v2 v3 h H locs ls hP hD hS hl
      have h : m_X6_inColumn_4 many_ columnOf_ v1 (it2 (m_X6_inColumn_4 many_ columnOf_ v1) n4) v2 v3 = some rr := h
      unfold m_X6_inColumn_4 at h
      refine lv_iload_n hx hb dX6_inColumn_4 rfl (lv_at hl 3 rfl) ?_
      refine lv_aload_n hx hb dX6_inColumn_5 rfl (lv_at hl 0 rfl) ?_
      refine va_get (D := (dC, dI)) (ci := 6) (v := .int many_) (C := RX6) (T := TX6) (N := 29) hx hb hts hiX6 hown hK hP 0 rfl rfl 5 (by decide) (hts (.fieldLink RX6 87 "OptionLatticeModel" "many" "I") (by decide +kernel)) (fun _ h9 => h9) rfl dX6_inColumn_6 ?_
      refine lv_icmp_ge (tgt := 38) hx hb dX6_inColumn_9 (by decide) (fun c_ => ?_) (fun c_ => ?_)
      · have h := (if_pos c_).symm.trans h
        refine lv_iload_n hx hb dX6_inColumn_38 rfl (lv_at hl 2 rfl) ?_
        have h : some v2 = some rr := h
        have z0 := Option.some.inj h
        obtain rfl := z0
        exact hret _ _ _ _ hP hS rfl dX6_inColumn_39
      · have h := (if_neg c_).symm.trans h
        refine lv_iload_n hx hb dX6_inColumn_12 rfl (lv_at hl 2 rfl) ?_
        refine lv_aload_n hx hb dX6_inColumn_13 rfl (lv_at hl 0 rfl) ?_
        refine va_get (D := (dC, dI)) (ci := 6) (v := .ref h0_columnOf) (C := RX6) (T := TX6) (N := 29) hx hb hts hiX6 hown hK hP 0 rfl rfl 9 (by decide) (hts (.fieldLink RX6 29 "OptionLatticeModel" "columnOf" "[I") (by decide +kernel)) (fun _ h9 => h9) rfl dX6_inColumn_14 ?_
        refine lv_iload_n hx hb dX6_inColumn_17 rfl (lv_at hl 3 rfl) ?_
        obtain ⟨g_, h⟩ := gd_some h
        refine va_iald hx hb hK hP 1 1 rfl rfl (inb_in g_) dX6_inColumn_18 ?_
        refine lv_iload_n hx hb dX6_inColumn_19 rfl (lv_at hl 1 rfl) ?_
        refine lv_icmp_ne (tgt := 29) hx hb dX6_inColumn_20 (by decide) (fun c_ => ?_) (fun c_ => ?_)
        · have h := (if_neg c_).symm.trans h
          refine lv_iconst (v := 0) hx hb dX6_inColumn_29 (by decide) ?_
          refine lv_ior hx hb dX6_inColumn_30 ?_
          refine lv_topi (fun v2_1 e_v2_1 => ?_)
          have h := lt_use e_v2_1 h
          refine lv_istore_n (lv' := [(2, .int v2_1), (0, .ref h0), (1, .int v1), (3, .int v3)]) hx hb dX6_inColumn_31 rfl hl (by decide) rfl (fun ls hl => ?_)
          obtain ⟨v3_2, e_v3_2⟩ : ∃ z : Int32, z = (v3 + 1) := ⟨_, rfl⟩
          have h := lt_use e_v3_2 h
          refine lv_iinc (v := v3_2) (lv' := [(3, .int v3_2), (2, .int v2_1), (0, .ref h0), (1, .int v1)]) hx hb dX6_inColumn_32 hl (k := 3) rfl (by rw [e_v3_2]; rfl) (by decide) rfl (fun ls hl => ?_)
          refine lv_goto (tgt := 4) hx hb dX6_inColumn_35 (by decide) ?_
          exact ih4 v2_1 v3_2 h _ _ _ hP hD hS (lv_sub hl [2, 3, 1, 0] rfl)
        · have h := (if_pos c_).symm.trans h
          refine lv_iconst (v := 1) hx hb dX6_inColumn_23 (by decide) ?_
          refine lv_iload_n hx hb dX6_inColumn_24 rfl (lv_at hl 3 rfl) ?_
          refine lv_ishl hx hb dX6_inColumn_25 ?_
          refine lv_goto (tgt := 30) hx hb dX6_inColumn_26 (by decide) ?_
          refine lv_ior hx hb dX6_inColumn_30 ?_
          refine lv_topi (fun v2_3 e_v2_3 => ?_)
          have h := lt_use e_v2_3 h
          refine lv_istore_n (lv' := [(2, .int v2_3), (0, .ref h0), (1, .int v1), (3, .int v3)]) hx hb dX6_inColumn_31 rfl hl (by decide) rfl (fun ls hl => ?_)
          obtain ⟨v3_4, e_v3_4⟩ : ∃ z : Int32, z = (v3 + 1) := ⟨_, rfl⟩
          have h := lt_use e_v3_4 h
          refine lv_iinc (v := v3_4) (lv' := [(3, .int v3_4), (2, .int v2_3), (0, .ref h0), (1, .int v1)]) hx hb dX6_inColumn_32 hl (k := 3) rfl (by rw [e_v3_4]; rfl) (by decide) rfl (fun ls hl => ?_)
          refine lv_goto (tgt := 4) hx hb dX6_inColumn_35 (by decide) ?_
          exact ih4 v2_3 v3_4 h _ _ _ hP hD hS (lv_sub hl [2, 3, 1, 0] rfl)
  unfold m_X6_inColumn at h
  refine lv_iconst (v := 0) hx hb dX6_inColumn_0 (by decide) ?_
  refine lv_istore_n (lv' := [(2, .int 0), (0, .ref h0), (1, .int v1)]) hx hb dX6_inColumn_1 rfl hl (by decide) rfl (fun ls hl => ?_)
  refine lv_iconst (v := 0) hx hb dX6_inColumn_2 (by decide) ?_
  refine lv_istore_n (lv' := [(3, .int 0), (2, .int 0), (0, .ref h0), (1, .int v1)]) hx hb dX6_inColumn_3 rfl hl (by decide) rfl (fun ls hl => ?_)
  exact L4  1100 0 0 h _ _ _ hP hD hS (lv_sub hl [2, 3, 1, 0] rfl)
