def m_X6_count (thrown_ : Int32) (told_ : Int32) (columns_ : Int32) (rooms_ : Int32) (many_ : Int32) (pupils_ : Int32) (kept_ : Int32) (taped_ : Int32) (teacherOf_ : Nat → Int32) (columnOf_ : Nat → Int32) (v1 : Int32) : Option (Int32 × Int32) :=
  (if v1 = 0 then some (columns_, 0) else (if v1 = 1 then some (rooms_, 0) else (if v1 = 2 then some (many_, 0) else (if v1 = 3 then bd1 (m_X6_outs many_ columnOf_) (fun r_1 => some (r_1, 0)) else (if v1 = 4 then some (pupils_, 0) else (if v1 = 5 then some (kept_, 0) else (if v1 = 6 then bd1 (m_X6_fulls columns_ rooms_ many_ columnOf_) (fun r_2 => some (r_2, 0)) else (if v1 = 7 then some (told_, 0) else (if v1 = 8 then some (taped_, 0) else (if v1 = 9 then bd1 (m_X6_busyTeachers many_ teacherOf_) (fun r_3 => some (r_3, 0)) else some ((-1), 0)))))))))))
abbrev rmX6_count : Room := { frames := 3, cells := 0, slots := 0, locals := 62 }
set_option maxHeartbeats 4000000 in
set_option maxRecDepth 100000 in
theorem c_X6_count (l : Launch) (dC : Nat → ClassId) (dI : Nat → Nat → Nat) (cyC cyI cyJ : ClassId) (h0 h0_row h0_subjectOf h0_teacherOf h0_seatsOf h0_columnOf h0_barsOf h0_choices h0_tape h0_was h0_readChoices h0_open h0_wayOf h0_cure h0_left h0_satIn : Nat) (thrown_ : Int32) (told_ : Int32) (columns_ : Int32) (rooms_ : Int32) (many_ : Int32) (pupils_ : Int32) (kept_ : Int32) (taped_ : Int32) (at_ : Int32) (to_ : Int32) (digit_ : Int32) (number_ : Int32) (readMany_ : Int32) (bestThen_ : Int32) (teacherOf_ : Nat → Int32) (columnOf_ : Nat → Int32) (v1 : Int32) (rr : Int32) (o0 : Int32) (h : m_X6_count thrown_ told_ columns_ rooms_ many_ pupils_ kept_ taped_ teacherOf_ columnOf_ v1 = some (rr, o0)) : uMi l yX6_count wsX6_count rmX6_count (dC, dI) [(cyC, .char), (cyI, .int), (cyJ, .long)] [.ref h0, .int v1] [(h0, .inr (6, [.int thrown_, .int told_, .ref h0_row, .int columns_, .int rooms_, .int many_, .ref h0_subjectOf, .ref h0_teacherOf, .ref h0_seatsOf, .ref h0_columnOf, .ref h0_barsOf, .int pupils_, .ref h0_choices, .int kept_, .ref h0_tape, .int taped_, .int at_, .int to_, .int digit_, .int number_, .ref h0_was, .ref h0_readChoices, .int readMany_, .ref h0_open, .ref h0_wayOf, .int bestThen_, .ref h0_cure, .ref h0_left, .ref h0_satIn])), (h0_teacherOf, .inl (cyI, 17, .inl teacherOf_)), (h0_columnOf, .inl (cyI, 17, .inl columnOf_))] [(h0, .inr (6, [.int o0, .int told_, .ref h0_row, .int columns_, .int rooms_, .int many_, .ref h0_subjectOf, .ref h0_teacherOf, .ref h0_seatsOf, .ref h0_columnOf, .ref h0_barsOf, .int pupils_, .ref h0_choices, .int kept_, .ref h0_tape, .int taped_, .int at_, .int to_, .int digit_, .int number_, .ref h0_was, .ref h0_readChoices, .int readMany_, .ref h0_open, .ref h0_wayOf, .int bestThen_, .ref h0_cure, .ref h0_left, .ref h0_satIn])), (h0_teacherOf, .inl (cyI, 17, .inl teacherOf_)), (h0_columnOf, .inl (cyI, 17, .inl columnOf_))] rr := by
  refine uMi.of (cc := cX6_count) (maxL := 2) (by decide) rfl (Nat.le_of_ble_eq_true rfl) (fun p e s m args below meth c A ls Q hx hb hml hown hts hA hP hK hD hE hS hl hret => ?_)
  have hown : s.vm.findClass RX6 = some m.cls := hown
  have hl : lv_has ls 2 [(0, .ref h0), (1, .int v1)] := hl
  have hiX6 : ∀ w ∈ u_ws RX6 TX6 29, w ∈ wsX6_count := fun _ h9 => List.mem_cons_of_mem _ (List.mem_append_right _ h9)
  unfold m_X6_count at h
  refine lv_aload_n hx hb dX6_count_0 rfl (lv_at hl 0 rfl) ?_
  refine lv_iconst (v := 0) hx hb dX6_count_1 (by decide) ?_
  refine va_put (D := (dC, dI)) (ci := 6) (v := .int 0) (ty := .int) (C := RX6) (T := TX6) (N := 29) hx hb hts hiX6 tyX6 tyX6_ok nmX6 hown hK hP hD hS 0 rfl rfl 0 (by decide) (hts (.fieldLink RX6 62 "OptionLatticeModel" "thrown" "I") (by decide +kernel)) (fun _ h9 => h9) rfl (by decide +kernel) rfl rfl (Nat.le_of_ble_eq_true rfl) dX6_count_2 (fun H locs hP hD hS => ?_)
  have hP : va_P (dC, dI) vwCl [(h0, .inr (6, [.int 0, .int told_, .ref h0_row, .int columns_, .int rooms_, .int many_, .ref h0_subjectOf, .ref h0_teacherOf, .ref h0_seatsOf, .ref h0_columnOf, .ref h0_barsOf, .int pupils_, .ref h0_choices, .int kept_, .ref h0_tape, .int taped_, .int at_, .int to_, .int digit_, .int number_, .ref h0_was, .ref h0_readChoices, .int readMany_, .ref h0_open, .ref h0_wayOf, .int bestThen_, .ref h0_cure, .ref h0_left, .ref h0_satIn])), (h0_teacherOf, .inl (cyI, 17, .inl teacherOf_)), (h0_columnOf, .inl (cyI, 17, .inl columnOf_))] H := hP
  have hD : va_D A [(h0, .inr (6, [.int 0, .int told_, .ref h0_row, .int columns_, .int rooms_, .int many_, .ref h0_subjectOf, .ref h0_teacherOf, .ref h0_seatsOf, .ref h0_columnOf, .ref h0_barsOf, .int pupils_, .ref h0_choices, .int kept_, .ref h0_tape, .int taped_, .int at_, .int to_, .int digit_, .int number_, .ref h0_was, .ref h0_readChoices, .int readMany_, .ref h0_open, .ref h0_wayOf, .int bestThen_, .ref h0_cure, .ref h0_left, .ref h0_satIn])), (h0_teacherOf, .inl (cyI, 17, .inl teacherOf_)), (h0_columnOf, .inl (cyI, 17, .inl columnOf_))] := hD
  refine lv_iload_n hx hb dX6_count_5 rfl (lv_at hl 1 rfl) ?_
  by_cases c_0 : v1 = 0
  · have h := (if_pos c_0).symm.trans h
    refine lv_tableIn (tgt := 60) hx hb dX6_count_6 (by rw [c_0]; decide) (by rw [c_0]; decide) (by rw [c_0]; rfl) (by decide) ?_
    refine lv_aload_n hx hb dX6_count_60 rfl (lv_at hl 0 rfl) ?_
    refine va_get (D := (dC, dI)) (ci := 6) (v := .int columns_) (C := RX6) (T := TX6) (N := 29) hx hb hts hiX6 hown hK hP 0 rfl rfl 3 (by decide) (hts (.fieldLink RX6 13 "OptionLatticeModel" "columns" "I") (by decide +kernel)) (fun _ h9 => h9) rfl dX6_count_61 ?_
    have h : some (columns_, 0) = some (rr, o0) := h
    have z0 := Option.some.inj h
    obtain ⟨rfl, z1⟩ := Prod.mk.inj z0
    obtain rfl := z1
    exact hret _ _ _ _ hP hS rfl dX6_count_64
  have h := (if_neg c_0).symm.trans h
  by_cases c_1 : v1 = 1
  · have h := (if_pos c_1).symm.trans h
    refine lv_tableIn (tgt := 65) hx hb dX6_count_6 (by rw [c_1]; decide) (by rw [c_1]; decide) (by rw [c_1]; rfl) (by decide) ?_
    refine lv_aload_n hx hb dX6_count_65 rfl (lv_at hl 0 rfl) ?_
    refine va_get (D := (dC, dI)) (ci := 6) (v := .int rooms_) (C := RX6) (T := TX6) (N := 29) hx hb hts hiX6 hown hK hP 0 rfl rfl 4 (by decide) (hts (.fieldLink RX6 17 "OptionLatticeModel" "rooms" "I") (by decide +kernel)) (fun _ h9 => h9) rfl dX6_count_66 ?_
    have h : some (rooms_, 0) = some (rr, o0) := h
    have z0 := Option.some.inj h
    obtain ⟨rfl, z1⟩ := Prod.mk.inj z0
    obtain rfl := z1
    exact hret _ _ _ _ hP hS rfl dX6_count_69
  have h := (if_neg c_1).symm.trans h
  by_cases c_2 : v1 = 2
  · have h := (if_pos c_2).symm.trans h
    refine lv_tableIn (tgt := 70) hx hb dX6_count_6 (by rw [c_2]; decide) (by rw [c_2]; decide) (by rw [c_2]; rfl) (by decide) ?_
    refine lv_aload_n hx hb dX6_count_70 rfl (lv_at hl 0 rfl) ?_
    refine va_get (D := (dC, dI)) (ci := 6) (v := .int many_) (C := RX6) (T := TX6) (N := 29) hx hb hts hiX6 hown hK hP 0 rfl rfl 5 (by decide) (hts (.fieldLink RX6 87 "OptionLatticeModel" "many" "I") (by decide +kernel)) (fun _ h9 => h9) rfl dX6_count_71 ?_
    have h : some (many_, 0) = some (rr, o0) := h
    have z0 := Option.some.inj h
    obtain ⟨rfl, z1⟩ := Prod.mk.inj z0
    obtain rfl := z1
    exact hret _ _ _ _ hP hS rfl dX6_count_74
  have h := (if_neg c_2).symm.trans h
  by_cases c_3 : v1 = 3
  · have h := (if_pos c_3).symm.trans h
    refine lv_tableIn (tgt := 75) hx hb dX6_count_6 (by rw [c_3]; decide) (by rw [c_3]; decide) (by rw [c_3]; rfl) (by decide) ?_
    refine lv_aload_n hx hb dX6_count_75 rfl (lv_at hl 0 rfl) ?_
    obtain ⟨r_1, hq, h⟩ := bd1_some h
    refine uV_i (b := h0) (As := []) (rest := []) ⟨hx, hb, hml, hown, hts⟩ (c_X6_outs l dC dI cyC cyI cyJ h0 h0_row h0_subjectOf h0_teacherOf h0_seatsOf h0_columnOf h0_barsOf h0_choices h0_tape h0_was h0_readChoices h0_open h0_wayOf h0_cure h0_left h0_satIn 0 told_ columns_ rooms_ many_ pupils_ kept_ taped_ at_ to_ digit_ number_ readMany_ bestThen_ columnOf_ r_1 hq) (cwV 0 hts gX6_count_X6_outs rfl rfl rfl (by decide +kernel) ⟨Nat.le_of_ble_eq_true rfl, Nat.le_of_ble_eq_true rfl⟩) hK hE hA hP hD hS [0, 2] rfl rfl rfl 6 0 rfl rfl rfl hl.1 rfl (Nat.le_of_ble_eq_true rfl) ⟨Nat.zero_le _, Nat.zero_le _⟩ dX6_count_76 (fun H locs hP hD hS => ?_)
    have hP : va_P (dC, dI) vwCl [(h0, .inr (6, [.int 0, .int told_, .ref h0_row, .int columns_, .int rooms_, .int many_, .ref h0_subjectOf, .ref h0_teacherOf, .ref h0_seatsOf, .ref h0_columnOf, .ref h0_barsOf, .int pupils_, .ref h0_choices, .int kept_, .ref h0_tape, .int taped_, .int at_, .int to_, .int digit_, .int number_, .ref h0_was, .ref h0_readChoices, .int readMany_, .ref h0_open, .ref h0_wayOf, .int bestThen_, .ref h0_cure, .ref h0_left, .ref h0_satIn])), (h0_teacherOf, .inl (cyI, 17, .inl teacherOf_)), (h0_columnOf, .inl (cyI, 17, .inl columnOf_))] H := hP
    have hD : va_D A [(h0, .inr (6, [.int 0, .int told_, .ref h0_row, .int columns_, .int rooms_, .int many_, .ref h0_subjectOf, .ref h0_teacherOf, .ref h0_seatsOf, .ref h0_columnOf, .ref h0_barsOf, .int pupils_, .ref h0_choices, .int kept_, .ref h0_tape, .int taped_, .int at_, .int to_, .int digit_, .int number_, .ref h0_was, .ref h0_readChoices, .int readMany_, .ref h0_open, .ref h0_wayOf, .int bestThen_, .ref h0_cure, .ref h0_left, .ref h0_satIn])), (h0_teacherOf, .inl (cyI, 17, .inl teacherOf_)), (h0_columnOf, .inl (cyI, 17, .inl columnOf_))] := hD
    have h : some (r_1, 0) = some (rr, o0) := h
    have z0 := Option.some.inj h
    obtain ⟨rfl, z1⟩ := Prod.mk.inj z0
    obtain rfl := z1
    exact hret _ _ _ _ hP hS rfl dX6_count_79
  have h := (if_neg c_3).symm.trans h
  by_cases c_4 : v1 = 4
  · have h := (if_pos c_4).symm.trans h
    refine lv_tableIn (tgt := 80) hx hb dX6_count_6 (by rw [c_4]; decide) (by rw [c_4]; decide) (by rw [c_4]; rfl) (by decide) ?_
    refine lv_aload_n hx hb dX6_count_80 rfl (lv_at hl 0 rfl) ?_
    refine va_get (D := (dC, dI)) (ci := 6) (v := .int pupils_) (C := RX6) (T := TX6) (N := 29) hx hb hts hiX6 hown hK hP 0 rfl rfl 11 (by decide) (hts (.fieldLink RX6 90 "OptionLatticeModel" "pupils" "I") (by decide +kernel)) (fun _ h9 => h9) rfl dX6_count_81 ?_
    have h : some (pupils_, 0) = some (rr, o0) := h
    have z0 := Option.some.inj h
    obtain ⟨rfl, z1⟩ := Prod.mk.inj z0
    obtain rfl := z1
    exact hret _ _ _ _ hP hS rfl dX6_count_84
  have h := (if_neg c_4).symm.trans h
  by_cases c_5 : v1 = 5
  · have h := (if_pos c_5).symm.trans h
    refine lv_tableIn (tgt := 85) hx hb dX6_count_6 (by rw [c_5]; decide) (by rw [c_5]; decide) (by rw [c_5]; rfl) (by decide) ?_
    refine lv_aload_n hx hb dX6_count_85 rfl (lv_at hl 0 rfl) ?_
    refine va_get (D := (dC, dI)) (ci := 6) (v := .int kept_) (C := RX6) (T := TX6) (N := 29) hx hb hts hiX6 hown hK hP 0 rfl rfl 13 (by decide) (hts (.fieldLink RX6 158 "OptionLatticeModel" "kept" "I") (by decide +kernel)) (fun _ h9 => h9) rfl dX6_count_86 ?_
    have h : some (kept_, 0) = some (rr, o0) := h
    have z0 := Option.some.inj h
    obtain ⟨rfl, z1⟩ := Prod.mk.inj z0
    obtain rfl := z1
    exact hret _ _ _ _ hP hS rfl dX6_count_89
  have h := (if_neg c_5).symm.trans h
  by_cases c_6 : v1 = 6
  · have h := (if_pos c_6).symm.trans h
    refine lv_tableIn (tgt := 90) hx hb dX6_count_6 (by rw [c_6]; decide) (by rw [c_6]; decide) (by rw [c_6]; rfl) (by decide) ?_
    refine lv_aload_n hx hb dX6_count_90 rfl (lv_at hl 0 rfl) ?_
    obtain ⟨r_2, hq, h⟩ := bd1_some h
    refine uV_i (b := h0) (As := []) (rest := []) ⟨hx, hb, hml, hown, hts⟩ (c_X6_fulls l dC dI cyC cyI cyJ h0 h0_row h0_subjectOf h0_teacherOf h0_seatsOf h0_columnOf h0_barsOf h0_choices h0_tape h0_was h0_readChoices h0_open h0_wayOf h0_cure h0_left h0_satIn 0 told_ columns_ rooms_ many_ pupils_ kept_ taped_ at_ to_ digit_ number_ readMany_ bestThen_ columnOf_ r_2 hq) (cwV 0 hts gX6_count_X6_fulls rfl rfl rfl (by decide +kernel) ⟨Nat.le_of_ble_eq_true rfl, Nat.le_of_ble_eq_true rfl⟩) hK hE hA hP hD hS [0, 2] rfl rfl rfl 6 0 rfl rfl rfl hl.1 rfl (Nat.le_of_ble_eq_true rfl) ⟨Nat.zero_le _, Nat.zero_le _⟩ dX6_count_91 (fun H locs hP hD hS => ?_)
    have hP : va_P (dC, dI) vwCl [(h0, .inr (6, [.int 0, .int told_, .ref h0_row, .int columns_, .int rooms_, .int many_, .ref h0_subjectOf, .ref h0_teacherOf, .ref h0_seatsOf, .ref h0_columnOf, .ref h0_barsOf, .int pupils_, .ref h0_choices, .int kept_, .ref h0_tape, .int taped_, .int at_, .int to_, .int digit_, .int number_, .ref h0_was, .ref h0_readChoices, .int readMany_, .ref h0_open, .ref h0_wayOf, .int bestThen_, .ref h0_cure, .ref h0_left, .ref h0_satIn])), (h0_teacherOf, .inl (cyI, 17, .inl teacherOf_)), (h0_columnOf, .inl (cyI, 17, .inl columnOf_))] H := hP
    have hD : va_D A [(h0, .inr (6, [.int 0, .int told_, .ref h0_row, .int columns_, .int rooms_, .int many_, .ref h0_subjectOf, .ref h0_teacherOf, .ref h0_seatsOf, .ref h0_columnOf, .ref h0_barsOf, .int pupils_, .ref h0_choices, .int kept_, .ref h0_tape, .int taped_, .int at_, .int to_, .int digit_, .int number_, .ref h0_was, .ref h0_readChoices, .int readMany_, .ref h0_open, .ref h0_wayOf, .int bestThen_, .ref h0_cure, .ref h0_left, .ref h0_satIn])), (h0_teacherOf, .inl (cyI, 17, .inl teacherOf_)), (h0_columnOf, .inl (cyI, 17, .inl columnOf_))] := hD
    have h : some (r_2, 0) = some (rr, o0) := h
    have z0 := Option.some.inj h
    obtain ⟨rfl, z1⟩ := Prod.mk.inj z0
    obtain rfl := z1
    exact hret _ _ _ _ hP hS rfl dX6_count_94
  have h := (if_neg c_6).symm.trans h
  by_cases c_7 : v1 = 7
  · have h := (if_pos c_7).symm.trans h
    refine lv_tableIn (tgt := 95) hx hb dX6_count_6 (by rw [c_7]; decide) (by rw [c_7]; decide) (by rw [c_7]; rfl) (by decide) ?_
    refine lv_aload_n hx hb dX6_count_95 rfl (lv_at hl 0 rfl) ?_
    refine va_get (D := (dC, dI)) (ci := 6) (v := .int told_) (C := RX6) (T := TX6) (N := 29) hx hb hts hiX6 hown hK hP 0 rfl rfl 1 (by decide) (hts (.fieldLink RX6 71 "OptionLatticeModel" "told" "I") (by decide +kernel)) (fun _ h9 => h9) rfl dX6_count_96 ?_
    have h : some (told_, 0) = some (rr, o0) := h
    have z0 := Option.some.inj h
    obtain ⟨rfl, z1⟩ := Prod.mk.inj z0
    obtain rfl := z1
    exact hret _ _ _ _ hP hS rfl dX6_count_99
  have h := (if_neg c_7).symm.trans h
  by_cases c_8 : v1 = 8
  · have h := (if_pos c_8).symm.trans h
    refine lv_tableIn (tgt := 100) hx hb dX6_count_6 (by rw [c_8]; decide) (by rw [c_8]; decide) (by rw [c_8]; rfl) (by decide) ?_
    refine lv_aload_n hx hb dX6_count_100 rfl (lv_at hl 0 rfl) ?_
    refine va_get (D := (dC, dI)) (ci := 6) (v := .int taped_) (C := RX6) (T := TX6) (N := 29) hx hb hts hiX6 hown hK hP 0 rfl rfl 15 (by decide) (hts (.fieldLink RX6 101 "OptionLatticeModel" "taped" "I") (by decide +kernel)) (fun _ h9 => h9) rfl dX6_count_101 ?_
    have h : some (taped_, 0) = some (rr, o0) := h
    have z0 := Option.some.inj h
    obtain ⟨rfl, z1⟩ := Prod.mk.inj z0
    obtain rfl := z1
    exact hret _ _ _ _ hP hS rfl dX6_count_104
  have h := (if_neg c_8).symm.trans h
  by_cases c_9 : v1 = 9
  · have h := (if_pos c_9).symm.trans h
    refine lv_tableIn (tgt := 105) hx hb dX6_count_6 (by rw [c_9]; decide) (by rw [c_9]; decide) (by rw [c_9]; rfl) (by decide) ?_
    refine lv_aload_n hx hb dX6_count_105 rfl (lv_at hl 0 rfl) ?_
    obtain ⟨r_3, hq, h⟩ := bd1_some h
    refine uV_i (b := h0) (As := []) (rest := []) ⟨hx, hb, hml, hown, hts⟩ (c_X6_busyTeachers l dC dI cyC cyI cyJ h0 h0_row h0_subjectOf h0_teacherOf h0_seatsOf h0_columnOf h0_barsOf h0_choices h0_tape h0_was h0_readChoices h0_open h0_wayOf h0_cure h0_left h0_satIn 0 told_ columns_ rooms_ many_ pupils_ kept_ taped_ at_ to_ digit_ number_ readMany_ bestThen_ teacherOf_ r_3 hq) (cwV 0 hts gX6_count_X6_busyTeachers rfl rfl rfl (by decide +kernel) ⟨Nat.le_of_ble_eq_true rfl, Nat.le_of_ble_eq_true rfl⟩) hK hE hA hP hD hS [0, 1] rfl rfl rfl 6 0 rfl rfl rfl hl.1 rfl (Nat.le_of_ble_eq_true rfl) ⟨Nat.zero_le _, Nat.zero_le _⟩ dX6_count_106 (fun H locs hP hD hS => ?_)
    have hP : va_P (dC, dI) vwCl [(h0, .inr (6, [.int 0, .int told_, .ref h0_row, .int columns_, .int rooms_, .int many_, .ref h0_subjectOf, .ref h0_teacherOf, .ref h0_seatsOf, .ref h0_columnOf, .ref h0_barsOf, .int pupils_, .ref h0_choices, .int kept_, .ref h0_tape, .int taped_, .int at_, .int to_, .int digit_, .int number_, .ref h0_was, .ref h0_readChoices, .int readMany_, .ref h0_open, .ref h0_wayOf, .int bestThen_, .ref h0_cure, .ref h0_left, .ref h0_satIn])), (h0_teacherOf, .inl (cyI, 17, .inl teacherOf_)), (h0_columnOf, .inl (cyI, 17, .inl columnOf_))] H := hP
    have hD : va_D A [(h0, .inr (6, [.int 0, .int told_, .ref h0_row, .int columns_, .int rooms_, .int many_, .ref h0_subjectOf, .ref h0_teacherOf, .ref h0_seatsOf, .ref h0_columnOf, .ref h0_barsOf, .int pupils_, .ref h0_choices, .int kept_, .ref h0_tape, .int taped_, .int at_, .int to_, .int digit_, .int number_, .ref h0_was, .ref h0_readChoices, .int readMany_, .ref h0_open, .ref h0_wayOf, .int bestThen_, .ref h0_cure, .ref h0_left, .ref h0_satIn])), (h0_teacherOf, .inl (cyI, 17, .inl teacherOf_)), (h0_columnOf, .inl (cyI, 17, .inl columnOf_))] := hD
    have h : some (r_3, 0) = some (rr, o0) := h
    have z0 := Option.some.inj h
    obtain ⟨rfl, z1⟩ := Prod.mk.inj z0
    obtain rfl := z1
    exact hret _ _ _ _ hP hS rfl dX6_count_109
  have h := (if_neg c_9).symm.trans h
  refine lv_tableOut (tgt := 110) hx hb dX6_count_6 (tsw_out (hi := 9) (fun k hk => by match k, hk with
    | 0, _ => exact c_0
    | 1, _ => exact c_1
    | 2, _ => exact c_2
    | 3, _ => exact c_3
    | 4, _ => exact c_4
    | 5, _ => exact c_5
    | 6, _ => exact c_6
    | 7, _ => exact c_7
    | 8, _ => exact c_8
    | 9, _ => exact c_9
    | k + 10, hk => omega)) (by decide) ?_
  refine lv_iconst (v := (-1)) hx hb dX6_count_110 (by decide) ?_
  have h : some ((-1), 0) = some (rr, o0) := h
  have z0 := Option.some.inj h
  obtain ⟨rfl, z1⟩ := Prod.mk.inj z0
  obtain rfl := z1
  exact hret _ _ _ _ hP hS rfl dX6_count_111

def m_X6_row_22 (row_ : Nat → Int32) (v1 : Int32) (t1 : Int32) : Option (Int64 × Int32) :=
  bd1 (m_X6_flag t1) (fun r_1 => (if r_1 = 1 then some (0, r_1) else gd (inb v1 32) (some ((Int32.toInt64 (row_ v1.toNatClampNeg)), r_1))))
def m_X6_row (thrown_ : Int32) (told_ : Int32) (row_ : Nat → Int32) (v1 : Int32) : Option (Int64 × Int32) :=
  bd1 (m_X6_in (Int32.toInt64 v1) 0 (Int32.toInt64 (told_ - 1))) (fun r_2 => (if r_2 = 0 then m_X6_row_22 row_ v1 1 else m_X6_row_22 row_ v1 0))
abbrev rmX6_row : Room := { frames := 1, cells := 0, slots := 0, locals := 25 }
set_option maxHeartbeats 4000000 in
set_option maxRecDepth 100000 in
theorem c_X6_row (l : Launch) (dC : Nat → ClassId) (dI : Nat → Nat → Nat) (cyC cyI cyJ : ClassId) (h0 h0_row h0_subjectOf h0_teacherOf h0_seatsOf h0_columnOf h0_barsOf h0_choices h0_tape h0_was h0_readChoices h0_open h0_wayOf h0_cure h0_left h0_satIn : Nat) (thrown_ : Int32) (told_ : Int32) (columns_ : Int32) (rooms_ : Int32) (many_ : Int32) (pupils_ : Int32) (kept_ : Int32) (taped_ : Int32) (at_ : Int32) (to_ : Int32) (digit_ : Int32) (number_ : Int32) (readMany_ : Int32) (bestThen_ : Int32) (row_ : Nat → Int32) (v1 : Int32) (rr : Int64) (o0 : Int32) (h : m_X6_row thrown_ told_ row_ v1 = some (rr, o0)) : uMl l yX6_row wsX6_row rmX6_row (dC, dI) [(cyC, .char), (cyI, .int), (cyJ, .long)] [.ref h0, .int v1] [(h0, .inr (6, [.int thrown_, .int told_, .ref h0_row, .int columns_, .int rooms_, .int many_, .ref h0_subjectOf, .ref h0_teacherOf, .ref h0_seatsOf, .ref h0_columnOf, .ref h0_barsOf, .int pupils_, .ref h0_choices, .int kept_, .ref h0_tape, .int taped_, .int at_, .int to_, .int digit_, .int number_, .ref h0_was, .ref h0_readChoices, .int readMany_, .ref h0_open, .ref h0_wayOf, .int bestThen_, .ref h0_cure, .ref h0_left, .ref h0_satIn])), (h0_row, .inl (cyI, 32, .inl row_))] [(h0, .inr (6, [.int o0, .int told_, .ref h0_row, .int columns_, .int rooms_, .int many_, .ref h0_subjectOf, .ref h0_teacherOf, .ref h0_seatsOf, .ref h0_columnOf, .ref h0_barsOf, .int pupils_, .ref h0_choices, .int kept_, .ref h0_tape, .int taped_, .int at_, .int to_, .int digit_, .int number_, .ref h0_was, .ref h0_readChoices, .int readMany_, .ref h0_open, .ref h0_wayOf, .int bestThen_, .ref h0_cure, .ref h0_left, .ref h0_satIn])), (h0_row, .inl (cyI, 32, .inl row_))] rr := by
  refine uMl.of (cc := cX6_row) (maxL := 2) (by decide) rfl (Nat.le_of_ble_eq_true rfl) (fun p e s m args below meth c A ls Q hx hb hml hown hts hA hP hK hD hE hS hl hret => ?_)
  have hown : s.vm.findClass RX6 = some m.cls := hown
  have hl : lv_has ls 2 [(0, .ref h0), (1, .int v1)] := hl
  have hiX6 : ∀ w ∈ u_ws RX6 TX6 29, w ∈ wsX6_row := fun _ h9 => List.mem_cons_of_mem _ (List.mem_append_right _ h9)
  have J22 : ∀ (t1 : Int32), m_X6_row_22 row_ v1 t1 = some (rr, o0) → ∀ (H : Heap) (locs : List Loc) (ls : Array Slot), va_P (dC, dI) vwCl [(h0, .inr (6, [.int thrown_, .int told_, .ref h0_row, .int columns_, .int rooms_, .int many_, .ref h0_subjectOf, .ref h0_teacherOf, .ref h0_seatsOf, .ref h0_columnOf, .ref h0_barsOf, .int pupils_, .ref h0_choices, .int kept_, .ref h0_tape, .int taped_, .int at_, .int to_, .int digit_, .int number_, .ref h0_was, .ref h0_readChoices, .int readMany_, .ref h0_open, .ref h0_wayOf, .int bestThen_, .ref h0_cure, .ref h0_left, .ref h0_satIn])), (h0_row, .inl (cyI, 32, .inl row_))] H → va_D A [(h0, .inr (6, [.int thrown_, .int told_, .ref h0_row, .int columns_, .int rooms_, .int many_, .ref h0_subjectOf, .ref h0_teacherOf, .ref h0_seatsOf, .ref h0_columnOf, .ref h0_barsOf, .int pupils_, .ref h0_choices, .int kept_, .ref h0_tape, .int taped_, .int at_, .int to_, .int digit_, .int number_, .ref h0_was, .ref h0_readChoices, .int readMany_, .ref h0_open, .ref h0_wayOf, .int bestThen_, .ref h0_cure, .ref h0_left, .ref h0_satIn])), (h0_row, .inl (cyI, 32, .inl row_))] → va_S A s.heap H locs → lv_has ls 2 [(0, .ref h0), (1, .int v1)] → W p l e rmX6_row s m args below meth c H locs 0 0 Q (F0 m 22 ls [.int t1, .ref h0]) := by
    intro t1 h H locs ls hP hD hS hl
    unfold m_X6_row_22 at h
    obtain ⟨r_1, hq, h⟩ := bd1_some h
    refine uS_i (As := [.int t1]) (rest := [.ref h0]) ⟨hx, hb, hml, hown, hts⟩ (c_X6_flag l dC dI cyC cyI cyJ t1 r_1 hq) (va_cwS 1 hts gX6_row_X6_flag rfl rfl rfl (by decide +kernel) ⟨Nat.le_of_ble_eq_true rfl, Nat.le_of_ble_eq_true rfl⟩) hK hE hA hP hD hS [] rfl rfl rfl rfl hl.1 rfl (Nat.le_of_ble_eq_true rfl) ⟨Nat.zero_le _, Nat.zero_le _⟩ dX6_row_22 (fun H locs hP hD hS => ?_)
    have hP : va_P (dC, dI) vwCl [(h0, .inr (6, [.int thrown_, .int told_, .ref h0_row, .int columns_, .int rooms_, .int many_, .ref h0_subjectOf, .ref h0_teacherOf, .ref h0_seatsOf, .ref h0_columnOf, .ref h0_barsOf, .int pupils_, .ref h0_choices, .int kept_, .ref h0_tape, .int taped_, .int at_, .int to_, .int digit_, .int number_, .ref h0_was, .ref h0_readChoices, .int readMany_, .ref h0_open, .ref h0_wayOf, .int bestThen_, .ref h0_cure, .ref h0_left, .ref h0_satIn])), (h0_row, .inl (cyI, 32, .inl row_))] H := hP
    have hD : va_D A [(h0, .inr (6, [.int thrown_, .int told_, .ref h0_row, .int columns_, .int rooms_, .int many_, .ref h0_subjectOf, .ref h0_teacherOf, .ref h0_seatsOf, .ref h0_columnOf, .ref h0_barsOf, .int pupils_, .ref h0_choices, .int kept_, .ref h0_tape, .int taped_, .int at_, .int to_, .int digit_, .int number_, .ref h0_was, .ref h0_readChoices, .int readMany_, .ref h0_open, .ref h0_wayOf, .int bestThen_, .ref h0_cure, .ref h0_left, .ref h0_satIn])), (h0_row, .inl (cyI, 32, .inl row_))] := hD
    refine va_put (D := (dC, dI)) (ci := 6) (v := .int r_1) (ty := .int) (C := RX6) (T := TX6) (N := 29) hx hb hts hiX6 tyX6 tyX6_ok nmX6 hown hK hP hD hS 0 rfl rfl 0 (by decide) (hts (.fieldLink RX6 62 "OptionLatticeModel" "thrown" "I") (by decide +kernel)) (fun _ h9 => h9) rfl (by decide +kernel) rfl rfl (Nat.le_of_ble_eq_true rfl) dX6_row_25 (fun H locs hP hD hS => ?_)
    have hP : va_P (dC, dI) vwCl [(h0, .inr (6, [.int r_1, .int told_, .ref h0_row, .int columns_, .int rooms_, .int many_, .ref h0_subjectOf, .ref h0_teacherOf, .ref h0_seatsOf, .ref h0_columnOf, .ref h0_barsOf, .int pupils_, .ref h0_choices, .int kept_, .ref h0_tape, .int taped_, .int at_, .int to_, .int digit_, .int number_, .ref h0_was, .ref h0_readChoices, .int readMany_, .ref h0_open, .ref h0_wayOf, .int bestThen_, .ref h0_cure, .ref h0_left, .ref h0_satIn])), (h0_row, .inl (cyI, 32, .inl row_))] H := hP
    have hD : va_D A [(h0, .inr (6, [.int r_1, .int told_, .ref h0_row, .int columns_, .int rooms_, .int many_, .ref h0_subjectOf, .ref h0_teacherOf, .ref h0_seatsOf, .ref h0_columnOf, .ref h0_barsOf, .int pupils_, .ref h0_choices, .int kept_, .ref h0_tape, .int taped_, .int at_, .int to_, .int digit_, .int number_, .ref h0_was, .ref h0_readChoices, .int readMany_, .ref h0_open, .ref h0_wayOf, .int bestThen_, .ref h0_cure, .ref h0_left, .ref h0_satIn])), (h0_row, .inl (cyI, 32, .inl row_))] := hD
    refine lv_aload_n hx hb dX6_row_28 rfl (lv_at hl 0 rfl) ?_
    refine va_get (D := (dC, dI)) (ci := 6) (v := .int r_1) (C := RX6) (T := TX6) (N := 29) hx hb hts hiX6 hown hK hP 0 rfl rfl 0 (by decide) (hts (.fieldLink RX6 62 "OptionLatticeModel" "thrown" "I") (by decide +kernel)) (fun _ h9 => h9) rfl dX6_row_29 ?_
    refine lv_iconst (v := 1) hx hb dX6_row_32 (by decide) ?_
    refine lv_icmp_ne (tgt := 40) hx hb dX6_row_33 (by decide) (fun c_ => ?_) (fun c_ => ?_)
    · have h := (if_neg c_).symm.trans h
      refine lv_aload_n hx hb dX6_row_40 rfl (lv_at hl 0 rfl) ?_
      refine va_get (D := (dC, dI)) (ci := 6) (v := .ref h0_row) (C := RX6) (T := TX6) (N := 29) hx hb hts hiX6 hown hK hP 0 rfl rfl 2 (by decide) (hts (.fieldLink RX6 9 "OptionLatticeModel" "row" "[I") (by decide +kernel)) (fun _ h9 => h9) rfl dX6_row_41 ?_
      refine lv_iload_n hx hb dX6_row_44 rfl (lv_at hl 1 rfl) ?_
      obtain ⟨g_, h⟩ := gd_some h
      refine va_iald hx hb hK hP 1 1 rfl rfl (inb_in g_) dX6_row_45 ?_
      refine lv_i2l (v := (Int32.toInt64 (row_ v1.toNatClampNeg))) hx hb dX6_row_46 rfl ?_
      have h : some ((Int32.toInt64 (row_ v1.toNatClampNeg)), r_1) = some (rr, o0) := h
      have z0 := Option.some.inj h
      obtain ⟨rfl, z1⟩ := Prod.mk.inj z0
      obtain rfl := z1
      exact hret _ _ _ _ hP hS dX6_row_47
    · have h := (if_pos c_).symm.trans h
      refine lv_lconst (v := 0) hx hb dX6_row_36 (by decide) ?_
      refine lv_goto (tgt := 47) hx hb dX6_row_37 (by decide) ?_
      have h : some (0, r_1) = some (rr, o0) := h
      have z0 := Option.some.inj h
      obtain ⟨rfl, z1⟩ := Prod.mk.inj z0
      obtain rfl := z1
      exact hret _ _ _ _ hP hS dX6_row_47
  unfold m_X6_row at h
  refine lv_aload_n hx hb dX6_row_0 rfl (lv_at hl 0 rfl) ?_
  refine lv_iload_n hx hb dX6_row_1 rfl (lv_at hl 1 rfl) ?_
  refine lv_i2l (v := (Int32.toInt64 v1)) hx hb dX6_row_2 rfl ?_
  refine lv_lconst (v := 0) hx hb dX6_row_3 (by decide) ?_
  refine lv_aload_n hx hb dX6_row_4 rfl (lv_at hl 0 rfl) ?_
  refine va_get (D := (dC, dI)) (ci := 6) (v := .int told_) (C := RX6) (T := TX6) (N := 29) hx hb hts hiX6 hown hK hP 0 rfl rfl 1 (by decide) (hts (.fieldLink RX6 71 "OptionLatticeModel" "told" "I") (by decide +kernel)) (fun _ h9 => h9) rfl dX6_row_5 ?_
  refine lv_iconst (v := 1) hx hb dX6_row_8 (by decide) ?_
  refine lv_isub hx hb dX6_row_9 ?_
  refine lv_i2l (v := (Int32.toInt64 (told_ - 1))) hx hb dX6_row_10 rfl ?_
  obtain ⟨r_2, hq, h⟩ := bd1_some h
  refine uS_i (As := [.long (Int32.toInt64 v1), .long 0, .long (Int32.toInt64 (told_ - 1))]) (rest := [.ref h0]) ⟨hx, hb, hml, hown, hts⟩ (c_X6_in l dC dI cyC cyI cyJ (Int32.toInt64 v1) 0 (Int32.toInt64 (told_ - 1)) r_2 hq) (va_cwS 3 hts gX6_row_X6_in rfl rfl rfl (by decide +kernel) ⟨Nat.le_of_ble_eq_true rfl, Nat.le_of_ble_eq_true rfl⟩) hK hE hA hP hD hS [] rfl rfl rfl rfl hl.1 rfl (Nat.le_of_ble_eq_true rfl) ⟨Nat.zero_le _, Nat.zero_le _⟩ dX6_row_11 (fun H locs hP hD hS => ?_)
  have hP : va_P (dC, dI) vwCl [(h0, .inr (6, [.int thrown_, .int told_, .ref h0_row, .int columns_, .int rooms_, .int many_, .ref h0_subjectOf, .ref h0_teacherOf, .ref h0_seatsOf, .ref h0_columnOf, .ref h0_barsOf, .int pupils_, .ref h0_choices, .int kept_, .ref h0_tape, .int taped_, .int at_, .int to_, .int digit_, .int number_, .ref h0_was, .ref h0_readChoices, .int readMany_, .ref h0_open, .ref h0_wayOf, .int bestThen_, .ref h0_cure, .ref h0_left, .ref h0_satIn])), (h0_row, .inl (cyI, 32, .inl row_))] H := hP
  have hD : va_D A [(h0, .inr (6, [.int thrown_, .int told_, .ref h0_row, .int columns_, .int rooms_, .int many_, .ref h0_subjectOf, .ref h0_teacherOf, .ref h0_seatsOf, .ref h0_columnOf, .ref h0_barsOf, .int pupils_, .ref h0_choices, .int kept_, .ref h0_tape, .int taped_, .int at_, .int to_, .int digit_, .int number_, .ref h0_was, .ref h0_readChoices, .int readMany_, .ref h0_open, .ref h0_wayOf, .int bestThen_, .ref h0_cure, .ref h0_left, .ref h0_satIn])), (h0_row, .inl (cyI, 32, .inl row_))] := hD
  refine lv_if_ne (tgt := 21) hx hb dX6_row_14 (by decide) (fun c_ => ?_) (fun c_ => ?_)
  · have h := (if_neg c_).symm.trans h
    refine lv_iconst (v := 0) hx hb dX6_row_21 (by decide) ?_
    exact J22 0 h _ _ _ hP hD hS (lv_sub hl [0, 1] rfl)
  · have h := (if_pos c_).symm.trans h
    refine lv_iconst (v := 1) hx hb dX6_row_17 (by decide) ?_
    refine lv_goto (tgt := 22) hx hb dX6_row_18 (by decide) ?_
    exact J22 1 h _ _ _ hP hD hS (lv_sub hl [0, 1] rfl)
