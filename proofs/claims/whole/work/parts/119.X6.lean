def m_X6_rooms_50 (thrown_ : Int32) (rooms_ : Int32) (v1 : Int32) : Option (Int32 × Int32 × Int32) :=
  some (rooms_, thrown_, v1)
def m_X6_rooms_21 (thrown_ : Int32) (columns_ : Int32) (rooms_ : Int32) (many_ : Int32) (columnOf_ : Nat → Int32) (v1 : Int32) (rec21 : Int32 → Option (Int32 × Int32 × Int32)) : Int32 → Option (Int32 × Int32 × Int32) := fun v2 =>
  (if columns_ ≤ v2 then m_X6_rooms_50 thrown_ rooms_ v1 else bd1 (m_X6_inColumn many_ columnOf_ v2) (fun r_1 => bd1 (m_X6_bits r_1) (fun r_2 => (if r_2 ≤ v1 then lt' (v2 + 1) (fun v2_3 => rec21 v2_3) else some ((-3), thrown_, rooms_)))))
def m_X6_rooms (thrown_ : Int32) (columns_ : Int32) (rooms_ : Int32) (many_ : Int32) (columnOf_ : Nat → Int32) (v1 : Int32) : Option (Int32 × Int32 × Int32) :=
  bd1 (m_X6_in (Int32.toInt64 v1) 1 9) (fun r_4 => (if r_4 = 0 then some ((-1), 0, rooms_) else it1 (m_X6_rooms_21 0 columns_ rooms_ many_ columnOf_ v1) 1100 0))
abbrev rmX6_rooms : Room := { frames := 2, cells := 0, slots := 0, locals := 40 }
set_option maxHeartbeats 4000000 in
set_option maxRecDepth 100000 in
theorem c_X6_rooms (l : Launch) (dC : Nat → ClassId) (dI : Nat → Nat → Nat) (cyC cyI cyJ : ClassId) (h0 h0_row h0_subjectOf h0_teacherOf h0_seatsOf h0_columnOf h0_barsOf h0_choices h0_tape h0_was h0_readChoices h0_open h0_wayOf h0_cure h0_left h0_satIn : Nat) (thrown_ : Int32) (told_ : Int32) (columns_ : Int32) (rooms_ : Int32) (many_ : Int32) (pupils_ : Int32) (kept_ : Int32) (taped_ : Int32) (at_ : Int32) (to_ : Int32) (digit_ : Int32) (number_ : Int32) (readMany_ : Int32) (bestThen_ : Int32) (columnOf_ : Nat → Int32) (v1 : Int32) (rr : Int32) (o0 : Int32) (o1 : Int32) (h : m_X6_rooms thrown_ columns_ rooms_ many_ columnOf_ v1 = some (rr, o0, o1)) : uMi l yX6_rooms wsX6_rooms rmX6_rooms (dC, dI) [(cyC, .char), (cyI, .int), (cyJ, .long)] [.ref h0, .int v1] [(h0, .inr (6, [.int thrown_, .int told_, .ref h0_row, .int columns_, .int rooms_, .int many_, .ref h0_subjectOf, .ref h0_teacherOf, .ref h0_seatsOf, .ref h0_columnOf, .ref h0_barsOf, .int pupils_, .ref h0_choices, .int kept_, .ref h0_tape, .int taped_, .int at_, .int to_, .int digit_, .int number_, .ref h0_was, .ref h0_readChoices, .int readMany_, .ref h0_open, .ref h0_wayOf, .int bestThen_, .ref h0_cure, .ref h0_left, .ref h0_satIn])), (h0_columnOf, .inl (cyI, 17, .inl columnOf_))] [(h0, .inr (6, [.int o0, .int told_, .ref h0_row, .int columns_, .int o1, .int many_, .ref h0_subjectOf, .ref h0_teacherOf, .ref h0_seatsOf, .ref h0_columnOf, .ref h0_barsOf, .int pupils_, .ref h0_choices, .int kept_, .ref h0_tape, .int taped_, .int at_, .int to_, .int digit_, .int number_, .ref h0_was, .ref h0_readChoices, .int readMany_, .ref h0_open, .ref h0_wayOf, .int bestThen_, .ref h0_cure, .ref h0_left, .ref h0_satIn])), (h0_columnOf, .inl (cyI, 17, .inl columnOf_))] rr := by
  refine uMi.of (cc := cX6_rooms) (maxL := 3) (by decide) rfl (Nat.le_of_ble_eq_true rfl) (fun p e s m args below meth c A ls Q hx hb hml hown hts hA hP hK hD hE hS hl hret => ?_)
  have hown : s.vm.findClass RX6 = some m.cls := hown
  have hl : lv_has ls 3 [(0, .ref h0), (1, .int v1)] := hl
  have hiX6 : ∀ w ∈ u_ws RX6 TX6 29, w ∈ wsX6_rooms := fun _ h9 => List.mem_cons_of_mem _ (List.mem_append_right _ h9)
  have J50 : ∀ (thrown_ : Int32), m_X6_rooms_50 thrown_ rooms_ v1 = some (rr, o0, o1) → ∀ (H : Heap) (locs : List Loc) (ls : Array Slot), va_P (dC, dI) vwCl [(h0, .inr (6, [.int thrown_, .int told_, .ref h0_row, .int columns_, .int rooms_, .int many_, .ref h0_subjectOf, .ref h0_teacherOf, .ref h0_seatsOf, .ref h0_columnOf, .ref h0_barsOf, .int pupils_, .ref h0_choices, .int kept_, .ref h0_tape, .int taped_, .int at_, .int to_, .int digit_, .int number_, .ref h0_was, .ref h0_readChoices, .int readMany_, .ref h0_open, .ref h0_wayOf, .int bestThen_, .ref h0_cure, .ref h0_left, .ref h0_satIn])), (h0_columnOf, .inl (cyI, 17, .inl columnOf_))] H → va_D A [(h0, .inr (6, [.int thrown_, .int told_, .ref h0_row, .int columns_, .int rooms_, .int many_, .ref h0_subjectOf, .ref h0_teacherOf, .ref h0_seatsOf, .ref h0_columnOf, .ref h0_barsOf, .int pupils_, .ref h0_choices, .int kept_, .ref h0_tape, .int taped_, .int at_, .int to_, .int digit_, .int number_, .ref h0_was, .ref h0_readChoices, .int readMany_, .ref h0_open, .ref h0_wayOf, .int bestThen_, .ref h0_cure, .ref h0_left, .ref h0_satIn])), (h0_columnOf, .inl (cyI, 17, .inl columnOf_))] → va_S A s.heap H locs → lv_has ls 3 [(0, .ref h0), (1, .int v1)] → W p l e rmX6_rooms s m args below meth c H locs 0 0 Q (F0 m 50 ls []) := by
    intro thrown_ h H locs ls hP hD hS hl
    unfold m_X6_rooms_50 at h
    refine lv_aload_n hx hb dX6_rooms_50 rfl (lv_at hl 0 rfl) ?_
    refine va_get (D := (dC, dI)) (ci := 6) (v := .int rooms_) (C := RX6) (T := TX6) (N := 29) hx hb hts hiX6 hown hK hP 0 rfl rfl 4 (by decide) (hts (.fieldLink RX6 17 "OptionLatticeModel" "rooms" "I") (by decide +kernel)) (fun _ h9 => h9) rfl dX6_rooms_51 ?_
    refine lv_istore_n (lv' := [(2, .int rooms_), (0, .ref h0), (1, .int v1)]) hx hb dX6_rooms_54 rfl hl (by decide) rfl (fun ls hl => ?_)
    refine lv_aload_n hx hb dX6_rooms_55 rfl (lv_at hl 1 rfl) ?_
    refine lv_iload_n hx hb dX6_rooms_56 rfl (lv_at hl 2 rfl) ?_
    refine va_put (D := (dC, dI)) (ci := 6) (v := .int v1) (ty := .int) (C := RX6) (T := TX6) (N := 29) hx hb hts hiX6 tyX6 tyX6_ok nmX6 hown hK hP hD hS 0 rfl rfl 4 (by decide) (hts (.fieldLink RX6 17 "OptionLatticeModel" "rooms" "I") (by decide +kernel)) (fun _ h9 => h9) rfl (by decide +kernel) rfl rfl (Nat.le_of_ble_eq_true rfl) dX6_rooms_57 (fun H locs hP hD hS => ?_)
    have hP : va_P (dC, dI) vwCl [(h0, .inr (6, [.int thrown_, .int told_, .ref h0_row, .int columns_, .int v1, .int many_, .ref h0_subjectOf, .ref h0_teacherOf, .ref h0_seatsOf, .ref h0_columnOf, .ref h0_barsOf, .int pupils_, .ref h0_choices, .int kept_, .ref h0_tape, .int taped_, .int at_, .int to_, .int digit_, .int number_, .ref h0_was, .ref h0_readChoices, .int readMany_, .ref h0_open, .ref h0_wayOf, .int bestThen_, .ref h0_cure, .ref h0_left, .ref h0_satIn])), (h0_columnOf, .inl (cyI, 17, .inl columnOf_))] H := hP
    have hD : va_D A [(h0, .inr (6, [.int thrown_, .int told_, .ref h0_row, .int columns_, .int v1, .int many_, .ref h0_subjectOf, .ref h0_teacherOf, .ref h0_seatsOf, .ref h0_columnOf, .ref h0_barsOf, .int pupils_, .ref h0_choices, .int kept_, .ref h0_tape, .int taped_, .int at_, .int to_, .int digit_, .int number_, .ref h0_was, .ref h0_readChoices, .int readMany_, .ref h0_open, .ref h0_wayOf, .int bestThen_, .ref h0_cure, .ref h0_left, .ref h0_satIn])), (h0_columnOf, .inl (cyI, 17, .inl columnOf_))] := hD
    refine lv_iload_n hx hb dX6_rooms_60 rfl (lv_at hl 0 rfl) ?_
    have h : some (rooms_, thrown_, v1) = some (rr, o0, o1) := h
    have z0 := Option.some.inj h
    obtain ⟨rfl, z1⟩ := Prod.mk.inj z0
    obtain ⟨rfl, z2⟩ := Prod.mk.inj z1
    obtain rfl := z2
    exact hret _ _ _ _ hP hS rfl dX6_rooms_61
  have L21 : ∀ (thrown_ : Int32), ∀ (n21 : Nat), ∀ (v2 : Int32), it1 (m_X6_rooms_21 thrown_ columns_ rooms_ many_ columnOf_ v1) n21 v2 = some (rr, o0, o1) → ∀ (H : Heap) (locs : List Loc) (ls : Array Slot), va_P (dC, dI) vwCl [(h0, .inr (6, [.int thrown_, .int told_, .ref h0_row, .int columns_, .int rooms_, .int many_, .ref h0_subjectOf, .ref h0_teacherOf, .ref h0_seatsOf, .ref h0_columnOf, .ref h0_barsOf, .int pupils_, .ref h0_choices, .int kept_, .ref h0_tape, .int taped_, .int at_, .int to_, .int digit_, .int number_, .ref h0_was, .ref h0_readChoices, .int readMany_, .ref h0_open, .ref h0_wayOf, .int bestThen_, .ref h0_cure, .ref h0_left, .ref h0_satIn])), (h0_columnOf, .inl (cyI, 17, .inl columnOf_))] H → va_D A [(h0, .inr (6, [.int thrown_, .int told_, .ref h0_row, .int columns_, .int rooms_, .int many_, .ref h0_subjectOf, .ref h0_teacherOf, .ref h0_seatsOf, .ref h0_columnOf, .ref h0_barsOf, .int pupils_, .ref h0_choices, .int kept_, .ref h0_tape, .int taped_, .int at_, .int to_, .int digit_, .int number_, .ref h0_was, .ref h0_readChoices, .int readMany_, .ref h0_open, .ref h0_wayOf, .int bestThen_, .ref h0_cure, .ref h0_left, .ref h0_satIn])), (h0_columnOf, .inl (cyI, 17, .inl columnOf_))] → va_S A s.heap H locs → lv_has ls 3 [(0, .ref h0), (1, .int v1), (2, .int v2)] → W p l e rmX6_rooms s m args below meth c H locs 0 0 Q (F0 m 21 ls []) := by
    intro thrown_ n21
    induction n21 with
    | zero => intro v2 h; exact absurd h (fun z => it1_z z)
    | succ n21 ih21 =>
      intro v2 h H locs ls hP hD hS hl
      have h : m_X6_rooms_21 thrown_ columns_ rooms_ many_ columnOf_ v1 (it1 (m_X6_rooms_21 thrown_ columns_ rooms_ many_ columnOf_ v1) n21) v2 = some (rr, o0, o1) := h
      unfold m_X6_rooms_21 at h
      refine lv_iload_n hx hb dX6_rooms_21 rfl (lv_at hl 2 rfl) ?_
      refine lv_aload_n hx hb dX6_rooms_22 rfl (lv_at hl 0 rfl) ?_
      refine va_get (D := (dC, dI)) (ci := 6) (v := .int columns_) (C := RX6) (T := TX6) (N := 29) hx hb hts hiX6 hown hK hP 0 rfl rfl 3 (by decide) (hts (.fieldLink RX6 13 "OptionLatticeModel" "columns" "I") (by decide +kernel)) (fun _ h9 => h9) rfl dX6_rooms_23 ?_
      refine lv_icmp_ge (tgt := 50) hx hb dX6_rooms_26 (by decide) (fun c_ => ?_) (fun c_ => ?_)
      · have h := (if_pos c_).symm.trans h
        exact J50 thrown_ h _ _ _ hP hD hS (lv_sub hl [0, 1] rfl)
      · have h := (if_neg c_).symm.trans h
        refine lv_aload_n hx hb dX6_rooms_29 rfl (lv_at hl 0 rfl) ?_
        refine lv_iload_n hx hb dX6_rooms_30 rfl (lv_at hl 2 rfl) ?_
        obtain ⟨r_1, hq, h⟩ := bd1_some h
        refine uV_i (b := h0) (As := [.int v2]) (rest := []) ⟨hx, hb, hml, hown, hts⟩ (c_X6_inColumn l dC dI cyC cyI cyJ h0 h0_row h0_subjectOf h0_teacherOf h0_seatsOf h0_columnOf h0_barsOf h0_choices h0_tape h0_was h0_readChoices h0_open h0_wayOf h0_cure h0_left h0_satIn thrown_ told_ columns_ rooms_ many_ pupils_ kept_ taped_ at_ to_ digit_ number_ readMany_ bestThen_ columnOf_ v2 r_1 hq) (cwV 1 hts gX6_rooms_X6_inColumn rfl rfl rfl (by decide +kernel) ⟨Nat.le_of_ble_eq_true rfl, Nat.le_of_ble_eq_true rfl⟩) hK hE hA hP hD hS [0, 1] rfl rfl rfl 6 0 rfl rfl rfl hl.1 rfl (Nat.le_of_ble_eq_true rfl) ⟨Nat.zero_le _, Nat.zero_le _⟩ dX6_rooms_31 (fun H locs hP hD hS => ?_)
        have hP : va_P (dC, dI) vwCl [(h0, .inr (6, [.int thrown_, .int told_, .ref h0_row, .int columns_, .int rooms_, .int many_, .ref h0_subjectOf, .ref h0_teacherOf, .ref h0_seatsOf, .ref h0_columnOf, .ref h0_barsOf, .int pupils_, .ref h0_choices, .int kept_, .ref h0_tape, .int taped_, .int at_, .int to_, .int digit_, .int number_, .ref h0_was, .ref h0_readChoices, .int readMany_, .ref h0_open, .ref h0_wayOf, .int bestThen_, .ref h0_cure, .ref h0_left, .ref h0_satIn])), (h0_columnOf, .inl (cyI, 17, .inl columnOf_))] H := hP
        have hD : va_D A [(h0, .inr (6, [.int thrown_, .int told_, .ref h0_row, .int columns_, .int rooms_, .int many_, .ref h0_subjectOf, .ref h0_teacherOf, .ref h0_seatsOf, .ref h0_columnOf, .ref h0_barsOf, .int pupils_, .ref h0_choices, .int kept_, .ref h0_tape, .int taped_, .int at_, .int to_, .int digit_, .int number_, .ref h0_was, .ref h0_readChoices, .int readMany_, .ref h0_open, .ref h0_wayOf, .int bestThen_, .ref h0_cure, .ref h0_left, .ref h0_satIn])), (h0_columnOf, .inl (cyI, 17, .inl columnOf_))] := hD
        obtain ⟨r_2, hq, h⟩ := bd1_some h
        refine uS_i (As := [.int r_1]) (rest := []) ⟨hx, hb, hml, hown, hts⟩ (c_X6_bits l dC dI cyC cyI cyJ r_1 r_2 hq) (va_cwS 1 hts gX6_rooms_X6_bits rfl rfl rfl (by decide +kernel) ⟨Nat.le_of_ble_eq_true rfl, Nat.le_of_ble_eq_true rfl⟩) hK hE hA hP hD hS [] rfl rfl rfl rfl hl.1 rfl (Nat.le_of_ble_eq_true rfl) ⟨Nat.zero_le _, Nat.zero_le _⟩ dX6_rooms_34 (fun H locs hP hD hS => ?_)
        have hP : va_P (dC, dI) vwCl [(h0, .inr (6, [.int thrown_, .int told_, .ref h0_row, .int columns_, .int rooms_, .int many_, .ref h0_subjectOf, .ref h0_teacherOf, .ref h0_seatsOf, .ref h0_columnOf, .ref h0_barsOf, .int pupils_, .ref h0_choices, .int kept_, .ref h0_tape, .int taped_, .int at_, .int to_, .int digit_, .int number_, .ref h0_was, .ref h0_readChoices, .int readMany_, .ref h0_open, .ref h0_wayOf, .int bestThen_, .ref h0_cure, .ref h0_left, .ref h0_satIn])), (h0_columnOf, .inl (cyI, 17, .inl columnOf_))] H := hP
        have hD : va_D A [(h0, .inr (6, [.int thrown_, .int told_, .ref h0_row, .int columns_, .int rooms_, .int many_, .ref h0_subjectOf, .ref h0_teacherOf, .ref h0_seatsOf, .ref h0_columnOf, .ref h0_barsOf, .int pupils_, .ref h0_choices, .int kept_, .ref h0_tape, .int taped_, .int at_, .int to_, .int digit_, .int number_, .ref h0_was, .ref h0_readChoices, .int readMany_, .ref h0_open, .ref h0_wayOf, .int bestThen_, .ref h0_cure, .ref h0_left, .ref h0_satIn])), (h0_columnOf, .inl (cyI, 17, .inl columnOf_))] := hD
        refine lv_iload_n hx hb dX6_rooms_37 rfl (lv_at hl 1 rfl) ?_
        refine lv_icmp_le (tgt := 44) hx hb dX6_rooms_38 (by decide) (fun c_ => ?_) (fun c_ => ?_)
        · have h := (if_pos c_).symm.trans h
          obtain ⟨v2_3, e_v2_3⟩ : ∃ z : Int32, z = (v2 + 1) := ⟨_, rfl⟩
          have h := lt_use e_v2_3 h
          refine lv_iinc (v := v2_3) (lv' := [(2, .int v2_3), (0, .ref h0), (1, .int v1)]) hx hb dX6_rooms_44 hl (k := 2) rfl (by rw [e_v2_3]; rfl) (by decide) rfl (fun ls hl => ?_)
          refine lv_goto (tgt := 21) hx hb dX6_rooms_47 (by decide) ?_
          exact ih21 v2_3 h _ _ _ hP hD hS (lv_sub hl [1, 2, 0] rfl)
        · have h := (if_neg c_).symm.trans h
          refine lv_bipush (v := (-3)) hx hb dX6_rooms_41 (by decide) ?_
          have h : some ((-3), thrown_, rooms_) = some (rr, o0, o1) := h
          have z0 := Option.some.inj h
          obtain ⟨rfl, z1⟩ := Prod.mk.inj z0
          obtain ⟨rfl, z2⟩ := Prod.mk.inj z1
          obtain rfl := z2
          exact hret _ _ _ _ hP hS rfl dX6_rooms_43
  unfold m_X6_rooms at h
  refine lv_aload_n hx hb dX6_rooms_0 rfl (lv_at hl 0 rfl) ?_
  refine lv_iconst (v := 0) hx hb dX6_rooms_1 (by decide) ?_
  refine va_put (D := (dC, dI)) (ci := 6) (v := .int 0) (ty := .int) (C := RX6) (T := TX6) (N := 29) hx hb hts hiX6 tyX6 tyX6_ok nmX6 hown hK hP hD hS 0 rfl rfl 0 (by decide) (hts (.fieldLink RX6 62 "OptionLatticeModel" "thrown" "I") (by decide +kernel)) (fun _ h9 => h9) rfl (by decide +kernel) rfl rfl (Nat.le_of_ble_eq_true rfl) dX6_rooms_2 (fun H locs hP hD hS => ?_)
  have hP : va_P (dC, dI) vwCl [(h0, .inr (6, [.int 0, .int told_, .ref h0_row, .int columns_, .int rooms_, .int many_, .ref h0_subjectOf, .ref h0_teacherOf, .ref h0_seatsOf, .ref h0_columnOf, .ref h0_barsOf, .int pupils_, .ref h0_choices, .int kept_, .ref h0_tape, .int taped_, .int at_, .int to_, .int digit_, .int number_, .ref h0_was, .ref h0_readChoices, .int readMany_, .ref h0_open, .ref h0_wayOf, .int bestThen_, .ref h0_cure, .ref h0_left, .ref h0_satIn])), (h0_columnOf, .inl (cyI, 17, .inl columnOf_))] H := hP
  have hD : va_D A [(h0, .inr (6, [.int 0, .int told_, .ref h0_row, .int columns_, .int rooms_, .int many_, .ref h0_subjectOf, .ref h0_teacherOf, .ref h0_seatsOf, .ref h0_columnOf, .ref h0_barsOf, .int pupils_, .ref h0_choices, .int kept_, .ref h0_tape, .int taped_, .int at_, .int to_, .int digit_, .int number_, .ref h0_was, .ref h0_readChoices, .int readMany_, .ref h0_open, .ref h0_wayOf, .int bestThen_, .ref h0_cure, .ref h0_left, .ref h0_satIn])), (h0_columnOf, .inl (cyI, 17, .inl columnOf_))] := hD
  refine lv_iload_n hx hb dX6_rooms_5 rfl (lv_at hl 1 rfl) ?_
  refine lv_i2l (v := (Int32.toInt64 v1)) hx hb dX6_rooms_6 rfl ?_
  refine lv_lconst (v := 1) hx hb dX6_rooms_7 (by decide) ?_
  refine lv_ldc2 hx hb hown (hts (.constantLong RX6 85 (9)) (by decide +kernel)) dX6_rooms_8 ?_
  obtain ⟨r_4, hq, h⟩ := bd1_some h
  refine uS_i (As := [.long (Int32.toInt64 v1), .long 1, .long 9]) (rest := []) ⟨hx, hb, hml, hown, hts⟩ (c_X6_in l dC dI cyC cyI cyJ (Int32.toInt64 v1) 1 9 r_4 hq) (va_cwS 3 hts gX6_rooms_X6_in rfl rfl rfl (by decide +kernel) ⟨Nat.le_of_ble_eq_true rfl, Nat.le_of_ble_eq_true rfl⟩) hK hE hA hP hD hS [] rfl rfl rfl rfl hl.1 rfl (Nat.le_of_ble_eq_true rfl) ⟨Nat.zero_le _, Nat.zero_le _⟩ dX6_rooms_11 (fun H locs hP hD hS => ?_)
  have hP : va_P (dC, dI) vwCl [(h0, .inr (6, [.int 0, .int told_, .ref h0_row, .int columns_, .int rooms_, .int many_, .ref h0_subjectOf, .ref h0_teacherOf, .ref h0_seatsOf, .ref h0_columnOf, .ref h0_barsOf, .int pupils_, .ref h0_choices, .int kept_, .ref h0_tape, .int taped_, .int at_, .int to_, .int digit_, .int number_, .ref h0_was, .ref h0_readChoices, .int readMany_, .ref h0_open, .ref h0_wayOf, .int bestThen_, .ref h0_cure, .ref h0_left, .ref h0_satIn])), (h0_columnOf, .inl (cyI, 17, .inl columnOf_))] H := hP
  have hD : va_D A [(h0, .inr (6, [.int 0, .int told_, .ref h0_row, .int columns_, .int rooms_, .int many_, .ref h0_subjectOf, .ref h0_teacherOf, .ref h0_seatsOf, .ref h0_columnOf, .ref h0_barsOf, .int pupils_, .ref h0_choices, .int kept_, .ref h0_tape, .int taped_, .int at_, .int to_, .int digit_, .int number_, .ref h0_was, .ref h0_readChoices, .int readMany_, .ref h0_open, .ref h0_wayOf, .int bestThen_, .ref h0_cure, .ref h0_left, .ref h0_satIn])), (h0_columnOf, .inl (cyI, 17, .inl columnOf_))] := hD
  refine lv_if_ne (tgt := 19) hx hb dX6_rooms_14 (by decide) (fun c_ => ?_) (fun c_ => ?_)
  · have h := (if_neg c_).symm.trans h
    refine lv_iconst (v := 0) hx hb dX6_rooms_19 (by decide) ?_
    refine lv_istore_n (lv' := [(2, .int 0), (0, .ref h0), (1, .int v1)]) hx hb dX6_rooms_20 rfl hl (by decide) rfl (fun ls hl => ?_)
    exact L21 0 1100 0 h _ _ _ hP hD hS (lv_sub hl [1, 2, 0] rfl)
  · have h := (if_pos c_).symm.trans h
    refine lv_iconst (v := (-1)) hx hb dX6_rooms_17 (by decide) ?_
    have h : some ((-1), 0, rooms_) = some (rr, o0, o1) := h
    have z0 := Option.some.inj h
    obtain ⟨rfl, z1⟩ := Prod.mk.inj z0
    obtain ⟨rfl, z2⟩ := Prod.mk.inj z1
    obtain rfl := z2
    exact hret _ _ _ _ hP hS rfl dX6_rooms_18

def m_X6_chooses (thrown_ : Int32) (pupils_ : Int32) (choices_ : Nat → Int32) (v1 : Int32) (v2 : Int32) (v3 : Int32) : Option (Int32 × Int32 × (Nat → Int32)) :=
  bd1 (m_X6_isPupil pupils_ v1) (fun r_1 => (if r_1 = 0 then some ((-1), 0, choices_) else bd1 (m_X6_isSubject v2) (fun r_2 => (if r_2 = 0 then some ((-1), 0, choices_) else gd (inb v1 24) (bd1 (m_X6_has (choices_ v1.toNatClampNeg) v2) (fun r_3 => (if r_3 = v3 then some ((-2), 0, choices_) else gd (inb v1 24) (lt' ((choices_ v1.toNatClampNeg) ^^^ ((1 : Int32) <<< (v2 &&& 31))) (fun v4_4 => bd1 (m_X6_bits v4_4) (fun r_5 => bd1 (m_X6_in (Int32.toInt64 r_5) 1 6) (fun r_6 => (if r_6 = 0 then some ((-3), 0, choices_) else gd (inb v1 24) (some (v4_4, 0, (upd choices_ v1.toNatClampNeg v4_4)))))))))))))))
abbrev rmX6_chooses : Room := { frames := 2, cells := 0, slots := 0, locals := 46 }
set_option maxHeartbeats 4000000 in
set_option maxRecDepth 100000 in
theorem c_X6_chooses (l : Launch) (dC : Nat → ClassId) (dI : Nat → Nat → Nat) (cyC cyI cyJ : ClassId) (h0 h0_row h0_subjectOf h0_teacherOf h0_seatsOf h0_columnOf h0_barsOf h0_choices h0_tape h0_was h0_readChoices h0_open h0_wayOf h0_cure h0_left h0_satIn : Nat) (thrown_ : Int32) (told_ : Int32) (columns_ : Int32) (rooms_ : Int32) (many_ : Int32) (pupils_ : Int32) (kept_ : Int32) (taped_ : Int32) (at_ : Int32) (to_ : Int32) (digit_ : Int32) (number_ : Int32) (readMany_ : Int32) (bestThen_ : Int32) (choices_ : Nat → Int32) (v1 : Int32) (v2 : Int32) (v3 : Int32) (rr : Int32) (o0 : Int32) (o1 : Nat → Int32) (h : m_X6_chooses thrown_ pupils_ choices_ v1 v2 v3 = some (rr, o0, o1)) : uMi l yX6_chooses wsX6_chooses rmX6_chooses (dC, dI) [(cyC, .char), (cyI, .int), (cyJ, .long)] [.ref h0, .int v1, .int v2, .int v3] [(h0, .inr (6, [.int thrown_, .int told_, .ref h0_row, .int columns_, .int rooms_, .int many_, .ref h0_subjectOf, .ref h0_teacherOf, .ref h0_seatsOf, .ref h0_columnOf, .ref h0_barsOf, .int pupils_, .ref h0_choices, .int kept_, .ref h0_tape, .int taped_, .int at_, .int to_, .int digit_, .int number_, .ref h0_was, .ref h0_readChoices, .int readMany_, .ref h0_open, .ref h0_wayOf, .int bestThen_, .ref h0_cure, .ref h0_left, .ref h0_satIn])), (h0_choices, .inl (cyI, 24, .inl choices_))] [(h0, .inr (6, [.int o0, .int told_, .ref h0_row, .int columns_, .int rooms_, .int many_, .ref h0_subjectOf, .ref h0_teacherOf, .ref h0_seatsOf, .ref h0_columnOf, .ref h0_barsOf, .int pupils_, .ref h0_choices, .int kept_, .ref h0_tape, .int taped_, .int at_, .int to_, .int digit_, .int number_, .ref h0_was, .ref h0_readChoices, .int readMany_, .ref h0_open, .ref h0_wayOf, .int bestThen_, .ref h0_cure, .ref h0_left, .ref h0_satIn])), (h0_choices, .inl (cyI, 24, .inl o1))] rr := by
  refine uMi.of (cc := cX6_chooses) (maxL := 5) (by decide) rfl (Nat.le_of_ble_eq_true rfl) (fun p e s m args below meth c A ls Q hx hb hml hown hts hA hP hK hD hE hS hl hret => ?_)
  have hown : s.vm.findClass RX6 = some m.cls := hown
  have hl : lv_has ls 5 [(0, .ref h0), (1, .int v1), (2, .int v2), (3, .int v3)] := hl
  have hiX6 : ∀ w ∈ u_ws RX6 TX6 29, w ∈ wsX6_chooses := fun _ h9 => List.mem_cons_of_mem _ (List.mem_append_right _ h9)
  unfold m_X6_chooses at h
  refine lv_aload_n hx hb dX6_chooses_0 rfl (lv_at hl 0 rfl) ?_
  refine lv_iconst (v := 0) hx hb dX6_chooses_1 (by decide) ?_
  refine va_put (D := (dC, dI)) (ci := 6) (v := .int 0) (ty := .int) (C := RX6) (T := TX6) (N := 29) hx hb hts hiX6 tyX6 tyX6_ok nmX6 hown hK hP hD hS 0 rfl rfl 0 (by decide) (hts (.fieldLink RX6 62 "OptionLatticeModel" "thrown" "I") (by decide +kernel)) (fun _ h9 => h9) rfl (by decide +kernel) rfl rfl (Nat.le_of_ble_eq_true rfl) dX6_chooses_2 (fun H locs hP hD hS => ?_)
  have hP : va_P (dC, dI) vwCl [(h0, .inr (6, [.int 0, .int told_, .ref h0_row, .int columns_, .int rooms_, .int many_, .ref h0_subjectOf, .ref h0_teacherOf, .ref h0_seatsOf, .ref h0_columnOf, .ref h0_barsOf, .int pupils_, .ref h0_choices, .int kept_, .ref h0_tape, .int taped_, .int at_, .int to_, .int digit_, .int number_, .ref h0_was, .ref h0_readChoices, .int readMany_, .ref h0_open, .ref h0_wayOf, .int bestThen_, .ref h0_cure, .ref h0_left, .ref h0_satIn])), (h0_choices, .inl (cyI, 24, .inl choices_))] H := hP
  have hD : va_D A [(h0, .inr (6, [.int 0, .int told_, .ref h0_row, .int columns_, .int rooms_, .int many_, .ref h0_subjectOf, .ref h0_teacherOf, .ref h0_seatsOf, .ref h0_columnOf, .ref h0_barsOf, .int pupils_, .ref h0_choices, .int kept_, .ref h0_tape, .int taped_, .int at_, .int to_, .int digit_, .int number_, .ref h0_was, .ref h0_readChoices, .int readMany_, .ref h0_open, .ref h0_wayOf, .int bestThen_, .ref h0_cure, .ref h0_left, .ref h0_satIn])), (h0_choices, .inl (cyI, 24, .inl choices_))] := hD
  refine lv_aload_n hx hb dX6_chooses_5 rfl (lv_at hl 0 rfl) ?_
  refine lv_iload_n hx hb dX6_chooses_6 rfl (lv_at hl 1 rfl) ?_
  obtain ⟨r_1, hq, h⟩ := bd1_some h
  refine uV_i (b := h0) (As := [.int v1]) (rest := []) ⟨hx, hb, hml, hown, hts⟩ (c_X6_isPupil l dC dI cyC cyI cyJ h0 h0_row h0_subjectOf h0_teacherOf h0_seatsOf h0_columnOf h0_barsOf h0_choices h0_tape h0_was h0_readChoices h0_open h0_wayOf h0_cure h0_left h0_satIn 0 told_ columns_ rooms_ many_ pupils_ kept_ taped_ at_ to_ digit_ number_ readMany_ bestThen_ v1 r_1 hq) (cwV 1 hts gX6_chooses_X6_isPupil rfl rfl rfl (by decide +kernel) ⟨Nat.le_of_ble_eq_true rfl, Nat.le_of_ble_eq_true rfl⟩) hK hE hA hP hD hS [0] rfl rfl rfl 6 0 rfl rfl rfl hl.1 rfl (Nat.le_of_ble_eq_true rfl) ⟨Nat.zero_le _, Nat.zero_le _⟩ dX6_chooses_7 (fun H locs hP hD hS => ?_)
  have hP : va_P (dC, dI) vwCl [(h0, .inr (6, [.int 0, .int told_, .ref h0_row, .int columns_, .int rooms_, .int many_, .ref h0_subjectOf, .ref h0_teacherOf, .ref h0_seatsOf, .ref h0_columnOf, .ref h0_barsOf, .int pupils_, .ref h0_choices, .int kept_, .ref h0_tape, .int taped_, .int at_, .int to_, .int digit_, .int number_, .ref h0_was, .ref h0_readChoices, .int readMany_, .ref h0_open, .ref h0_wayOf, .int bestThen_, .ref h0_cure, .ref h0_left, .ref h0_satIn])), (h0_choices, .inl (cyI, 24, .inl choices_))] H := hP
  have hD : va_D A [(h0, .inr (6, [.int 0, .int told_, .ref h0_row, .int columns_, .int rooms_, .int many_, .ref h0_subjectOf, .ref h0_teacherOf, .ref h0_seatsOf, .ref h0_columnOf, .ref h0_barsOf, .int pupils_, .ref h0_choices, .int kept_, .ref h0_tape, .int taped_, .int at_, .int to_, .int digit_, .int number_, .ref h0_was, .ref h0_readChoices, .int readMany_, .ref h0_open, .ref h0_wayOf, .int bestThen_, .ref h0_cure, .ref h0_left, .ref h0_satIn])), (h0_choices, .inl (cyI, 24, .inl choices_))] := hD
  refine lv_if_eq (tgt := 20) hx hb dX6_chooses_10 (by decide) (fun c_ => ?_) (fun c_ => ?_)
  · have h := (if_pos c_).symm.trans h
    refine lv_iconst (v := (-1)) hx hb dX6_chooses_20 (by decide) ?_
    have h : some ((-1), 0, choices_) = some (rr, o0, o1) := h
    have z0 := Option.some.inj h
    obtain ⟨rfl, z1⟩ := Prod.mk.inj z0
    obtain ⟨rfl, z2⟩ := Prod.mk.inj z1
    obtain rfl := z2
    exact hret _ _ _ _ hP hS rfl dX6_chooses_21
  · have h := (if_neg c_).symm.trans h
    refine lv_iload_n hx hb dX6_chooses_13 rfl (lv_at hl 2 rfl) ?_
    obtain ⟨r_2, hq, h⟩ := bd1_some h
    refine uS_i (As := [.int v2]) (rest := []) ⟨hx, hb, hml, hown, hts⟩ (c_X6_isSubject l dC dI cyC cyI cyJ v2 r_2 hq) (va_cwS 1 hts gX6_chooses_X6_isSubject rfl rfl rfl (by decide +kernel) ⟨Nat.le_of_ble_eq_true rfl, Nat.le_of_ble_eq_true rfl⟩) hK hE hA hP hD hS [] rfl rfl rfl rfl hl.1 rfl (Nat.le_of_ble_eq_true rfl) ⟨Nat.zero_le _, Nat.zero_le _⟩ dX6_chooses_14 (fun H locs hP hD hS => ?_)
    have hP : va_P (dC, dI) vwCl [(h0, .inr (6, [.int 0, .int told_, .ref h0_row, .int columns_, .int rooms_, .int many_, .ref h0_subjectOf, .ref h0_teacherOf, .ref h0_seatsOf, .ref h0_columnOf, .ref h0_barsOf, .int pupils_, .ref h0_choices, .int kept_, .ref h0_tape, .int taped_, .int at_, .int to_, .int digit_, .int number_, .ref h0_was, .ref h0_readChoices, .int readMany_, .ref h0_open, .ref h0_wayOf, .int bestThen_, .ref h0_cure, .ref h0_left, .ref h0_satIn])), (h0_choices, .inl (cyI, 24, .inl choices_))] H := hP
    have hD : va_D A [(h0, .inr (6, [.int 0, .int told_, .ref h0_row, .int columns_, .int rooms_, .int many_, .ref h0_subjectOf, .ref h0_teacherOf, .ref h0_seatsOf, .ref h0_columnOf, .ref h0_barsOf, .int pupils_, .ref h0_choices, .int kept_, .ref h0_tape, .int taped_, .int at_, .int to_, .int digit_, .int number_, .ref h0_was, .ref h0_readChoices, .int readMany_, .ref h0_open, .ref h0_wayOf, .int bestThen_, .ref h0_cure, .ref h0_left, .ref h0_satIn])), (h0_choices, .inl (cyI, 24, .inl choices_))] := hD
    refine lv_if_ne (tgt := 22) hx hb dX6_chooses_17 (by decide) (fun c_ => ?_) (fun c_ => ?_)
    · have h := (if_neg c_).symm.trans h
      refine lv_aload_n hx hb dX6_chooses_22 rfl (lv_at hl 0 rfl) ?_
      refine va_get (D := (dC, dI)) (ci := 6) (v := .ref h0_choices) (C := RX6) (T := TX6) (N := 29) hx hb hts hiX6 hown hK hP 0 rfl rfl 12 (by decide) (hts (.fieldLink RX6 35 "OptionLatticeModel" "choices" "[I") (by decide +kernel)) (fun _ h9 => h9) rfl dX6_chooses_23 ?_
      refine lv_iload_n hx hb dX6_chooses_26 rfl (lv_at hl 1 rfl) ?_
      obtain ⟨g_, h⟩ := gd_some h
      refine va_iald hx hb hK hP 1 1 rfl rfl (inb_in g_) dX6_chooses_27 ?_
      refine lv_iload_n hx hb dX6_chooses_28 rfl (lv_at hl 2 rfl) ?_
      obtain ⟨r_3, hq, h⟩ := bd1_some h
      refine uS_i (As := [.int (choices_ v1.toNatClampNeg), .int v2]) (rest := []) ⟨hx, hb, hml, hown, hts⟩ (c_X6_has l dC dI cyC cyI cyJ (choices_ v1.toNatClampNeg) v2 r_3 hq) (va_cwS 2 hts gX6_chooses_X6_has rfl rfl rfl (by decide +kernel) ⟨Nat.le_of_ble_eq_true rfl, Nat.le_of_ble_eq_true rfl⟩) hK hE hA hP hD hS [] rfl rfl rfl rfl hl.1 rfl (Nat.le_of_ble_eq_true rfl) ⟨Nat.zero_le _, Nat.zero_le _⟩ dX6_chooses_29 (fun H locs hP hD hS => ?_)
      have hP : va_P (dC, dI) vwCl [(h0, .inr (6, [.int 0, .int told_, .ref h0_row, .int columns_, .int rooms_, .int many_, .ref h0_subjectOf, .ref h0_teacherOf, .ref h0_seatsOf, .ref h0_columnOf, .ref h0_barsOf, .int pupils_, .ref h0_choices, .int kept_, .ref h0_tape, .int taped_, .int at_, .int to_, .int digit_, .int number_, .ref h0_was, .ref h0_readChoices, .int readMany_, .ref h0_open, .ref h0_wayOf, .int bestThen_, .ref h0_cure, .ref h0_left, .ref h0_satIn])), (h0_choices, .inl (cyI, 24, .inl choices_))] H := hP
      have hD : va_D A [(h0, .inr (6, [.int 0, .int told_, .ref h0_row, .int columns_, .int rooms_, .int many_, .ref h0_subjectOf, .ref h0_teacherOf, .ref h0_seatsOf, .ref h0_columnOf, .ref h0_barsOf, .int pupils_, .ref h0_choices, .int kept_, .ref h0_tape, .int taped_, .int at_, .int to_, .int digit_, .int number_, .ref h0_was, .ref h0_readChoices, .int readMany_, .ref h0_open, .ref h0_wayOf, .int bestThen_, .ref h0_cure, .ref h0_left, .ref h0_satIn])), (h0_choices, .inl (cyI, 24, .inl choices_))] := hD
      refine lv_iload_n hx hb dX6_chooses_32 rfl (lv_at hl 3 rfl) ?_
      refine lv_icmp_ne (tgt := 39) hx hb dX6_chooses_33 (by decide) (fun c_ => ?_) (fun c_ => ?_)
      · have h := (if_neg c_).symm.trans h
        refine lv_aload_n hx hb dX6_chooses_39 rfl (lv_at hl 0 rfl) ?_
        refine va_get (D := (dC, dI)) (ci := 6) (v := .ref h0_choices) (C := RX6) (T := TX6) (N := 29) hx hb hts hiX6 hown hK hP 0 rfl rfl 12 (by decide) (hts (.fieldLink RX6 35 "OptionLatticeModel" "choices" "[I") (by decide +kernel)) (fun _ h9 => h9) rfl dX6_chooses_40 ?_
        refine lv_iload_n hx hb dX6_chooses_43 rfl (lv_at hl 1 rfl) ?_
        obtain ⟨g_, h⟩ := gd_some h
        refine va_iald hx hb hK hP 1 1 rfl rfl (inb_in g_) dX6_chooses_44 ?_
        refine lv_iconst (v := 1) hx hb dX6_chooses_45 (by decide) ?_
        refine lv_iload_n hx hb dX6_chooses_46 rfl (lv_at hl 2 rfl) ?_
        refine lv_ishl hx hb dX6_chooses_47 ?_
        refine lv_ixor hx hb dX6_chooses_48 ?_
        refine lv_topi (fun v4_4 e_v4_4 => ?_)
        have h := lt_use e_v4_4 h
        refine lv_istore (lv' := [(4, .int v4_4), (0, .ref h0), (1, .int v1), (2, .int v2), (3, .int v3)]) hx hb dX6_chooses_49 hl (by decide) rfl (fun ls hl => ?_)
        refine lv_iload hx hb dX6_chooses_51 (lv_at hl 0 rfl) ?_
        obtain ⟨r_5, hq, h⟩ := bd1_some h
        refine uS_i (As := [.int v4_4]) (rest := []) ⟨hx, hb, hml, hown, hts⟩ (c_X6_bits l dC dI cyC cyI cyJ v4_4 r_5 hq) (va_cwS 1 hts gX6_chooses_X6_bits rfl rfl rfl (by decide +kernel) ⟨Nat.le_of_ble_eq_true rfl, Nat.le_of_ble_eq_true rfl⟩) hK hE hA hP hD hS [] rfl rfl rfl rfl hl.1 rfl (Nat.le_of_ble_eq_true rfl) ⟨Nat.zero_le _, Nat.zero_le _⟩ dX6_chooses_53 (fun H locs hP hD hS => ?_)
        have hP : va_P (dC, dI) vwCl [(h0, .inr (6, [.int 0, .int told_, .ref h0_row, .int columns_, .int rooms_, .int many_, .ref h0_subjectOf, .ref h0_teacherOf, .ref h0_seatsOf, .ref h0_columnOf, .ref h0_barsOf, .int pupils_, .ref h0_choices, .int kept_, .ref h0_tape, .int taped_, .int at_, .int to_, .int digit_, .int number_, .ref h0_was, .ref h0_readChoices, .int readMany_, .ref h0_open, .ref h0_wayOf, .int bestThen_, .ref h0_cure, .ref h0_left, .ref h0_satIn])), (h0_choices, .inl (cyI, 24, .inl choices_))] H := hP
        have hD : va_D A [(h0, .inr (6, [.int 0, .int told_, .ref h0_row, .int columns_, .int rooms_, .int many_, .ref h0_subjectOf, .ref h0_teacherOf, .ref h0_seatsOf, .ref h0_columnOf, .ref h0_barsOf, .int pupils_, .ref h0_choices, .int kept_, .ref h0_tape, .int taped_, .int at_, .int to_, .int digit_, .int number_, .ref h0_was, .ref h0_readChoices, .int readMany_, .ref h0_open, .ref h0_wayOf, .int bestThen_, .ref h0_cure, .ref h0_left, .ref h0_satIn])), (h0_choices, .inl (cyI, 24, .inl choices_))] := hD
        refine lv_i2l (v := (Int32.toInt64 r_5)) hx hb dX6_chooses_56 rfl ?_
        refine lv_lconst (v := 1) hx hb dX6_chooses_57 (by decide) ?_
        refine lv_ldc2 hx hb hown (hts (.constantLong RX6 219 (6)) (by decide +kernel)) dX6_chooses_58 ?_
        obtain ⟨r_6, hq, h⟩ := bd1_some h
        refine uS_i (As := [.long (Int32.toInt64 r_5), .long 1, .long 6]) (rest := []) ⟨hx, hb, hml, hown, hts⟩ (c_X6_in l dC dI cyC cyI cyJ (Int32.toInt64 r_5) 1 6 r_6 hq) (va_cwS 3 hts gX6_chooses_X6_in rfl rfl rfl (by decide +kernel) ⟨Nat.le_of_ble_eq_true rfl, Nat.le_of_ble_eq_true rfl⟩) hK hE hA hP hD hS [] rfl rfl rfl rfl hl.1 rfl (Nat.le_of_ble_eq_true rfl) ⟨Nat.zero_le _, Nat.zero_le _⟩ dX6_chooses_61 (fun H locs hP hD hS => ?_)
        have hP : va_P (dC, dI) vwCl [(h0, .inr (6, [.int 0, .int told_, .ref h0_row, .int columns_, .int rooms_, .int many_, .ref h0_subjectOf, .ref h0_teacherOf, .ref h0_seatsOf, .ref h0_columnOf, .ref h0_barsOf, .int pupils_, .ref h0_choices, .int kept_, .ref h0_tape, .int taped_, .int at_, .int to_, .int digit_, .int number_, .ref h0_was, .ref h0_readChoices, .int readMany_, .ref h0_open, .ref h0_wayOf, .int bestThen_, .ref h0_cure, .ref h0_left, .ref h0_satIn])), (h0_choices, .inl (cyI, 24, .inl choices_))] H := hP
        have hD : va_D A [(h0, .inr (6, [.int 0, .int told_, .ref h0_row, .int columns_, .int rooms_, .int many_, .ref h0_subjectOf, .ref h0_teacherOf, .ref h0_seatsOf, .ref h0_columnOf, .ref h0_barsOf, .int pupils_, .ref h0_choices, .int kept_, .ref h0_tape, .int taped_, .int at_, .int to_, .int digit_, .int number_, .ref h0_was, .ref h0_readChoices, .int readMany_, .ref h0_open, .ref h0_wayOf, .int bestThen_, .ref h0_cure, .ref h0_left, .ref h0_satIn])), (h0_choices, .inl (cyI, 24, .inl choices_))] := hD
        refine lv_if_ne (tgt := 70) hx hb dX6_chooses_64 (by decide) (fun c_ => ?_) (fun c_ => ?_)
        · have h := (if_neg c_).symm.trans h
          refine lv_aload_n hx hb dX6_chooses_70 rfl (lv_at hl 1 rfl) ?_
          refine va_get (D := (dC, dI)) (ci := 6) (v := .ref h0_choices) (C := RX6) (T := TX6) (N := 29) hx hb hts hiX6 hown hK hP 0 rfl rfl 12 (by decide) (hts (.fieldLink RX6 35 "OptionLatticeModel" "choices" "[I") (by decide +kernel)) (fun _ h9 => h9) rfl dX6_chooses_71 ?_
          refine lv_iload_n hx hb dX6_chooses_74 rfl (lv_at hl 2 rfl) ?_
          refine lv_iload hx hb dX6_chooses_75 (lv_at hl 0 rfl) ?_
          obtain ⟨g_, h⟩ := gd_some h
          refine va_iast hx hb hK hP hD hS 1 1 rfl rfl (inb_in g_) dX6_chooses_77 (fun H locs hP hD hS => ?_)
          have hP : va_P (dC, dI) vwCl [(h0, .inr (6, [.int 0, .int told_, .ref h0_row, .int columns_, .int rooms_, .int many_, .ref h0_subjectOf, .ref h0_teacherOf, .ref h0_seatsOf, .ref h0_columnOf, .ref h0_barsOf, .int pupils_, .ref h0_choices, .int kept_, .ref h0_tape, .int taped_, .int at_, .int to_, .int digit_, .int number_, .ref h0_was, .ref h0_readChoices, .int readMany_, .ref h0_open, .ref h0_wayOf, .int bestThen_, .ref h0_cure, .ref h0_left, .ref h0_satIn])), (h0_choices, .inl (cyI, 24, .inl (upd choices_ v1.toNatClampNeg v4_4)))] H := hP
          have hD : va_D A [(h0, .inr (6, [.int 0, .int told_, .ref h0_row, .int columns_, .int rooms_, .int many_, .ref h0_subjectOf, .ref h0_teacherOf, .ref h0_seatsOf, .ref h0_columnOf, .ref h0_barsOf, .int pupils_, .ref h0_choices, .int kept_, .ref h0_tape, .int taped_, .int at_, .int to_, .int digit_, .int number_, .ref h0_was, .ref h0_readChoices, .int readMany_, .ref h0_open, .ref h0_wayOf, .int bestThen_, .ref h0_cure, .ref h0_left, .ref h0_satIn])), (h0_choices, .inl (cyI, 24, .inl (upd choices_ v1.toNatClampNeg v4_4)))] := hD
          refine lv_iload hx hb dX6_chooses_78 (lv_at hl 0 rfl) ?_
          have h : some (v4_4, 0, (upd choices_ v1.toNatClampNeg v4_4)) = some (rr, o0, o1) := h
          have z0 := Option.some.inj h
          obtain ⟨rfl, z1⟩ := Prod.mk.inj z0
          obtain ⟨rfl, z2⟩ := Prod.mk.inj z1
          obtain rfl := z2
          exact hret _ _ _ _ hP hS rfl dX6_chooses_80
        · have h := (if_pos c_).symm.trans h
          refine lv_bipush (v := (-3)) hx hb dX6_chooses_67 (by decide) ?_
          have h : some ((-3), 0, choices_) = some (rr, o0, o1) := h
          have z0 := Option.some.inj h
          obtain ⟨rfl, z1⟩ := Prod.mk.inj z0
          obtain ⟨rfl, z2⟩ := Prod.mk.inj z1
          obtain rfl := z2
          exact hret _ _ _ _ hP hS rfl dX6_chooses_69
      · have h := (if_pos c_).symm.trans h
        refine lv_bipush (v := (-2)) hx hb dX6_chooses_36 (by decide) ?_
        have h : some ((-2), 0, choices_) = some (rr, o0, o1) := h
        have z0 := Option.some.inj h
        obtain ⟨rfl, z1⟩ := Prod.mk.inj z0
        obtain ⟨rfl, z2⟩ := Prod.mk.inj z1
        obtain rfl := z2
        exact hret _ _ _ _ hP hS rfl dX6_chooses_38
    · have h := (if_pos c_).symm.trans h
      refine lv_iconst (v := (-1)) hx hb dX6_chooses_20 (by decide) ?_
      have h : some ((-1), 0, choices_) = some (rr, o0, o1) := h
      have z0 := Option.some.inj h
      obtain ⟨rfl, z1⟩ := Prod.mk.inj z0
      obtain ⟨rfl, z2⟩ := Prod.mk.inj z1
      obtain rfl := z2
      exact hret _ _ _ _ hP hS rfl dX6_chooses_21

def m_X6_keeps (thrown_ : Int32) (pupils_ : Int32) (kept_ : Int32) (v1 : Int32) (v2 : Int32) : Option (Int32 × Int32 × Int32) :=
  bd1 (m_X6_isPupil pupils_ v1) (fun r_1 => (if r_1 = 0 then some ((-1), 0, kept_) else bd1 (m_X6_has kept_ v1) (fun r_2 => (if r_2 = v2 then some ((-2), 0, kept_) else lt' (kept_ ^^^ ((1 : Int32) <<< (v1 &&& 31))) (fun w_3 => bd1 (m_X6_bits w_3) (fun r_4 => some (r_4, 0, w_3)))))))
abbrev rmX6_keeps : Room := { frames := 2, cells := 0, slots := 0, locals := 46 }
set_option maxHeartbeats 4000000 in
set_option maxRecDepth 100000 in
theorem c_X6_keeps (l : Launch) (dC : Nat → ClassId) (dI : Nat → Nat → Nat) (cyC cyI cyJ : ClassId) (h0 h0_row h0_subjectOf h0_teacherOf h0_seatsOf h0_columnOf h0_barsOf h0_choices h0_tape h0_was h0_readChoices h0_open h0_wayOf h0_cure h0_left h0_satIn : Nat) (thrown_ : Int32) (told_ : Int32) (columns_ : Int32) (rooms_ : Int32) (many_ : Int32) (pupils_ : Int32) (kept_ : Int32) (taped_ : Int32) (at_ : Int32) (to_ : Int32) (digit_ : Int32) (number_ : Int32) (readMany_ : Int32) (bestThen_ : Int32) (v1 : Int32) (v2 : Int32) (rr : Int32) (o0 : Int32) (o1 : Int32) (h : m_X6_keeps thrown_ pupils_ kept_ v1 v2 = some (rr, o0, o1)) : uMi l yX6_keeps wsX6_keeps rmX6_keeps (dC, dI) [(cyC, .char), (cyI, .int), (cyJ, .long)] [.ref h0, .int v1, .int v2] [(h0, .inr (6, [.int thrown_, .int told_, .ref h0_row, .int columns_, .int rooms_, .int many_, .ref h0_subjectOf, .ref h0_teacherOf, .ref h0_seatsOf, .ref h0_columnOf, .ref h0_barsOf, .int pupils_, .ref h0_choices, .int kept_, .ref h0_tape, .int taped_, .int at_, .int to_, .int digit_, .int number_, .ref h0_was, .ref h0_readChoices, .int readMany_, .ref h0_open, .ref h0_wayOf, .int bestThen_, .ref h0_cure, .ref h0_left, .ref h0_satIn]))] [(h0, .inr (6, [.int o0, .int told_, .ref h0_row, .int columns_, .int rooms_, .int many_, .ref h0_subjectOf, .ref h0_teacherOf, .ref h0_seatsOf, .ref h0_columnOf, .ref h0_barsOf, .int pupils_, .ref h0_choices, .int o1, .ref h0_tape, .int taped_, .int at_, .int to_, .int digit_, .int number_, .ref h0_was, .ref h0_readChoices, .int readMany_, .ref h0_open, .ref h0_wayOf, .int bestThen_, .ref h0_cure, .ref h0_left, .ref h0_satIn]))] rr := by
  refine uMi.of (cc := cX6_keeps) (maxL := 3) (by decide) rfl (Nat.le_of_ble_eq_true rfl) (fun p e s m args below meth c A ls Q hx hb hml hown hts hA hP hK hD hE hS hl hret => ?_)
  have hown : s.vm.findClass RX6 = some m.cls := hown
  have hl : lv_has ls 3 [(0, .ref h0), (1, .int v1), (2, .int v2)] := hl
  have hiX6 : ∀ w ∈ u_ws RX6 TX6 29, w ∈ wsX6_keeps := fun _ h9 => List.mem_cons_of_mem _ (List.mem_append_right _ h9)
  unfold m_X6_keeps at h
  refine lv_aload_n hx hb dX6_keeps_0 rfl (lv_at hl 0 rfl) ?_
  refine lv_iconst (v := 0) hx hb dX6_keeps_1 (by decide) ?_
  refine va_put (D := (dC, dI)) (ci := 6) (v := .int 0) (ty := .int) (C := RX6) (T := TX6) (N := 29) hx hb hts hiX6 tyX6 tyX6_ok nmX6 hown hK hP hD hS 0 rfl rfl 0 (by decide) (hts (.fieldLink RX6 62 "OptionLatticeModel" "thrown" "I") (by decide +kernel)) (fun _ h9 => h9) rfl (by decide +kernel) rfl rfl (Nat.le_of_ble_eq_true rfl) dX6_keeps_2 (fun H locs hP hD hS => ?_)
  have hP : va_P (dC, dI) vwCl [(h0, .inr (6, [.int 0, .int told_, .ref h0_row, .int columns_, .int rooms_, .int many_, .ref h0_subjectOf, .ref h0_teacherOf, .ref h0_seatsOf, .ref h0_columnOf, .ref h0_barsOf, .int pupils_, .ref h0_choices, .int kept_, .ref h0_tape, .int taped_, .int at_, .int to_, .int digit_, .int number_, .ref h0_was, .ref h0_readChoices, .int readMany_, .ref h0_open, .ref h0_wayOf, .int bestThen_, .ref h0_cure, .ref h0_left, .ref h0_satIn]))] H := hP
  have hD : va_D A [(h0, .inr (6, [.int 0, .int told_, .ref h0_row, .int columns_, .int rooms_, .int many_, .ref h0_subjectOf, .ref h0_teacherOf, .ref h0_seatsOf, .ref h0_columnOf, .ref h0_barsOf, .int pupils_, .ref h0_choices, .int kept_, .ref h0_tape, .int taped_, .int at_, .int to_, .int digit_, .int number_, .ref h0_was, .ref h0_readChoices, .int readMany_, .ref h0_open, .ref h0_wayOf, .int bestThen_, .ref h0_cure, .ref h0_left, .ref h0_satIn]))] := hD
  refine lv_aload_n hx hb dX6_keeps_5 rfl (lv_at hl 0 rfl) ?_
  refine lv_iload_n hx hb dX6_keeps_6 rfl (lv_at hl 1 rfl) ?_
  obtain ⟨r_1, hq, h⟩ := bd1_some h
  refine uV_i (b := h0) (As := [.int v1]) (rest := []) ⟨hx, hb, hml, hown, hts⟩ (c_X6_isPupil l dC dI cyC cyI cyJ h0 h0_row h0_subjectOf h0_teacherOf h0_seatsOf h0_columnOf h0_barsOf h0_choices h0_tape h0_was h0_readChoices h0_open h0_wayOf h0_cure h0_left h0_satIn 0 told_ columns_ rooms_ many_ pupils_ kept_ taped_ at_ to_ digit_ number_ readMany_ bestThen_ v1 r_1 hq) (cwV 1 hts gX6_keeps_X6_isPupil rfl rfl rfl (by decide +kernel) ⟨Nat.le_of_ble_eq_true rfl, Nat.le_of_ble_eq_true rfl⟩) hK hE hA hP hD hS [0] rfl rfl rfl 6 0 rfl rfl rfl hl.1 rfl (Nat.le_of_ble_eq_true rfl) ⟨Nat.zero_le _, Nat.zero_le _⟩ dX6_keeps_7 (fun H locs hP hD hS => ?_)
  have hP : va_P (dC, dI) vwCl [(h0, .inr (6, [.int 0, .int told_, .ref h0_row, .int columns_, .int rooms_, .int many_, .ref h0_subjectOf, .ref h0_teacherOf, .ref h0_seatsOf, .ref h0_columnOf, .ref h0_barsOf, .int pupils_, .ref h0_choices, .int kept_, .ref h0_tape, .int taped_, .int at_, .int to_, .int digit_, .int number_, .ref h0_was, .ref h0_readChoices, .int readMany_, .ref h0_open, .ref h0_wayOf, .int bestThen_, .ref h0_cure, .ref h0_left, .ref h0_satIn]))] H := hP
  have hD : va_D A [(h0, .inr (6, [.int 0, .int told_, .ref h0_row, .int columns_, .int rooms_, .int many_, .ref h0_subjectOf, .ref h0_teacherOf, .ref h0_seatsOf, .ref h0_columnOf, .ref h0_barsOf, .int pupils_, .ref h0_choices, .int kept_, .ref h0_tape, .int taped_, .int at_, .int to_, .int digit_, .int number_, .ref h0_was, .ref h0_readChoices, .int readMany_, .ref h0_open, .ref h0_wayOf, .int bestThen_, .ref h0_cure, .ref h0_left, .ref h0_satIn]))] := hD
  refine lv_if_ne (tgt := 15) hx hb dX6_keeps_10 (by decide) (fun c_ => ?_) (fun c_ => ?_)
  · have h := (if_neg c_).symm.trans h
    refine lv_aload_n hx hb dX6_keeps_15 rfl (lv_at hl 0 rfl) ?_
    refine va_get (D := (dC, dI)) (ci := 6) (v := .int kept_) (C := RX6) (T := TX6) (N := 29) hx hb hts hiX6 hown hK hP 0 rfl rfl 13 (by decide) (hts (.fieldLink RX6 158 "OptionLatticeModel" "kept" "I") (by decide +kernel)) (fun _ h9 => h9) rfl dX6_keeps_16 ?_
    refine lv_iload_n hx hb dX6_keeps_19 rfl (lv_at hl 1 rfl) ?_
    obtain ⟨r_2, hq, h⟩ := bd1_some h
    refine uS_i (As := [.int kept_, .int v1]) (rest := []) ⟨hx, hb, hml, hown, hts⟩ (c_X6_has l dC dI cyC cyI cyJ kept_ v1 r_2 hq) (va_cwS 2 hts gX6_keeps_X6_has rfl rfl rfl (by decide +kernel) ⟨Nat.le_of_ble_eq_true rfl, Nat.le_of_ble_eq_true rfl⟩) hK hE hA hP hD hS [] rfl rfl rfl rfl hl.1 rfl (Nat.le_of_ble_eq_true rfl) ⟨Nat.zero_le _, Nat.zero_le _⟩ dX6_keeps_20 (fun H locs hP hD hS => ?_)
    have hP : va_P (dC, dI) vwCl [(h0, .inr (6, [.int 0, .int told_, .ref h0_row, .int columns_, .int rooms_, .int many_, .ref h0_subjectOf, .ref h0_teacherOf, .ref h0_seatsOf, .ref h0_columnOf, .ref h0_barsOf, .int pupils_, .ref h0_choices, .int kept_, .ref h0_tape, .int taped_, .int at_, .int to_, .int digit_, .int number_, .ref h0_was, .ref h0_readChoices, .int readMany_, .ref h0_open, .ref h0_wayOf, .int bestThen_, .ref h0_cure, .ref h0_left, .ref h0_satIn]))] H := hP
    have hD : va_D A [(h0, .inr (6, [.int 0, .int told_, .ref h0_row, .int columns_, .int rooms_, .int many_, .ref h0_subjectOf, .ref h0_teacherOf, .ref h0_seatsOf, .ref h0_columnOf, .ref h0_barsOf, .int pupils_, .ref h0_choices, .int kept_, .ref h0_tape, .int taped_, .int at_, .int to_, .int digit_, .int number_, .ref h0_was, .ref h0_readChoices, .int readMany_, .ref h0_open, .ref h0_wayOf, .int bestThen_, .ref h0_cure, .ref h0_left, .ref h0_satIn]))] := hD
    refine lv_iload_n hx hb dX6_keeps_23 rfl (lv_at hl 2 rfl) ?_
    refine lv_icmp_ne (tgt := 30) hx hb dX6_keeps_24 (by decide) (fun c_ => ?_) (fun c_ => ?_)
    · have h := (if_neg c_).symm.trans h
      refine lv_aload_n hx hb dX6_keeps_30 rfl (lv_at hl 0 rfl) ?_
      refine lv_dup hx hb dX6_keeps_31 rfl ?_
      refine va_get (D := (dC, dI)) (ci := 6) (v := .int kept_) (C := RX6) (T := TX6) (N := 29) hx hb hts hiX6 hown hK hP 0 rfl rfl 13 (by decide) (hts (.fieldLink RX6 158 "OptionLatticeModel" "kept" "I") (by decide +kernel)) (fun _ h9 => h9) rfl dX6_keeps_32 ?_
      refine lv_iconst (v := 1) hx hb dX6_keeps_35 (by decide) ?_
      refine lv_iload_n hx hb dX6_keeps_36 rfl (lv_at hl 1 rfl) ?_
      refine lv_ishl hx hb dX6_keeps_37 ?_
      refine lv_ixor hx hb dX6_keeps_38 ?_
      refine lv_topi (fun w_3 e_w_3 => ?_)
      have h := lt_use e_w_3 h
      refine va_put (D := (dC, dI)) (ci := 6) (v := .int w_3) (ty := .int) (C := RX6) (T := TX6) (N := 29) hx hb hts hiX6 tyX6 tyX6_ok nmX6 hown hK hP hD hS 0 rfl rfl 13 (by decide) (hts (.fieldLink RX6 158 "OptionLatticeModel" "kept" "I") (by decide +kernel)) (fun _ h9 => h9) rfl (by decide +kernel) rfl rfl (Nat.le_of_ble_eq_true rfl) dX6_keeps_39 (fun H locs hP hD hS => ?_)
      have hP : va_P (dC, dI) vwCl [(h0, .inr (6, [.int 0, .int told_, .ref h0_row, .int columns_, .int rooms_, .int many_, .ref h0_subjectOf, .ref h0_teacherOf, .ref h0_seatsOf, .ref h0_columnOf, .ref h0_barsOf, .int pupils_, .ref h0_choices, .int w_3, .ref h0_tape, .int taped_, .int at_, .int to_, .int digit_, .int number_, .ref h0_was, .ref h0_readChoices, .int readMany_, .ref h0_open, .ref h0_wayOf, .int bestThen_, .ref h0_cure, .ref h0_left, .ref h0_satIn]))] H := hP
      have hD : va_D A [(h0, .inr (6, [.int 0, .int told_, .ref h0_row, .int columns_, .int rooms_, .int many_, .ref h0_subjectOf, .ref h0_teacherOf, .ref h0_seatsOf, .ref h0_columnOf, .ref h0_barsOf, .int pupils_, .ref h0_choices, .int w_3, .ref h0_tape, .int taped_, .int at_, .int to_, .int digit_, .int number_, .ref h0_was, .ref h0_readChoices, .int readMany_, .ref h0_open, .ref h0_wayOf, .int bestThen_, .ref h0_cure, .ref h0_left, .ref h0_satIn]))] := hD
      refine lv_aload_n hx hb dX6_keeps_42 rfl (lv_at hl 0 rfl) ?_
      refine va_get (D := (dC, dI)) (ci := 6) (v := .int w_3) (C := RX6) (T := TX6) (N := 29) hx hb hts hiX6 hown hK hP 0 rfl rfl 13 (by decide) (hts (.fieldLink RX6 158 "OptionLatticeModel" "kept" "I") (by decide +kernel)) (fun _ h9 => h9) rfl dX6_keeps_43 ?_
      obtain ⟨r_4, hq, h⟩ := bd1_some h
      refine uS_i (As := [.int w_3]) (rest := []) ⟨hx, hb, hml, hown, hts⟩ (c_X6_bits l dC dI cyC cyI cyJ w_3 r_4 hq) (va_cwS 1 hts gX6_keeps_X6_bits rfl rfl rfl (by decide +kernel) ⟨Nat.le_of_ble_eq_true rfl, Nat.le_of_ble_eq_true rfl⟩) hK hE hA hP hD hS [] rfl rfl rfl rfl hl.1 rfl (Nat.le_of_ble_eq_true rfl) ⟨Nat.zero_le _, Nat.zero_le _⟩ dX6_keeps_46 (fun H locs hP hD hS => ?_)
      have hP : va_P (dC, dI) vwCl [(h0, .inr (6, [.int 0, .int told_, .ref h0_row, .int columns_, .int rooms_, .int many_, .ref h0_subjectOf, .ref h0_teacherOf, .ref h0_seatsOf, .ref h0_columnOf, .ref h0_barsOf, .int pupils_, .ref h0_choices, .int w_3, .ref h0_tape, .int taped_, .int at_, .int to_, .int digit_, .int number_, .ref h0_was, .ref h0_readChoices, .int readMany_, .ref h0_open, .ref h0_wayOf, .int bestThen_, .ref h0_cure, .ref h0_left, .ref h0_satIn]))] H := hP
      have hD : va_D A [(h0, .inr (6, [.int 0, .int told_, .ref h0_row, .int columns_, .int rooms_, .int many_, .ref h0_subjectOf, .ref h0_teacherOf, .ref h0_seatsOf, .ref h0_columnOf, .ref h0_barsOf, .int pupils_, .ref h0_choices, .int w_3, .ref h0_tape, .int taped_, .int at_, .int to_, .int digit_, .int number_, .ref h0_was, .ref h0_readChoices, .int readMany_, .ref h0_open, .ref h0_wayOf, .int bestThen_, .ref h0_cure, .ref h0_left, .ref h0_satIn]))] := hD
      have h : some (r_4, 0, w_3) = some (rr, o0, o1) := h
      have z0 := Option.some.inj h
      obtain ⟨rfl, z1⟩ := Prod.mk.inj z0
      obtain ⟨rfl, z2⟩ := Prod.mk.inj z1
      obtain rfl := z2
      exact hret _ _ _ _ hP hS rfl dX6_keeps_49
    · have h := (if_pos c_).symm.trans h
      refine lv_bipush (v := (-2)) hx hb dX6_keeps_27 (by decide) ?_
      have h : some ((-2), 0, kept_) = some (rr, o0, o1) := h
      have z0 := Option.some.inj h
      obtain ⟨rfl, z1⟩ := Prod.mk.inj z0
      obtain ⟨rfl, z2⟩ := Prod.mk.inj z1
      obtain rfl := z2
      exact hret _ _ _ _ hP hS rfl dX6_keeps_29
  · have h := (if_pos c_).symm.trans h
    refine lv_iconst (v := (-1)) hx hb dX6_keeps_13 (by decide) ?_
    have h : some ((-1), 0, kept_) = some (rr, o0, o1) := h
    have z0 := Option.some.inj h
    obtain ⟨rfl, z1⟩ := Prod.mk.inj z0
    obtain ⟨rfl, z2⟩ := Prod.mk.inj z1
    obtain rfl := z2
    exact hret _ _ _ _ hP hS rfl dX6_keeps_14

def m_X6_section (thrown_ : Int32) (many_ : Int32) (subjectOf_ : Nat → Int32) (teacherOf_ : Nat → Int32) (seatsOf_ : Nat → Int32) (columnOf_ : Nat → Int32) (v1 : Int32) (v2 : Int32) : Option (Int32 × Int32) :=
  bd1 (m_X6_isSection many_ v1) (fun r_1 => (if r_1 = 0 then some ((-1), 0) else (if v2 = 0 then gd (inb v1 17) (some ((subjectOf_ v1.toNatClampNeg), 0)) else (if v2 = 1 then gd (inb v1 17) (some ((teacherOf_ v1.toNatClampNeg), 0)) else (if v2 = 2 then gd (inb v1 17) (some ((seatsOf_ v1.toNatClampNeg), 0)) else (if v2 = 3 then gd (inb v1 17) (some ((columnOf_ v1.toNatClampNeg), 0)) else some ((-1), 0)))))))
abbrev rmX6_section : Room := { frames := 2, cells := 0, slots := 0, locals := 46 }
set_option maxHeartbeats 4000000 in
set_option maxRecDepth 100000 in
theorem c_X6_section (l : Launch) (dC : Nat → ClassId) (dI : Nat → Nat → Nat) (cyC cyI cyJ : ClassId) (h0 h0_row h0_subjectOf h0_teacherOf h0_seatsOf h0_columnOf h0_barsOf h0_choices h0_tape h0_was h0_readChoices h0_open h0_wayOf h0_cure h0_left h0_satIn : Nat) (thrown_ : Int32) (told_ : Int32) (columns_ : Int32) (rooms_ : Int32) (many_ : Int32) (pupils_ : Int32) (kept_ : Int32) (taped_ : Int32) (at_ : Int32) (to_ : Int32) (digit_ : Int32) (number_ : Int32) (readMany_ : Int32) (bestThen_ : Int32) (subjectOf_ : Nat → Int32) (teacherOf_ : Nat → Int32) (seatsOf_ : Nat → Int32) (columnOf_ : Nat → Int32) (v1 : Int32) (v2 : Int32) (rr : Int32) (o0 : Int32) (h : m_X6_section thrown_ many_ subjectOf_ teacherOf_ seatsOf_ columnOf_ v1 v2 = some (rr, o0)) : uMi l yX6_section wsX6_section rmX6_section (dC, dI) [(cyC, .char), (cyI, .int), (cyJ, .long)] [.ref h0, .int v1, .int v2] [(h0, .inr (6, [.int thrown_, .int told_, .ref h0_row, .int columns_, .int rooms_, .int many_, .ref h0_subjectOf, .ref h0_teacherOf, .ref h0_seatsOf, .ref h0_columnOf, .ref h0_barsOf, .int pupils_, .ref h0_choices, .int kept_, .ref h0_tape, .int taped_, .int at_, .int to_, .int digit_, .int number_, .ref h0_was, .ref h0_readChoices, .int readMany_, .ref h0_open, .ref h0_wayOf, .int bestThen_, .ref h0_cure, .ref h0_left, .ref h0_satIn])), (h0_subjectOf, .inl (cyI, 17, .inl subjectOf_)), (h0_teacherOf, .inl (cyI, 17, .inl teacherOf_)), (h0_seatsOf, .inl (cyI, 17, .inl seatsOf_)), (h0_columnOf, .inl (cyI, 17, .inl columnOf_))] [(h0, .inr (6, [.int o0, .int told_, .ref h0_row, .int columns_, .int rooms_, .int many_, .ref h0_subjectOf, .ref h0_teacherOf, .ref h0_seatsOf, .ref h0_columnOf, .ref h0_barsOf, .int pupils_, .ref h0_choices, .int kept_, .ref h0_tape, .int taped_, .int at_, .int to_, .int digit_, .int number_, .ref h0_was, .ref h0_readChoices, .int readMany_, .ref h0_open, .ref h0_wayOf, .int bestThen_, .ref h0_cure, .ref h0_left, .ref h0_satIn])), (h0_subjectOf, .inl (cyI, 17, .inl subjectOf_)), (h0_teacherOf, .inl (cyI, 17, .inl teacherOf_)), (h0_seatsOf, .inl (cyI, 17, .inl seatsOf_)), (h0_columnOf, .inl (cyI, 17, .inl columnOf_))] rr := by
  refine uMi.of (cc := cX6_section) (maxL := 3) (by decide) rfl (Nat.le_of_ble_eq_true rfl) (fun p e s m args below meth c A ls Q hx hb hml hown hts hA hP hK hD hE hS hl hret => ?_)
  have hown : s.vm.findClass RX6 = some m.cls := hown
  have hl : lv_has ls 3 [(0, .ref h0), (1, .int v1), (2, .int v2)] := hl
  have hiX6 : ∀ w ∈ u_ws RX6 TX6 29, w ∈ wsX6_section := fun _ h9 => List.mem_cons_of_mem _ (List.mem_append_right _ h9)
  unfold m_X6_section at h
  refine lv_aload_n hx hb dX6_section_0 rfl (lv_at hl 0 rfl) ?_
  refine lv_iconst (v := 0) hx hb dX6_section_1 (by decide) ?_
  refine va_put (D := (dC, dI)) (ci := 6) (v := .int 0) (ty := .int) (C := RX6) (T := TX6) (N := 29) hx hb hts hiX6 tyX6 tyX6_ok nmX6 hown hK hP hD hS 0 rfl rfl 0 (by decide) (hts (.fieldLink RX6 62 "OptionLatticeModel" "thrown" "I") (by decide +kernel)) (fun _ h9 => h9) rfl (by decide +kernel) rfl rfl (Nat.le_of_ble_eq_true rfl) dX6_section_2 (fun H locs hP hD hS => ?_)
  have hP : va_P (dC, dI) vwCl [(h0, .inr (6, [.int 0, .int told_, .ref h0_row, .int columns_, .int rooms_, .int many_, .ref h0_subjectOf, .ref h0_teacherOf, .ref h0_seatsOf, .ref h0_columnOf, .ref h0_barsOf, .int pupils_, .ref h0_choices, .int kept_, .ref h0_tape, .int taped_, .int at_, .int to_, .int digit_, .int number_, .ref h0_was, .ref h0_readChoices, .int readMany_, .ref h0_open, .ref h0_wayOf, .int bestThen_, .ref h0_cure, .ref h0_left, .ref h0_satIn])), (h0_subjectOf, .inl (cyI, 17, .inl subjectOf_)), (h0_teacherOf, .inl (cyI, 17, .inl teacherOf_)), (h0_seatsOf, .inl (cyI, 17, .inl seatsOf_)), (h0_columnOf, .inl (cyI, 17, .inl columnOf_))] H := hP
  have hD : va_D A [(h0, .inr (6, [.int 0, .int told_, .ref h0_row, .int columns_, .int rooms_, .int many_, .ref h0_subjectOf, .ref h0_teacherOf, .ref h0_seatsOf, .ref h0_columnOf, .ref h0_barsOf, .int pupils_, .ref h0_choices, .int kept_, .ref h0_tape, .int taped_, .int at_, .int to_, .int digit_, .int number_, .ref h0_was, .ref h0_readChoices, .int readMany_, .ref h0_open, .ref h0_wayOf, .int bestThen_, .ref h0_cure, .ref h0_left, .ref h0_satIn])), (h0_subjectOf, .inl (cyI, 17, .inl subjectOf_)), (h0_teacherOf, .inl (cyI, 17, .inl teacherOf_)), (h0_seatsOf, .inl (cyI, 17, .inl seatsOf_)), (h0_columnOf, .inl (cyI, 17, .inl columnOf_))] := hD
  refine lv_aload_n hx hb dX6_section_5 rfl (lv_at hl 0 rfl) ?_
  refine lv_iload_n hx hb dX6_section_6 rfl (lv_at hl 1 rfl) ?_
  obtain ⟨r_1, hq, h⟩ := bd1_some h
  refine uV_i (b := h0) (As := [.int v1]) (rest := []) ⟨hx, hb, hml, hown, hts⟩ (c_X6_isSection l dC dI cyC cyI cyJ h0 h0_row h0_subjectOf h0_teacherOf h0_seatsOf h0_columnOf h0_barsOf h0_choices h0_tape h0_was h0_readChoices h0_open h0_wayOf h0_cure h0_left h0_satIn 0 told_ columns_ rooms_ many_ pupils_ kept_ taped_ at_ to_ digit_ number_ readMany_ bestThen_ v1 r_1 hq) (cwV 1 hts gX6_section_X6_isSection rfl rfl rfl (by decide +kernel) ⟨Nat.le_of_ble_eq_true rfl, Nat.le_of_ble_eq_true rfl⟩) hK hE hA hP hD hS [0] rfl rfl rfl 6 0 rfl rfl rfl hl.1 rfl (Nat.le_of_ble_eq_true rfl) ⟨Nat.zero_le _, Nat.zero_le _⟩ dX6_section_7 (fun H locs hP hD hS => ?_)
  have hP : va_P (dC, dI) vwCl [(h0, .inr (6, [.int 0, .int told_, .ref h0_row, .int columns_, .int rooms_, .int many_, .ref h0_subjectOf, .ref h0_teacherOf, .ref h0_seatsOf, .ref h0_columnOf, .ref h0_barsOf, .int pupils_, .ref h0_choices, .int kept_, .ref h0_tape, .int taped_, .int at_, .int to_, .int digit_, .int number_, .ref h0_was, .ref h0_readChoices, .int readMany_, .ref h0_open, .ref h0_wayOf, .int bestThen_, .ref h0_cure, .ref h0_left, .ref h0_satIn])), (h0_subjectOf, .inl (cyI, 17, .inl subjectOf_)), (h0_teacherOf, .inl (cyI, 17, .inl teacherOf_)), (h0_seatsOf, .inl (cyI, 17, .inl seatsOf_)), (h0_columnOf, .inl (cyI, 17, .inl columnOf_))] H := hP
  have hD : va_D A [(h0, .inr (6, [.int 0, .int told_, .ref h0_row, .int columns_, .int rooms_, .int many_, .ref h0_subjectOf, .ref h0_teacherOf, .ref h0_seatsOf, .ref h0_columnOf, .ref h0_barsOf, .int pupils_, .ref h0_choices, .int kept_, .ref h0_tape, .int taped_, .int at_, .int to_, .int digit_, .int number_, .ref h0_was, .ref h0_readChoices, .int readMany_, .ref h0_open, .ref h0_wayOf, .int bestThen_, .ref h0_cure, .ref h0_left, .ref h0_satIn])), (h0_subjectOf, .inl (cyI, 17, .inl subjectOf_)), (h0_teacherOf, .inl (cyI, 17, .inl teacherOf_)), (h0_seatsOf, .inl (cyI, 17, .inl seatsOf_)), (h0_columnOf, .inl (cyI, 17, .inl columnOf_))] := hD
  refine lv_if_ne (tgt := 15) hx hb dX6_section_10 (by decide) (fun c_ => ?_) (fun c_ => ?_)
  · have h := (if_neg c_).symm.trans h
    refine lv_iload_n hx hb dX6_section_15 rfl (lv_at hl 2 rfl) ?_
    by_cases c_0 : v2 = 0
    · have h := (if_pos c_0).symm.trans h
      refine lv_tableIn (tgt := 48) hx hb dX6_section_16 (by rw [c_0]; decide) (by rw [c_0]; decide) (by rw [c_0]; rfl) (by decide) ?_
      refine lv_aload_n hx hb dX6_section_48 rfl (lv_at hl 0 rfl) ?_
      refine va_get (D := (dC, dI)) (ci := 6) (v := .ref h0_subjectOf) (C := RX6) (T := TX6) (N := 29) hx hb hts hiX6 hown hK hP 0 rfl rfl 6 (by decide) (hts (.fieldLink RX6 20 "OptionLatticeModel" "subjectOf" "[I") (by decide +kernel)) (fun _ h9 => h9) rfl dX6_section_49 ?_
      refine lv_iload_n hx hb dX6_section_52 rfl (lv_at hl 1 rfl) ?_
      obtain ⟨g_, h⟩ := gd_some h
      refine va_iald hx hb hK hP 1 1 rfl rfl (inb_in g_) dX6_section_53 ?_
      have h : some ((subjectOf_ v1.toNatClampNeg), 0) = some (rr, o0) := h
      have z0 := Option.some.inj h
      obtain ⟨rfl, z1⟩ := Prod.mk.inj z0
      obtain rfl := z1
      exact hret _ _ _ _ hP hS rfl dX6_section_54
    have h := (if_neg c_0).symm.trans h
    by_cases c_1 : v2 = 1
    · have h := (if_pos c_1).symm.trans h
      refine lv_tableIn (tgt := 55) hx hb dX6_section_16 (by rw [c_1]; decide) (by rw [c_1]; decide) (by rw [c_1]; rfl) (by decide) ?_
      refine lv_aload_n hx hb dX6_section_55 rfl (lv_at hl 0 rfl) ?_
      refine va_get (D := (dC, dI)) (ci := 6) (v := .ref h0_teacherOf) (C := RX6) (T := TX6) (N := 29) hx hb hts hiX6 hown hK hP 0 rfl rfl 7 (by decide) (hts (.fieldLink RX6 23 "OptionLatticeModel" "teacherOf" "[I") (by decide +kernel)) (fun _ h9 => h9) rfl dX6_section_56 ?_
      refine lv_iload_n hx hb dX6_section_59 rfl (lv_at hl 1 rfl) ?_
      obtain ⟨g_, h⟩ := gd_some h
      refine va_iald hx hb hK hP 2 1 rfl rfl (inb_in g_) dX6_section_60 ?_
      have h : some ((teacherOf_ v1.toNatClampNeg), 0) = some (rr, o0) := h
      have z0 := Option.some.inj h
      obtain ⟨rfl, z1⟩ := Prod.mk.inj z0
      obtain rfl := z1
      exact hret _ _ _ _ hP hS rfl dX6_section_61
    have h := (if_neg c_1).symm.trans h
    by_cases c_2 : v2 = 2
    · have h := (if_pos c_2).symm.trans h
      refine lv_tableIn (tgt := 62) hx hb dX6_section_16 (by rw [c_2]; decide) (by rw [c_2]; decide) (by rw [c_2]; rfl) (by decide) ?_
      refine lv_aload_n hx hb dX6_section_62 rfl (lv_at hl 0 rfl) ?_
      refine va_get (D := (dC, dI)) (ci := 6) (v := .ref h0_seatsOf) (C := RX6) (T := TX6) (N := 29) hx hb hts hiX6 hown hK hP 0 rfl rfl 8 (by decide) (hts (.fieldLink RX6 26 "OptionLatticeModel" "seatsOf" "[I") (by decide +kernel)) (fun _ h9 => h9) rfl dX6_section_63 ?_
      refine lv_iload_n hx hb dX6_section_66 rfl (lv_at hl 1 rfl) ?_
      obtain ⟨g_, h⟩ := gd_some h
      refine va_iald hx hb hK hP 3 1 rfl rfl (inb_in g_) dX6_section_67 ?_
      have h : some ((seatsOf_ v1.toNatClampNeg), 0) = some (rr, o0) := h
      have z0 := Option.some.inj h
      obtain ⟨rfl, z1⟩ := Prod.mk.inj z0
      obtain rfl := z1
      exact hret _ _ _ _ hP hS rfl dX6_section_68
    have h := (if_neg c_2).symm.trans h
    by_cases c_3 : v2 = 3
    · have h := (if_pos c_3).symm.trans h
      refine lv_tableIn (tgt := 69) hx hb dX6_section_16 (by rw [c_3]; decide) (by rw [c_3]; decide) (by rw [c_3]; rfl) (by decide) ?_
      refine lv_aload_n hx hb dX6_section_69 rfl (lv_at hl 0 rfl) ?_
      refine va_get (D := (dC, dI)) (ci := 6) (v := .ref h0_columnOf) (C := RX6) (T := TX6) (N := 29) hx hb hts hiX6 hown hK hP 0 rfl rfl 9 (by decide) (hts (.fieldLink RX6 29 "OptionLatticeModel" "columnOf" "[I") (by decide +kernel)) (fun _ h9 => h9) rfl dX6_section_70 ?_
      refine lv_iload_n hx hb dX6_section_73 rfl (lv_at hl 1 rfl) ?_
      obtain ⟨g_, h⟩ := gd_some h
      refine va_iald hx hb hK hP 4 1 rfl rfl (inb_in g_) dX6_section_74 ?_
      have h : some ((columnOf_ v1.toNatClampNeg), 0) = some (rr, o0) := h
      have z0 := Option.some.inj h
      obtain ⟨rfl, z1⟩ := Prod.mk.inj z0
      obtain rfl := z1
      exact hret _ _ _ _ hP hS rfl dX6_section_75
    have h := (if_neg c_3).symm.trans h
    refine lv_tableOut (tgt := 76) hx hb dX6_section_16 (tsw_out (hi := 3) (fun k hk => by match k, hk with
      | 0, _ => exact c_0
      | 1, _ => exact c_1
      | 2, _ => exact c_2
      | 3, _ => exact c_3
      | k + 4, hk => omega)) (by decide) ?_
    refine lv_iconst (v := (-1)) hx hb dX6_section_76 (by decide) ?_
    have h : some ((-1), 0) = some (rr, o0) := h
    have z0 := Option.some.inj h
    obtain ⟨rfl, z1⟩ := Prod.mk.inj z0
    obtain rfl := z1
    exact hret _ _ _ _ hP hS rfl dX6_section_77
  · have h := (if_pos c_).symm.trans h
    refine lv_iconst (v := (-1)) hx hb dX6_section_13 (by decide) ?_
    have h : some ((-1), 0) = some (rr, o0) := h
    have z0 := Option.some.inj h
    obtain ⟨rfl, z1⟩ := Prod.mk.inj z0
    obtain rfl := z1
    exact hret _ _ _ _ hP hS rfl dX6_section_14

def m_X6_column_66 (thrown_ : Int32) (told_ : Int32) (row_ : Nat → Int32) (v2 : Int32) (v3 : Int32) : Option (Int32 × Int32 × Int32 × (Nat → Int32)) :=
  bd1 (m_X6_bits v2) (fun r_1 => bd2 (m_X6_notesTwo told_ row_ r_1 v3) (fun told_2 row_3 => some (v2, thrown_, told_2, row_3)))
def m_X6_column_26 (thrown_ : Int32) (told_ : Int32) (many_ : Int32) (row_ : Nat → Int32) (subjectOf_ : Nat → Int32) (v2 : Int32) (rec26 : Int32 → Int32 → Option (Int32 × Int32 × Int32 × (Nat → Int32))) : Int32 → Int32 → Option (Int32 × Int32 × Int32 × (Nat → Int32)) := fun v3 v4 =>
  (if many_ ≤ v4 then m_X6_column_66 thrown_ told_ row_ v2 v3 else bd1 (m_X6_has v2 v4) (fun r_4 => (if r_4 = 0 then lt' (v3 ||| 0) (fun v3_5 => lt' (v4 + 1) (fun v4_6 => rec26 v3_5 v4_6)) else gd (inb v4 17) (lt' (v3 ||| ((1 : Int32) <<< ((subjectOf_ v4.toNatClampNeg) &&& 31))) (fun v3_7 => lt' (v4 + 1) (fun v4_8 => rec26 v3_7 v4_8))))))
def m_X6_column (thrown_ : Int32) (told_ : Int32) (columns_ : Int32) (many_ : Int32) (row_ : Nat → Int32) (subjectOf_ : Nat → Int32) (columnOf_ : Nat → Int32) (v1 : Int32) : Option (Int32 × Int32 × Int32 × (Nat → Int32)) :=
  bd1 (m_X6_isColumn columns_ v1) (fun r_9 => (if r_9 = 0 then some ((-1), 0, told_, row_) else bd1 (m_X6_inColumn many_ columnOf_ v1) (fun r_10 => it2 (m_X6_column_26 0 told_ many_ row_ subjectOf_ r_10) 1100 0 0)))
abbrev rmX6_column : Room := { frames := 3, cells := 0, slots := 0, locals := 64 }
set_option maxHeartbeats 4000000 in
set_option maxRecDepth 100000 in
theorem c_X6_column (l : Launch) (dC : Nat → ClassId) (dI : Nat → Nat → Nat) (cyC cyI cyJ : ClassId) (h0 h0_row h0_subjectOf h0_teacherOf h0_seatsOf h0_columnOf h0_barsOf h0_choices h0_tape h0_was h0_readChoices h0_open h0_wayOf h0_cure h0_left h0_satIn : Nat) (thrown_ : Int32) (told_ : Int32) (columns_ : Int32) (rooms_ : Int32) (many_ : Int32) (pupils_ : Int32) (kept_ : Int32) (taped_ : Int32) (at_ : Int32) (to_ : Int32) (digit_ : Int32) (number_ : Int32) (readMany_ : Int32) (bestThen_ : Int32) (row_ : Nat → Int32) (subjectOf_ : Nat → Int32) (columnOf_ : Nat → Int32) (v1 : Int32) (rr : Int32) (o0 : Int32) (o1 : Int32) (o2 : Nat → Int32) (h : m_X6_column thrown_ told_ columns_ many_ row_ subjectOf_ columnOf_ v1 = some (rr, o0, o1, o2)) : uMi l yX6_column wsX6_column rmX6_column (dC, dI) [(cyC, .char), (cyI, .int), (cyJ, .long)] [.ref h0, .int v1] [(h0, .inr (6, [.int thrown_, .int told_, .ref h0_row, .int columns_, .int rooms_, .int many_, .ref h0_subjectOf, .ref h0_teacherOf, .ref h0_seatsOf, .ref h0_columnOf, .ref h0_barsOf, .int pupils_, .ref h0_choices, .int kept_, .ref h0_tape, .int taped_, .int at_, .int to_, .int digit_, .int number_, .ref h0_was, .ref h0_readChoices, .int readMany_, .ref h0_open, .ref h0_wayOf, .int bestThen_, .ref h0_cure, .ref h0_left, .ref h0_satIn])), (h0_row, .inl (cyI, 32, .inl row_)), (h0_subjectOf, .inl (cyI, 17, .inl subjectOf_)), (h0_columnOf, .inl (cyI, 17, .inl columnOf_))] [(h0, .inr (6, [.int o0, .int o1, .ref h0_row, .int columns_, .int rooms_, .int many_, .ref h0_subjectOf, .ref h0_teacherOf, .ref h0_seatsOf, .ref h0_columnOf, .ref h0_barsOf, .int pupils_, .ref h0_choices, .int kept_, .ref h0_tape, .int taped_, .int at_, .int to_, .int digit_, .int number_, .ref h0_was, .ref h0_readChoices, .int readMany_, .ref h0_open, .ref h0_wayOf, .int bestThen_, .ref h0_cure, .ref h0_left, .ref h0_satIn])), (h0_row, .inl (cyI, 32, .inl o2)), (h0_subjectOf, .inl (cyI, 17, .inl subjectOf_)), (h0_columnOf, .inl (cyI, 17, .inl columnOf_))] rr := by
  refine uMi.of (cc := cX6_column) (maxL := 5) (by decide) rfl (Nat.le_of_ble_eq_true rfl) (fun p e s m args below meth c A ls Q hx hb hml hown hts hA hP hK hD hE hS hl hret => ?_)
  have hown : s.vm.findClass RX6 = some m.cls := hown
  have hl : lv_has ls 5 [(0, .ref h0), (1, .int v1)] := hl
  have hiX6 : ∀ w ∈ u_ws RX6 TX6 29, w ∈ wsX6_column := fun _ h9 => List.mem_cons_of_mem _ (List.mem_append_right _ h9)
  have J66 : ∀ (v2 : Int32), ∀ (v3 : Int32), ∀ (thrown_ : Int32), m_X6_column_66 thrown_ told_ row_ v2 v3 = some (rr, o0, o1, o2) → ∀ (H : Heap) (locs : List Loc) (ls : Array Slot), va_P (dC, dI) vwCl [(h0, .inr (6, [.int thrown_, .int told_, .ref h0_row, .int columns_, .int rooms_, .int many_, .ref h0_subjectOf, .ref h0_teacherOf, .ref h0_seatsOf, .ref h0_columnOf, .ref h0_barsOf, .int pupils_, .ref h0_choices, .int kept_, .ref h0_tape, .int taped_, .int at_, .int to_, .int digit_, .int number_, .ref h0_was, .ref h0_readChoices, .int readMany_, .ref h0_open, .ref h0_wayOf, .int bestThen_, .ref h0_cure, .ref h0_left, .ref h0_satIn])), (h0_row, .inl (cyI, 32, .inl row_)), (h0_subjectOf, .inl (cyI, 17, .inl subjectOf_)), (h0_columnOf, .inl (cyI, 17, .inl columnOf_))] H → va_D A [(h0, .inr (6, [.int thrown_, .int told_, .ref h0_row, .int columns_, .int rooms_, .int many_, .ref h0_subjectOf, .ref h0_teacherOf, .ref h0_seatsOf, .ref h0_columnOf, .ref h0_barsOf, .int pupils_, .ref h0_choices, .int kept_, .ref h0_tape, .int taped_, .int at_, .int to_, .int digit_, .int number_, .ref h0_was, .ref h0_readChoices, .int readMany_, .ref h0_open, .ref h0_wayOf, .int bestThen_, .ref h0_cure, .ref h0_left, .ref h0_satIn])), (h0_row, .inl (cyI, 32, .inl row_)), (h0_subjectOf, .inl (cyI, 17, .inl subjectOf_)), (h0_columnOf, .inl (cyI, 17, .inl columnOf_))] → va_S A s.heap H locs → lv_has ls 5 [(0, .ref h0), (2, .int v2), (3, .int v3)] → W p l e rmX6_column s m args below meth c H locs 0 0 Q (F0 m 66 ls []) := by
    intro v2 v3 thrown_ h H locs ls hP hD hS hl
    unfold m_X6_column_66 at h
    refine lv_aload_n hx hb dX6_column_66 rfl (lv_at hl 0 rfl) ?_
    refine lv_iload_n hx hb dX6_column_67 rfl (lv_at hl 1 rfl) ?_
    obtain ⟨r_1, hq, h⟩ := bd1_some h
    refine uS_i (As := [.int v2]) (rest := [.ref h0]) ⟨hx, hb, hml, hown, hts⟩ (c_X6_bits l dC dI cyC cyI cyJ v2 r_1 hq) (va_cwS 1 hts gX6_column_X6_bits rfl rfl rfl (by decide +kernel) ⟨Nat.le_of_ble_eq_true rfl, Nat.le_of_ble_eq_true rfl⟩) hK hE hA hP hD hS [] rfl rfl rfl rfl hl.1 rfl (Nat.le_of_ble_eq_true rfl) ⟨Nat.zero_le _, Nat.zero_le _⟩ dX6_column_68 (fun H locs hP hD hS => ?_)
    have hP : va_P (dC, dI) vwCl [(h0, .inr (6, [.int thrown_, .int told_, .ref h0_row, .int columns_, .int rooms_, .int many_, .ref h0_subjectOf, .ref h0_teacherOf, .ref h0_seatsOf, .ref h0_columnOf, .ref h0_barsOf, .int pupils_, .ref h0_choices, .int kept_, .ref h0_tape, .int taped_, .int at_, .int to_, .int digit_, .int number_, .ref h0_was, .ref h0_readChoices, .int readMany_, .ref h0_open, .ref h0_wayOf, .int bestThen_, .ref h0_cure, .ref h0_left, .ref h0_satIn])), (h0_row, .inl (cyI, 32, .inl row_)), (h0_subjectOf, .inl (cyI, 17, .inl subjectOf_)), (h0_columnOf, .inl (cyI, 17, .inl columnOf_))] H := hP
    have hD : va_D A [(h0, .inr (6, [.int thrown_, .int told_, .ref h0_row, .int columns_, .int rooms_, .int many_, .ref h0_subjectOf, .ref h0_teacherOf, .ref h0_seatsOf, .ref h0_columnOf, .ref h0_barsOf, .int pupils_, .ref h0_choices, .int kept_, .ref h0_tape, .int taped_, .int at_, .int to_, .int digit_, .int number_, .ref h0_was, .ref h0_readChoices, .int readMany_, .ref h0_open, .ref h0_wayOf, .int bestThen_, .ref h0_cure, .ref h0_left, .ref h0_satIn])), (h0_row, .inl (cyI, 32, .inl row_)), (h0_subjectOf, .inl (cyI, 17, .inl subjectOf_)), (h0_columnOf, .inl (cyI, 17, .inl columnOf_))] := hD
    refine lv_iload_n hx hb dX6_column_71 rfl (lv_at hl 2 rfl) ?_
    obtain ⟨told_2, row_3, hq, h⟩ := bd2_some h
    refine uV_v (b := h0) (As := [.int r_1, .int v3]) (rest := []) ⟨hx, hb, hml, hown, hts⟩ (c_X6_notesTwo l dC dI cyC cyI cyJ h0 h0_row h0_subjectOf h0_teacherOf h0_seatsOf h0_columnOf h0_barsOf h0_choices h0_tape h0_was h0_readChoices h0_open h0_wayOf h0_cure h0_left h0_satIn thrown_ told_ columns_ rooms_ many_ pupils_ kept_ taped_ at_ to_ digit_ number_ readMany_ bestThen_ row_ r_1 v3 told_2 row_3 hq) (cwV 2 hts gX6_column_X6_notesTwo rfl rfl rfl (by decide +kernel) ⟨Nat.le_of_ble_eq_true rfl, Nat.le_of_ble_eq_true rfl⟩) hK hE hA hP hD hS [0, 1] rfl rfl rfl 6 0 rfl rfl rfl hl.1 rfl (Nat.le_of_ble_eq_true rfl) ⟨Nat.zero_le _, Nat.zero_le _⟩ dX6_column_72 (fun H locs hP hD hS => ?_)
    have hP : va_P (dC, dI) vwCl [(h0, .inr (6, [.int thrown_, .int told_2, .ref h0_row, .int columns_, .int rooms_, .int many_, .ref h0_subjectOf, .ref h0_teacherOf, .ref h0_seatsOf, .ref h0_columnOf, .ref h0_barsOf, .int pupils_, .ref h0_choices, .int kept_, .ref h0_tape, .int taped_, .int at_, .int to_, .int digit_, .int number_, .ref h0_was, .ref h0_readChoices, .int readMany_, .ref h0_open, .ref h0_wayOf, .int bestThen_, .ref h0_cure, .ref h0_left, .ref h0_satIn])), (h0_row, .inl (cyI, 32, .inl row_3)), (h0_subjectOf, .inl (cyI, 17, .inl subjectOf_)), (h0_columnOf, .inl (cyI, 17, .inl columnOf_))] H := hP
    have hD : va_D A [(h0, .inr (6, [.int thrown_, .int told_2, .ref h0_row, .int columns_, .int rooms_, .int many_, .ref h0_subjectOf, .ref h0_teacherOf, .ref h0_seatsOf, .ref h0_columnOf, .ref h0_barsOf, .int pupils_, .ref h0_choices, .int kept_, .ref h0_tape, .int taped_, .int at_, .int to_, .int digit_, .int number_, .ref h0_was, .ref h0_readChoices, .int readMany_, .ref h0_open, .ref h0_wayOf, .int bestThen_, .ref h0_cure, .ref h0_left, .ref h0_satIn])), (h0_row, .inl (cyI, 32, .inl row_3)), (h0_subjectOf, .inl (cyI, 17, .inl subjectOf_)), (h0_columnOf, .inl (cyI, 17, .inl columnOf_))] := hD
    refine lv_iload_n hx hb dX6_column_75 rfl (lv_at hl 1 rfl) ?_
    have h : some (v2, thrown_, told_2, row_3) = some (rr, o0, o1, o2) := h
    have z0 := Option.some.inj h
    obtain ⟨rfl, z1⟩ := Prod.mk.inj z0
    obtain ⟨rfl, z2⟩ := Prod.mk.inj z1
    obtain ⟨rfl, z3⟩ := Prod.mk.inj z2
    obtain rfl := z3
    exact hret _ _ _ _ hP hS rfl dX6_column_76
  have L26 : ∀ (v2 : Int32), ∀ (thrown_ : Int32), ∀ (n26 : Nat), ∀ (v3 : Int32), ∀ (v4 : Int32), it2 (m_X6_column_26 thrown_ told_ many_ row_ subjectOf_ v2) n26 v3 v4 = some (rr, o0, o1, o2) → ∀ (H : Heap) (locs : List Loc) (ls : Array Slot), va_P (dC, dI) vwCl [(h0, .inr (6, [.int thrown_, .int told_, .ref h0_row, .int columns_, .int rooms_, .int many_, .ref h0_subjectOf, .ref h0_teacherOf, .ref h0_seatsOf, .ref h0_columnOf, .ref h0_barsOf, .int pupils_, .ref h0_choices, .int kept_, .ref h0_tape, .int taped_, .int at_, .int to_, .int digit_, .int number_, .ref h0_was, .ref h0_readChoices, .int readMany_, .ref h0_open, .ref h0_wayOf, .int bestThen_, .ref h0_cure, .ref h0_left, .ref h0_satIn])), (h0_row, .inl (cyI, 32, .inl row_)), (h0_subjectOf, .inl (cyI, 17, .inl subjectOf_)), (h0_columnOf, .inl (cyI, 17, .inl columnOf_))] H → va_D A [(h0, .inr (6, [.int thrown_, .int told_, .ref h0_row, .int columns_, .int rooms_, .int many_, .ref h0_subjectOf, .ref h0_teacherOf, .ref h0_seatsOf, .ref h0_columnOf, .ref h0_barsOf, .int pupils_, .ref h0_choices, .int kept_, .ref h0_tape, .int taped_, .int at_, .int to_, .int digit_, .int number_, .ref h0_was, .ref h0_readChoices, .int readMany_, .ref h0_open, .ref h0_wayOf, .int bestThen_, .ref h0_cure, .ref h0_left, .ref h0_satIn])), (h0_row, .inl (cyI, 32, .inl row_)), (h0_subjectOf, .inl (cyI, 17, .inl subjectOf_)), (h0_columnOf, .inl (cyI, 17, .inl columnOf_))] → va_S A s.heap H locs → lv_has ls 5 [(0, .ref h0), (2, .int v2), (3, .int v3), (4, .int v4)] → W p l e rmX6_column s m args below meth c H locs 0 0 Q (F0 m 26 ls []) := by
    intro v2 thrown_ n26
    induction n26 with
    | zero => intro v3 v4 h; exact absurd h (fun z => it2_z z)
    | succ n26 ih26 =>
      intro v3 v4 h H locs ls hP hD hS hl
      have h : m_X6_column_26 thrown_ told_ many_ row_ subjectOf_ v2 (it2 (m_X6_column_26 thrown_ told_ many_ row_ subjectOf_ v2) n26) v3 v4 = some (rr, o0, o1, o2) := h
      unfold m_X6_column_26 at h
      refine lv_iload hx hb dX6_column_26 (lv_at hl 3 rfl) ?_
      refine lv_aload_n hx hb dX6_column_28 rfl (lv_at hl 0 rfl) ?_
      refine va_get (D := (dC, dI)) (ci := 6) (v := .int many_) (C := RX6) (T := TX6) (N := 29) hx hb hts hiX6 hown hK hP 0 rfl rfl 5 (by decide) (hts (.fieldLink RX6 87 "OptionLatticeModel" "many" "I") (by decide +kernel)) (fun _ h9 => h9) rfl dX6_column_29 ?_
      refine lv_icmp_ge (tgt := 66) hx hb dX6_column_32 (by decide) (fun c_ => ?_) (fun c_ => ?_)
      · have h := (if_pos c_).symm.trans h
        exact J66 v2 v3 thrown_ h _ _ _ hP hD hS (lv_sub hl [0, 1, 2] rfl)
      · have h := (if_neg c_).symm.trans h
        refine lv_iload_n hx hb dX6_column_35 rfl (lv_at hl 2 rfl) ?_
        refine lv_iload_n hx hb dX6_column_36 rfl (lv_at hl 1 rfl) ?_
        refine lv_iload hx hb dX6_column_37 (lv_at hl 3 rfl) ?_
        obtain ⟨r_4, hq, h⟩ := bd1_some h
        refine uS_i (As := [.int v2, .int v4]) (rest := [.int v3]) ⟨hx, hb, hml, hown, hts⟩ (c_X6_has l dC dI cyC cyI cyJ v2 v4 r_4 hq) (va_cwS 2 hts gX6_column_X6_has rfl rfl rfl (by decide +kernel) ⟨Nat.le_of_ble_eq_true rfl, Nat.le_of_ble_eq_true rfl⟩) hK hE hA hP hD hS [] rfl rfl rfl rfl hl.1 rfl (Nat.le_of_ble_eq_true rfl) ⟨Nat.zero_le _, Nat.zero_le _⟩ dX6_column_39 (fun H locs hP hD hS => ?_)
        have hP : va_P (dC, dI) vwCl [(h0, .inr (6, [.int thrown_, .int told_, .ref h0_row, .int columns_, .int rooms_, .int many_, .ref h0_subjectOf, .ref h0_teacherOf, .ref h0_seatsOf, .ref h0_columnOf, .ref h0_barsOf, .int pupils_, .ref h0_choices, .int kept_, .ref h0_tape, .int taped_, .int at_, .int to_, .int digit_, .int number_, .ref h0_was, .ref h0_readChoices, .int readMany_, .ref h0_open, .ref h0_wayOf, .int bestThen_, .ref h0_cure, .ref h0_left, .ref h0_satIn])), (h0_row, .inl (cyI, 32, .inl row_)), (h0_subjectOf, .inl (cyI, 17, .inl subjectOf_)), (h0_columnOf, .inl (cyI, 17, .inl columnOf_))] H := hP
        have hD : va_D A [(h0, .inr (6, [.int thrown_, .int told_, .ref h0_row, .int columns_, .int rooms_, .int many_, .ref h0_subjectOf, .ref h0_teacherOf, .ref h0_seatsOf, .ref h0_columnOf, .ref h0_barsOf, .int pupils_, .ref h0_choices, .int kept_, .ref h0_tape, .int taped_, .int at_, .int to_, .int digit_, .int number_, .ref h0_was, .ref h0_readChoices, .int readMany_, .ref h0_open, .ref h0_wayOf, .int bestThen_, .ref h0_cure, .ref h0_left, .ref h0_satIn])), (h0_row, .inl (cyI, 32, .inl row_)), (h0_subjectOf, .inl (cyI, 17, .inl subjectOf_)), (h0_columnOf, .inl (cyI, 17, .inl columnOf_))] := hD
        refine lv_if_eq (tgt := 57) hx hb dX6_column_42 (by decide) (fun c_ => ?_) (fun c_ => ?_)
        · have h := (if_pos c_).symm.trans h
          refine lv_iconst (v := 0) hx hb dX6_column_57 (by decide) ?_
          refine lv_ior hx hb dX6_column_58 ?_
          refine lv_topi (fun v3_5 e_v3_5 => ?_)
          have h := lt_use e_v3_5 h
          refine lv_istore_n (lv' := [(3, .int v3_5), (0, .ref h0), (2, .int v2), (4, .int v4)]) hx hb dX6_column_59 rfl hl (by decide) rfl (fun ls hl => ?_)
          obtain ⟨v4_6, e_v4_6⟩ : ∃ z : Int32, z = (v4 + 1) := ⟨_, rfl⟩
          have h := lt_use e_v4_6 h
          refine lv_iinc (v := v4_6) (lv' := [(4, .int v4_6), (3, .int v3_5), (0, .ref h0), (2, .int v2)]) hx hb dX6_column_60 hl (k := 3) rfl (by rw [e_v4_6]; rfl) (by decide) rfl (fun ls hl => ?_)
          refine lv_goto (tgt := 26) hx hb dX6_column_63 (by decide) ?_
          exact ih26 v3_5 v4_6 h _ _ _ hP hD hS (lv_sub hl [2, 3, 1, 0] rfl)
        · have h := (if_neg c_).symm.trans h
          refine lv_iconst (v := 1) hx hb dX6_column_45 (by decide) ?_
          refine lv_aload_n hx hb dX6_column_46 rfl (lv_at hl 0 rfl) ?_
          refine va_get (D := (dC, dI)) (ci := 6) (v := .ref h0_subjectOf) (C := RX6) (T := TX6) (N := 29) hx hb hts hiX6 hown hK hP 0 rfl rfl 6 (by decide) (hts (.fieldLink RX6 20 "OptionLatticeModel" "subjectOf" "[I") (by decide +kernel)) (fun _ h9 => h9) rfl dX6_column_47 ?_
          refine lv_iload hx hb dX6_column_50 (lv_at hl 3 rfl) ?_
          obtain ⟨g_, h⟩ := gd_some h
          refine va_iald hx hb hK hP 2 1 rfl rfl (inb_in g_) dX6_column_52 ?_
          refine lv_ishl hx hb dX6_column_53 ?_
          refine lv_goto (tgt := 58) hx hb dX6_column_54 (by decide) ?_
          refine lv_ior hx hb dX6_column_58 ?_
          refine lv_topi (fun v3_7 e_v3_7 => ?_)
          have h := lt_use e_v3_7 h
          refine lv_istore_n (lv' := [(3, .int v3_7), (0, .ref h0), (2, .int v2), (4, .int v4)]) hx hb dX6_column_59 rfl hl (by decide) rfl (fun ls hl => ?_)
          obtain ⟨v4_8, e_v4_8⟩ : ∃ z : Int32, z = (v4 + 1) := ⟨_, rfl⟩
          have h := lt_use e_v4_8 h
          refine lv_iinc (v := v4_8) (lv' := [(4, .int v4_8), (3, .int v3_7), (0, .ref h0), (2, .int v2)]) hx hb dX6_column_60 hl (k := 3) rfl (by rw [e_v4_8]; rfl) (by decide) rfl (fun ls hl => ?_)
          refine lv_goto (tgt := 26) hx hb dX6_column_63 (by decide) ?_
          exact ih26 v3_7 v4_8 h _ _ _ hP hD hS (lv_sub hl [2, 3, 1, 0] rfl)
  unfold m_X6_column at h
  refine lv_aload_n hx hb dX6_column_0 rfl (lv_at hl 0 rfl) ?_
  refine lv_iconst (v := 0) hx hb dX6_column_1 (by decide) ?_
  refine va_put (D := (dC, dI)) (ci := 6) (v := .int 0) (ty := .int) (C := RX6) (T := TX6) (N := 29) hx hb hts hiX6 tyX6 tyX6_ok nmX6 hown hK hP hD hS 0 rfl rfl 0 (by decide) (hts (.fieldLink RX6 62 "OptionLatticeModel" "thrown" "I") (by decide +kernel)) (fun _ h9 => h9) rfl (by decide +kernel) rfl rfl (Nat.le_of_ble_eq_true rfl) dX6_column_2 (fun H locs hP hD hS => ?_)
  have hP : va_P (dC, dI) vwCl [(h0, .inr (6, [.int 0, .int told_, .ref h0_row, .int columns_, .int rooms_, .int many_, .ref h0_subjectOf, .ref h0_teacherOf, .ref h0_seatsOf, .ref h0_columnOf, .ref h0_barsOf, .int pupils_, .ref h0_choices, .int kept_, .ref h0_tape, .int taped_, .int at_, .int to_, .int digit_, .int number_, .ref h0_was, .ref h0_readChoices, .int readMany_, .ref h0_open, .ref h0_wayOf, .int bestThen_, .ref h0_cure, .ref h0_left, .ref h0_satIn])), (h0_row, .inl (cyI, 32, .inl row_)), (h0_subjectOf, .inl (cyI, 17, .inl subjectOf_)), (h0_columnOf, .inl (cyI, 17, .inl columnOf_))] H := hP
  have hD : va_D A [(h0, .inr (6, [.int 0, .int told_, .ref h0_row, .int columns_, .int rooms_, .int many_, .ref h0_subjectOf, .ref h0_teacherOf, .ref h0_seatsOf, .ref h0_columnOf, .ref h0_barsOf, .int pupils_, .ref h0_choices, .int kept_, .ref h0_tape, .int taped_, .int at_, .int to_, .int digit_, .int number_, .ref h0_was, .ref h0_readChoices, .int readMany_, .ref h0_open, .ref h0_wayOf, .int bestThen_, .ref h0_cure, .ref h0_left, .ref h0_satIn])), (h0_row, .inl (cyI, 32, .inl row_)), (h0_subjectOf, .inl (cyI, 17, .inl subjectOf_)), (h0_columnOf, .inl (cyI, 17, .inl columnOf_))] := hD
  refine lv_aload_n hx hb dX6_column_5 rfl (lv_at hl 0 rfl) ?_
  refine lv_iload_n hx hb dX6_column_6 rfl (lv_at hl 1 rfl) ?_
  obtain ⟨r_9, hq, h⟩ := bd1_some h
  refine uV_i (b := h0) (As := [.int v1]) (rest := []) ⟨hx, hb, hml, hown, hts⟩ (c_X6_isColumn l dC dI cyC cyI cyJ h0 h0_row h0_subjectOf h0_teacherOf h0_seatsOf h0_columnOf h0_barsOf h0_choices h0_tape h0_was h0_readChoices h0_open h0_wayOf h0_cure h0_left h0_satIn 0 told_ columns_ rooms_ many_ pupils_ kept_ taped_ at_ to_ digit_ number_ readMany_ bestThen_ v1 r_9 hq) (cwV 1 hts gX6_column_X6_isColumn rfl rfl rfl (by decide +kernel) ⟨Nat.le_of_ble_eq_true rfl, Nat.le_of_ble_eq_true rfl⟩) hK hE hA hP hD hS [0] rfl rfl rfl 6 0 rfl rfl rfl hl.1 rfl (Nat.le_of_ble_eq_true rfl) ⟨Nat.zero_le _, Nat.zero_le _⟩ dX6_column_7 (fun H locs hP hD hS => ?_)
  have hP : va_P (dC, dI) vwCl [(h0, .inr (6, [.int 0, .int told_, .ref h0_row, .int columns_, .int rooms_, .int many_, .ref h0_subjectOf, .ref h0_teacherOf, .ref h0_seatsOf, .ref h0_columnOf, .ref h0_barsOf, .int pupils_, .ref h0_choices, .int kept_, .ref h0_tape, .int taped_, .int at_, .int to_, .int digit_, .int number_, .ref h0_was, .ref h0_readChoices, .int readMany_, .ref h0_open, .ref h0_wayOf, .int bestThen_, .ref h0_cure, .ref h0_left, .ref h0_satIn])), (h0_row, .inl (cyI, 32, .inl row_)), (h0_subjectOf, .inl (cyI, 17, .inl subjectOf_)), (h0_columnOf, .inl (cyI, 17, .inl columnOf_))] H := hP
  have hD : va_D A [(h0, .inr (6, [.int 0, .int told_, .ref h0_row, .int columns_, .int rooms_, .int many_, .ref h0_subjectOf, .ref h0_teacherOf, .ref h0_seatsOf, .ref h0_columnOf, .ref h0_barsOf, .int pupils_, .ref h0_choices, .int kept_, .ref h0_tape, .int taped_, .int at_, .int to_, .int digit_, .int number_, .ref h0_was, .ref h0_readChoices, .int readMany_, .ref h0_open, .ref h0_wayOf, .int bestThen_, .ref h0_cure, .ref h0_left, .ref h0_satIn])), (h0_row, .inl (cyI, 32, .inl row_)), (h0_subjectOf, .inl (cyI, 17, .inl subjectOf_)), (h0_columnOf, .inl (cyI, 17, .inl columnOf_))] := hD
  refine lv_if_ne (tgt := 15) hx hb dX6_column_10 (by decide) (fun c_ => ?_) (fun c_ => ?_)
  · have h := (if_neg c_).symm.trans h
    refine lv_aload_n hx hb dX6_column_15 rfl (lv_at hl 0 rfl) ?_
    refine lv_iload_n hx hb dX6_column_16 rfl (lv_at hl 1 rfl) ?_
    obtain ⟨r_10, hq, h⟩ := bd1_some h
    refine uV_i (b := h0) (As := [.int v1]) (rest := []) ⟨hx, hb, hml, hown, hts⟩ (c_X6_inColumn l dC dI cyC cyI cyJ h0 h0_row h0_subjectOf h0_teacherOf h0_seatsOf h0_columnOf h0_barsOf h0_choices h0_tape h0_was h0_readChoices h0_open h0_wayOf h0_cure h0_left h0_satIn 0 told_ columns_ rooms_ many_ pupils_ kept_ taped_ at_ to_ digit_ number_ readMany_ bestThen_ columnOf_ v1 r_10 hq) (cwV 1 hts gX6_column_X6_inColumn rfl rfl rfl (by decide +kernel) ⟨Nat.le_of_ble_eq_true rfl, Nat.le_of_ble_eq_true rfl⟩) hK hE hA hP hD hS [0, 3] rfl rfl rfl 6 0 rfl rfl rfl hl.1 rfl (Nat.le_of_ble_eq_true rfl) ⟨Nat.zero_le _, Nat.zero_le _⟩ dX6_column_17 (fun H locs hP hD hS => ?_)
    have hP : va_P (dC, dI) vwCl [(h0, .inr (6, [.int 0, .int told_, .ref h0_row, .int columns_, .int rooms_, .int many_, .ref h0_subjectOf, .ref h0_teacherOf, .ref h0_seatsOf, .ref h0_columnOf, .ref h0_barsOf, .int pupils_, .ref h0_choices, .int kept_, .ref h0_tape, .int taped_, .int at_, .int to_, .int digit_, .int number_, .ref h0_was, .ref h0_readChoices, .int readMany_, .ref h0_open, .ref h0_wayOf, .int bestThen_, .ref h0_cure, .ref h0_left, .ref h0_satIn])), (h0_row, .inl (cyI, 32, .inl row_)), (h0_subjectOf, .inl (cyI, 17, .inl subjectOf_)), (h0_columnOf, .inl (cyI, 17, .inl columnOf_))] H := hP
    have hD : va_D A [(h0, .inr (6, [.int 0, .int told_, .ref h0_row, .int columns_, .int rooms_, .int many_, .ref h0_subjectOf, .ref h0_teacherOf, .ref h0_seatsOf, .ref h0_columnOf, .ref h0_barsOf, .int pupils_, .ref h0_choices, .int kept_, .ref h0_tape, .int taped_, .int at_, .int to_, .int digit_, .int number_, .ref h0_was, .ref h0_readChoices, .int readMany_, .ref h0_open, .ref h0_wayOf, .int bestThen_, .ref h0_cure, .ref h0_left, .ref h0_satIn])), (h0_row, .inl (cyI, 32, .inl row_)), (h0_subjectOf, .inl (cyI, 17, .inl subjectOf_)), (h0_columnOf, .inl (cyI, 17, .inl columnOf_))] := hD
    refine lv_istore_n (lv' := [(2, .int r_10), (0, .ref h0), (1, .int v1)]) hx hb dX6_column_20 rfl hl (by decide) rfl (fun ls hl => ?_)
    refine lv_iconst (v := 0) hx hb dX6_column_21 (by decide) ?_
    refine lv_istore_n (lv' := [(3, .int 0), (2, .int r_10), (0, .ref h0), (1, .int v1)]) hx hb dX6_column_22 rfl hl (by decide) rfl (fun ls hl => ?_)
    refine lv_iconst (v := 0) hx hb dX6_column_23 (by decide) ?_
    refine lv_istore (lv' := [(4, .int 0), (3, .int 0), (2, .int r_10), (0, .ref h0), (1, .int v1)]) hx hb dX6_column_24 hl (by decide) rfl (fun ls hl => ?_)
    exact L26 r_10 0 1100 0 0 h _ _ _ hP hD hS (lv_sub hl [3, 2, 1, 0] rfl)
  · have h := (if_pos c_).symm.trans h
    refine lv_iconst (v := (-1)) hx hb dX6_column_13 (by decide) ?_
    have h : some ((-1), 0, told_, row_) = some (rr, o0, o1, o2) := h
    have z0 := Option.some.inj h
    obtain ⟨rfl, z1⟩ := Prod.mk.inj z0
    obtain ⟨rfl, z2⟩ := Prod.mk.inj z1
    obtain ⟨rfl, z3⟩ := Prod.mk.inj z2
    obtain rfl := z3
    exact hret _ _ _ _ hP hS rfl dX6_column_14

def m_X6_chose_4 (pupils_ : Int32) (choices_ : Nat → Int32) (v1 : Int32) (rec4 : Int32 → Int32 → Option (Int32)) : Int32 → Int32 → Option (Int32) := fun v2 v3 =>
  (if pupils_ ≤ v3 then some v2 else gd (inb v3 24) (bd1 (m_X6_has (choices_ v3.toNatClampNeg) v1) (fun r_1 => (if r_1 = 0 then lt' (v2 ||| 0) (fun v2_2 => lt' (v3 + 1) (fun v3_3 => rec4 v2_2 v3_3)) else lt' (v2 ||| ((1 : Int32) <<< (v3 &&& 31))) (fun v2_4 => lt' (v3 + 1) (fun v3_5 => rec4 v2_4 v3_5))))))
def m_X6_chose (pupils_ : Int32) (choices_ : Nat → Int32) (v1 : Int32) : Option (Int32) :=
  it2 (m_X6_chose_4 pupils_ choices_ v1) 1100 0 0
abbrev rmX6_chose : Room := { frames := 1, cells := 0, slots := 0, locals := 21 }
set_option maxHeartbeats 4000000 in
set_option maxRecDepth 100000 in
theorem c_X6_chose (l : Launch) (dC : Nat → ClassId) (dI : Nat → Nat → Nat) (cyC cyI cyJ : ClassId) (h0 h0_row h0_subjectOf h0_teacherOf h0_seatsOf h0_columnOf h0_barsOf h0_choices h0_tape h0_was h0_readChoices h0_open h0_wayOf h0_cure h0_left h0_satIn : Nat) (thrown_ : Int32) (told_ : Int32) (columns_ : Int32) (rooms_ : Int32) (many_ : Int32) (pupils_ : Int32) (kept_ : Int32) (taped_ : Int32) (at_ : Int32) (to_ : Int32) (digit_ : Int32) (number_ : Int32) (readMany_ : Int32) (bestThen_ : Int32) (choices_ : Nat → Int32) (v1 : Int32) (rr : Int32) (h : m_X6_chose pupils_ choices_ v1 = some rr) : uMi l yX6_chose wsX6_chose rmX6_chose (dC, dI) [(cyC, .char), (cyI, .int), (cyJ, .long)] [.ref h0, .int v1] [(h0, .inr (6, [.int thrown_, .int told_, .ref h0_row, .int columns_, .int rooms_, .int many_, .ref h0_subjectOf, .ref h0_teacherOf, .ref h0_seatsOf, .ref h0_columnOf, .ref h0_barsOf, .int pupils_, .ref h0_choices, .int kept_, .ref h0_tape, .int taped_, .int at_, .int to_, .int digit_, .int number_, .ref h0_was, .ref h0_readChoices, .int readMany_, .ref h0_open, .ref h0_wayOf, .int bestThen_, .ref h0_cure, .ref h0_left, .ref h0_satIn])), (h0_choices, .inl (cyI, 24, .inl choices_))] [(h0, .inr (6, [.int thrown_, .int told_, .ref h0_row, .int columns_, .int rooms_, .int many_, .ref h0_subjectOf, .ref h0_teacherOf, .ref h0_seatsOf, .ref h0_columnOf, .ref h0_barsOf, .int pupils_, .ref h0_choices, .int kept_, .ref h0_tape, .int taped_, .int at_, .int to_, .int digit_, .int number_, .ref h0_was, .ref h0_readChoices, .int readMany_, .ref h0_open, .ref h0_wayOf, .int bestThen_, .ref h0_cure, .ref h0_left, .ref h0_satIn])), (h0_choices, .inl (cyI, 24, .inl choices_))] rr := by
  refine uMi.of (cc := cX6_chose) (maxL := 4) (by decide) rfl (Nat.le_of_ble_eq_true rfl) (fun p e s m args below meth c A ls Q hx hb hml hown hts hA hP hK hD hE hS hl hret => ?_)
  have hown : s.vm.findClass RX6 = some m.cls := hown
  have hl : lv_has ls 4 [(0, .ref h0), (1, .int v1)] := hl
  have hiX6 : ∀ w ∈ u_ws RX6 TX6 29, w ∈ wsX6_chose := fun _ h9 => List.mem_cons_of_mem _ (List.mem_append_right _ h9)
  have L4 : ∀ (n4 : Nat), ∀ (v2 : Int32), ∀ (v3 : Int32), it2 (m_X6_chose_4 pupils_ choices_ v1) n4 v2 v3 = some rr → ∀ (H : Heap) (locs : List Loc) (ls : Array Slot), va_P (dC, dI) vwCl [(h0, .inr (6, [.int thrown_, .int told_, .ref h0_row, .int columns_, .int rooms_, .int many_, .ref h0_subjectOf, .ref h0_teacherOf, .ref h0_seatsOf, .ref h0_columnOf, .ref h0_barsOf, .int pupils_, .ref h0_choices, .int kept_, .ref h0_tape, .int taped_, .int at_, .int to_, .int digit_, .int number_, .ref h0_was, .ref h0_readChoices, .int readMany_, .ref h0_open, .ref h0_wayOf, .int bestThen_, .ref h0_cure, .ref h0_left, .ref h0_satIn])), (h0_choices, .inl (cyI, 24, .inl choices_))] H → va_D A [(h0, .inr (6, [.int thrown_, .int told_, .ref h0_row, .int columns_, .int rooms_, .int many_, .ref h0_subjectOf, .ref h0_teacherOf, .ref h0_seatsOf, .ref h0_columnOf, .ref h0_barsOf, .int pupils_, .ref h0_choices, .int kept_, .ref h0_tape, .int taped_, .int at_, .int to_, .int digit_, .int number_, .ref h0_was, .ref h0_readChoices, .int readMany_, .ref h0_open, .ref h0_wayOf, .int bestThen_, .ref h0_cure, .ref h0_left, .ref h0_satIn])), (h0_choices, .inl (cyI, 24, .inl choices_))] → va_S A s.heap H locs → lv_has ls 4 [(0, .ref h0), (1, .int v1), (2, .int v2), (3, .int v3)] → W p l e rmX6_chose s m args below meth c H locs 0 0 Q (F0 m 4 ls []) := by
    intro n4
    induction n4 with
    | zero => intro v2 v3 h; exact absurd h (fun z => it2_z z)
    | succ n4 ih4 =>
      intro v2 v3 h H locs ls hP hD hS hl
      have h : m_X6_chose_4 pupils_ choices_ v1 (it2 (m_X6_chose_4 pupils_ choices_ v1) n4) v2 v3 = some rr := h
      unfold m_X6_chose_4 at h
      refine lv_iload_n hx hb dX6_chose_4 rfl (lv_at hl 3 rfl) ?_
      refine lv_aload_n hx hb dX6_chose_5 rfl (lv_at hl 0 rfl) ?_
      refine va_get (D := (dC, dI)) (ci := 6) (v := .int pupils_) (C := RX6) (T := TX6) (N := 29) hx hb hts hiX6 hown hK hP 0 rfl rfl 11 (by decide) (hts (.fieldLink RX6 90 "OptionLatticeModel" "pupils" "I") (by decide +kernel)) (fun _ h9 => h9) rfl dX6_chose_6 ?_
      refine lv_icmp_ge (tgt := 41) hx hb dX6_chose_9 (by decide) (fun c_ => ?_) (fun c_ => ?_)
      · have h := (if_pos c_).symm.trans h
        refine lv_iload_n hx hb dX6_chose_41 rfl (lv_at hl 2 rfl) ?_
        have h : some v2 = some rr := h
        have z0 := Option.some.inj h
        obtain rfl := z0
        exact hret _ _ _ _ hP hS rfl dX6_chose_42
      · have h := (if_neg c_).symm.trans h
        refine lv_iload_n hx hb dX6_chose_12 rfl (lv_at hl 2 rfl) ?_
        refine lv_aload_n hx hb dX6_chose_13 rfl (lv_at hl 0 rfl) ?_
        refine va_get (D := (dC, dI)) (ci := 6) (v := .ref h0_choices) (C := RX6) (T := TX6) (N := 29) hx hb hts hiX6 hown hK hP 0 rfl rfl 12 (by decide) (hts (.fieldLink RX6 35 "OptionLatticeModel" "choices" "[I") (by decide +kernel)) (fun _ h9 => h9) rfl dX6_chose_14 ?_
        refine lv_iload_n hx hb dX6_chose_17 rfl (lv_at hl 3 rfl) ?_
        obtain ⟨g_, h⟩ := gd_some h
        refine va_iald hx hb hK hP 1 1 rfl rfl (inb_in g_) dX6_chose_18 ?_
        refine lv_iload_n hx hb dX6_chose_19 rfl (lv_at hl 1 rfl) ?_
        obtain ⟨r_1, hq, h⟩ := bd1_some h
        refine uS_i (As := [.int (choices_ v3.toNatClampNeg), .int v1]) (rest := [.int v2]) ⟨hx, hb, hml, hown, hts⟩ (c_X6_has l dC dI cyC cyI cyJ (choices_ v3.toNatClampNeg) v1 r_1 hq) (va_cwS 2 hts gX6_chose_X6_has rfl rfl rfl (by decide +kernel) ⟨Nat.le_of_ble_eq_true rfl, Nat.le_of_ble_eq_true rfl⟩) hK hE hA hP hD hS [] rfl rfl rfl rfl hl.1 rfl (Nat.le_of_ble_eq_true rfl) ⟨Nat.zero_le _, Nat.zero_le _⟩ dX6_chose_20 (fun H locs hP hD hS => ?_)
        have hP : va_P (dC, dI) vwCl [(h0, .inr (6, [.int thrown_, .int told_, .ref h0_row, .int columns_, .int rooms_, .int many_, .ref h0_subjectOf, .ref h0_teacherOf, .ref h0_seatsOf, .ref h0_columnOf, .ref h0_barsOf, .int pupils_, .ref h0_choices, .int kept_, .ref h0_tape, .int taped_, .int at_, .int to_, .int digit_, .int number_, .ref h0_was, .ref h0_readChoices, .int readMany_, .ref h0_open, .ref h0_wayOf, .int bestThen_, .ref h0_cure, .ref h0_left, .ref h0_satIn])), (h0_choices, .inl (cyI, 24, .inl choices_))] H := hP
        have hD : va_D A [(h0, .inr (6, [.int thrown_, .int told_, .ref h0_row, .int columns_, .int rooms_, .int many_, .ref h0_subjectOf, .ref h0_teacherOf, .ref h0_seatsOf, .ref h0_columnOf, .ref h0_barsOf, .int pupils_, .ref h0_choices, .int kept_, .ref h0_tape, .int taped_, .int at_, .int to_, .int digit_, .int number_, .ref h0_was, .ref h0_readChoices, .int readMany_, .ref h0_open, .ref h0_wayOf, .int bestThen_, .ref h0_cure, .ref h0_left, .ref h0_satIn])), (h0_choices, .inl (cyI, 24, .inl choices_))] := hD
        refine lv_if_eq (tgt := 32) hx hb dX6_chose_23 (by decide) (fun c_ => ?_) (fun c_ => ?_)
        · have h := (if_pos c_).symm.trans h
          refine lv_iconst (v := 0) hx hb dX6_chose_32 (by decide) ?_
          refine lv_ior hx hb dX6_chose_33 ?_
          refine lv_topi (fun v2_2 e_v2_2 => ?_)
          have h := lt_use e_v2_2 h
          refine lv_istore_n (lv' := [(2, .int v2_2), (0, .ref h0), (1, .int v1), (3, .int v3)]) hx hb dX6_chose_34 rfl hl (by decide) rfl (fun ls hl => ?_)
          obtain ⟨v3_3, e_v3_3⟩ : ∃ z : Int32, z = (v3 + 1) := ⟨_, rfl⟩
          have h := lt_use e_v3_3 h
          refine lv_iinc (v := v3_3) (lv' := [(3, .int v3_3), (2, .int v2_2), (0, .ref h0), (1, .int v1)]) hx hb dX6_chose_35 hl (k := 3) rfl (by rw [e_v3_3]; rfl) (by decide) rfl (fun ls hl => ?_)
          refine lv_goto (tgt := 4) hx hb dX6_chose_38 (by decide) ?_
          exact ih4 v2_2 v3_3 h _ _ _ hP hD hS (lv_sub hl [2, 3, 1, 0] rfl)
        · have h := (if_neg c_).symm.trans h
          refine lv_iconst (v := 1) hx hb dX6_chose_26 (by decide) ?_
          refine lv_iload_n hx hb dX6_chose_27 rfl (lv_at hl 3 rfl) ?_
          refine lv_ishl hx hb dX6_chose_28 ?_
          refine lv_goto (tgt := 33) hx hb dX6_chose_29 (by decide) ?_
          refine lv_ior hx hb dX6_chose_33 ?_
          refine lv_topi (fun v2_4 e_v2_4 => ?_)
          have h := lt_use e_v2_4 h
          refine lv_istore_n (lv' := [(2, .int v2_4), (0, .ref h0), (1, .int v1), (3, .int v3)]) hx hb dX6_chose_34 rfl hl (by decide) rfl (fun ls hl => ?_)
          obtain ⟨v3_5, e_v3_5⟩ : ∃ z : Int32, z = (v3 + 1) := ⟨_, rfl⟩
          have h := lt_use e_v3_5 h
          refine lv_iinc (v := v3_5) (lv' := [(3, .int v3_5), (2, .int v2_4), (0, .ref h0), (1, .int v1)]) hx hb dX6_chose_35 hl (k := 3) rfl (by rw [e_v3_5]; rfl) (by decide) rfl (fun ls hl => ?_)
          refine lv_goto (tgt := 4) hx hb dX6_chose_38 (by decide) ?_
          exact ih4 v2_4 v3_5 h _ _ _ hP hD hS (lv_sub hl [2, 3, 1, 0] rfl)
  unfold m_X6_chose at h
  refine lv_iconst (v := 0) hx hb dX6_chose_0 (by decide) ?_
  refine lv_istore_n (lv' := [(2, .int 0), (0, .ref h0), (1, .int v1)]) hx hb dX6_chose_1 rfl hl (by decide) rfl (fun ls hl => ?_)
  refine lv_iconst (v := 0) hx hb dX6_chose_2 (by decide) ?_
  refine lv_istore_n (lv' := [(3, .int 0), (2, .int 0), (0, .ref h0), (1, .int v1)]) hx hb dX6_chose_3 rfl hl (by decide) rfl (fun ls hl => ?_)
  exact L4  1100 0 0 h _ _ _ hP hD hS (lv_sub hl [2, 3, 1, 0] rfl)

def m_X6_subject_83 (thrown_ : Int32) (told_ : Int32) (many_ : Int32) (pupils_ : Int32) (row_ : Nat → Int32) (subjectOf_ : Nat → Int32) (columnOf_ : Nat → Int32) (choices_ : Nat → Int32) (v1 : Int32) (v2 : Int32) (v3 : Int32) : Option (Int32 × Int32 × Int32 × (Nat → Int32)) :=
  bd1 (m_X6_chose pupils_ choices_ v1) (fun r_1 => bd1 (m_X6_bits r_1) (fun r_2 => bd2 (m_X6_notesTwo told_ row_ v2 r_2) (fun told_3 row_4 => bd2 (m_X6_notes told_3 row_4 v3) (fun told_5 row_6 => bd1 (m_X6_columnsOf many_ subjectOf_ columnOf_ v1) (fun r_7 => some (r_7, thrown_, told_5, row_6))))))
def m_X6_subject_47 (subjectOf_ : Nat → Int32) (seatsOf_ : Nat → Int32) (v1 : Int32) (v3 : Int32) (v4 : Int32) (t0 : Int32) (t1 : Int32) (rec21 : Int32 → Int32 → Int32 → Option (Int32 × Int32 × Int32 × (Nat → Int32))) : Option (Int32 × Int32 × Int32 × (Nat → Int32)) :=
  bd1 (m_X6_flag t1) (fun r_8 => lt' (t0 + r_8) (fun v2_9 => gd (inb v4 17) ((if (subjectOf_ v4.toNatClampNeg) = v1 then gd (inb v4 17) (lt' (v3 + (seatsOf_ v4.toNatClampNeg)) (fun v3_12 => lt' (v4 + 1) (fun v4_13 => rec21 v2_9 v3_12 v4_13))) else lt' (v3 + 0) (fun v3_10 => lt' (v4 + 1) (fun v4_11 => rec21 v2_9 v3_10 v4_11))))))
def m_X6_subject_21 (thrown_ : Int32) (told_ : Int32) (many_ : Int32) (pupils_ : Int32) (row_ : Nat → Int32) (subjectOf_ : Nat → Int32) (seatsOf_ : Nat → Int32) (columnOf_ : Nat → Int32) (choices_ : Nat → Int32) (v1 : Int32) (rec21 : Int32 → Int32 → Int32 → Option (Int32 × Int32 × Int32 × (Nat → Int32))) : Int32 → Int32 → Int32 → Option (Int32 × Int32 × Int32 × (Nat → Int32)) := fun v2 v3 v4 =>
  (if many_ ≤ v4 then m_X6_subject_83 thrown_ told_ many_ pupils_ row_ subjectOf_ columnOf_ choices_ v1 v2 v3 else gd (inb v4 17) ((if (subjectOf_ v4.toNatClampNeg) = v1 then m_X6_subject_47 subjectOf_ seatsOf_ v1 v3 v4 v2 1 rec21 else m_X6_subject_47 subjectOf_ seatsOf_ v1 v3 v4 v2 0 rec21)))
def m_X6_subject (thrown_ : Int32) (told_ : Int32) (many_ : Int32) (pupils_ : Int32) (row_ : Nat → Int32) (subjectOf_ : Nat → Int32) (seatsOf_ : Nat → Int32) (columnOf_ : Nat → Int32) (choices_ : Nat → Int32) (v1 : Int32) : Option (Int32 × Int32 × Int32 × (Nat → Int32)) :=
  bd1 (m_X6_isSubject v1) (fun r_14 => (if r_14 = 0 then some ((-1), 0, told_, row_) else it3 (m_X6_subject_21 0 told_ many_ pupils_ row_ subjectOf_ seatsOf_ columnOf_ choices_ v1) 1100 0 0 0))
abbrev rmX6_subject : Room := { frames := 3, cells := 0, slots := 0, locals := 64 }
set_option maxHeartbeats 4000000 in
set_option maxRecDepth 100000 in
theorem c_X6_subject (l : Launch) (dC : Nat → ClassId) (dI : Nat → Nat → Nat) (cyC cyI cyJ : ClassId) (h0 h0_row h0_subjectOf h0_teacherOf h0_seatsOf h0_columnOf h0_barsOf h0_choices h0_tape h0_was h0_readChoices h0_open h0_wayOf h0_cure h0_left h0_satIn : Nat) (thrown_ : Int32) (told_ : Int32) (columns_ : Int32) (rooms_ : Int32) (many_ : Int32) (pupils_ : Int32) (kept_ : Int32) (taped_ : Int32) (at_ : Int32) (to_ : Int32) (digit_ : Int32) (number_ : Int32) (readMany_ : Int32) (bestThen_ : Int32) (row_ : Nat → Int32) (subjectOf_ : Nat → Int32) (seatsOf_ : Nat → Int32) (columnOf_ : Nat → Int32) (choices_ : Nat → Int32) (v1 : Int32) (rr : Int32) (o0 : Int32) (o1 : Int32) (o2 : Nat → Int32) (h : m_X6_subject thrown_ told_ many_ pupils_ row_ subjectOf_ seatsOf_ columnOf_ choices_ v1 = some (rr, o0, o1, o2)) : uMi l yX6_subject wsX6_subject rmX6_subject (dC, dI) [(cyC, .char), (cyI, .int), (cyJ, .long)] [.ref h0, .int v1] [(h0, .inr (6, [.int thrown_, .int told_, .ref h0_row, .int columns_, .int rooms_, .int many_, .ref h0_subjectOf, .ref h0_teacherOf, .ref h0_seatsOf, .ref h0_columnOf, .ref h0_barsOf, .int pupils_, .ref h0_choices, .int kept_, .ref h0_tape, .int taped_, .int at_, .int to_, .int digit_, .int number_, .ref h0_was, .ref h0_readChoices, .int readMany_, .ref h0_open, .ref h0_wayOf, .int bestThen_, .ref h0_cure, .ref h0_left, .ref h0_satIn])), (h0_row, .inl (cyI, 32, .inl row_)), (h0_subjectOf, .inl (cyI, 17, .inl subjectOf_)), (h0_seatsOf, .inl (cyI, 17, .inl seatsOf_)), (h0_columnOf, .inl (cyI, 17, .inl columnOf_)), (h0_choices, .inl (cyI, 24, .inl choices_))] [(h0, .inr (6, [.int o0, .int o1, .ref h0_row, .int columns_, .int rooms_, .int many_, .ref h0_subjectOf, .ref h0_teacherOf, .ref h0_seatsOf, .ref h0_columnOf, .ref h0_barsOf, .int pupils_, .ref h0_choices, .int kept_, .ref h0_tape, .int taped_, .int at_, .int to_, .int digit_, .int number_, .ref h0_was, .ref h0_readChoices, .int readMany_, .ref h0_open, .ref h0_wayOf, .int bestThen_, .ref h0_cure, .ref h0_left, .ref h0_satIn])), (h0_row, .inl (cyI, 32, .inl o2)), (h0_subjectOf, .inl (cyI, 17, .inl subjectOf_)), (h0_seatsOf, .inl (cyI, 17, .inl seatsOf_)), (h0_columnOf, .inl (cyI, 17, .inl columnOf_)), (h0_choices, .inl (cyI, 24, .inl choices_))] rr := by
  refine uMi.of (cc := cX6_subject) (maxL := 5) (by decide) rfl (Nat.le_of_ble_eq_true rfl) (fun p e s m args below meth c A ls Q hx hb hml hown hts hA hP hK hD hE hS hl hret => ?_)
  have hown : s.vm.findClass RX6 = some m.cls := hown
  have hl : lv_has ls 5 [(0, .ref h0), (1, .int v1)] := hl
  have hiX6 : ∀ w ∈ u_ws RX6 TX6 29, w ∈ wsX6_subject := fun _ h9 => List.mem_cons_of_mem _ (List.mem_append_right _ h9)
  have J83 : ∀ (v2 : Int32), ∀ (v3 : Int32), ∀ (thrown_ : Int32), m_X6_subject_83 thrown_ told_ many_ pupils_ row_ subjectOf_ columnOf_ choices_ v1 v2 v3 = some (rr, o0, o1, o2) → ∀ (H : Heap) (locs : List Loc) (ls : Array Slot), va_P (dC, dI) vwCl [(h0, .inr (6, [.int thrown_, .int told_, .ref h0_row, .int columns_, .int rooms_, .int many_, .ref h0_subjectOf, .ref h0_teacherOf, .ref h0_seatsOf, .ref h0_columnOf, .ref h0_barsOf, .int pupils_, .ref h0_choices, .int kept_, .ref h0_tape, .int taped_, .int at_, .int to_, .int digit_, .int number_, .ref h0_was, .ref h0_readChoices, .int readMany_, .ref h0_open, .ref h0_wayOf, .int bestThen_, .ref h0_cure, .ref h0_left, .ref h0_satIn])), (h0_row, .inl (cyI, 32, .inl row_)), (h0_subjectOf, .inl (cyI, 17, .inl subjectOf_)), (h0_seatsOf, .inl (cyI, 17, .inl seatsOf_)), (h0_columnOf, .inl (cyI, 17, .inl columnOf_)), (h0_choices, .inl (cyI, 24, .inl choices_))] H → va_D A [(h0, .inr (6, [.int thrown_, .int told_, .ref h0_row, .int columns_, .int rooms_, .int many_, .ref h0_subjectOf, .ref h0_teacherOf, .ref h0_seatsOf, .ref h0_columnOf, .ref h0_barsOf, .int pupils_, .ref h0_choices, .int kept_, .ref h0_tape, .int taped_, .int at_, .int to_, .int digit_, .int number_, .ref h0_was, .ref h0_readChoices, .int readMany_, .ref h0_open, .ref h0_wayOf, .int bestThen_, .ref h0_cure, .ref h0_left, .ref h0_satIn])), (h0_row, .inl (cyI, 32, .inl row_)), (h0_subjectOf, .inl (cyI, 17, .inl subjectOf_)), (h0_seatsOf, .inl (cyI, 17, .inl seatsOf_)), (h0_columnOf, .inl (cyI, 17, .inl columnOf_)), (h0_choices, .inl (cyI, 24, .inl choices_))] → va_S A s.heap H locs → lv_has ls 5 [(0, .ref h0), (1, .int v1), (2, .int v2), (3, .int v3)] → W p l e rmX6_subject s m args below meth c H locs 0 0 Q (F0 m 83 ls []) := by
    intro v2 v3 thrown_ h H locs ls hP hD hS hl
    unfold m_X6_subject_83 at h
    refine lv_aload_n hx hb dX6_subject_83 rfl (lv_at hl 0 rfl) ?_
    refine lv_iload_n hx hb dX6_subject_84 rfl (lv_at hl 2 rfl) ?_
    refine lv_aload_n hx hb dX6_subject_85 rfl (lv_at hl 0 rfl) ?_
    refine lv_iload_n hx hb dX6_subject_86 rfl (lv_at hl 1 rfl) ?_
    obtain ⟨r_1, hq, h⟩ := bd1_some h
    refine uV_i (b := h0) (As := [.int v1]) (rest := [.int v2, .ref h0]) ⟨hx, hb, hml, hown, hts⟩ (c_X6_chose l dC dI cyC cyI cyJ h0 h0_row h0_subjectOf h0_teacherOf h0_seatsOf h0_columnOf h0_barsOf h0_choices h0_tape h0_was h0_readChoices h0_open h0_wayOf h0_cure h0_left h0_satIn thrown_ told_ columns_ rooms_ many_ pupils_ kept_ taped_ at_ to_ digit_ number_ readMany_ bestThen_ choices_ v1 r_1 hq) (cwV 1 hts gX6_subject_X6_chose rfl rfl rfl (by decide +kernel) ⟨Nat.le_of_ble_eq_true rfl, Nat.le_of_ble_eq_true rfl⟩) hK hE hA hP hD hS [0, 5] rfl rfl rfl 6 0 rfl rfl rfl hl.1 rfl (Nat.le_of_ble_eq_true rfl) ⟨Nat.zero_le _, Nat.zero_le _⟩ dX6_subject_87 (fun H locs hP hD hS => ?_)
    have hP : va_P (dC, dI) vwCl [(h0, .inr (6, [.int thrown_, .int told_, .ref h0_row, .int columns_, .int rooms_, .int many_, .ref h0_subjectOf, .ref h0_teacherOf, .ref h0_seatsOf, .ref h0_columnOf, .ref h0_barsOf, .int pupils_, .ref h0_choices, .int kept_, .ref h0_tape, .int taped_, .int at_, .int to_, .int digit_, .int number_, .ref h0_was, .ref h0_readChoices, .int readMany_, .ref h0_open, .ref h0_wayOf, .int bestThen_, .ref h0_cure, .ref h0_left, .ref h0_satIn])), (h0_row, .inl (cyI, 32, .inl row_)), (h0_subjectOf, .inl (cyI, 17, .inl subjectOf_)), (h0_seatsOf, .inl (cyI, 17, .inl seatsOf_)), (h0_columnOf, .inl (cyI, 17, .inl columnOf_)), (h0_choices, .inl (cyI, 24, .inl choices_))] H := hP
    have hD : va_D A [(h0, .inr (6, [.int thrown_, .int told_, .ref h0_row, .int columns_, .int rooms_, .int many_, .ref h0_subjectOf, .ref h0_teacherOf, .ref h0_seatsOf, .ref h0_columnOf, .ref h0_barsOf, .int pupils_, .ref h0_choices, .int kept_, .ref h0_tape, .int taped_, .int at_, .int to_, .int digit_, .int number_, .ref h0_was, .ref h0_readChoices, .int readMany_, .ref h0_open, .ref h0_wayOf, .int bestThen_, .ref h0_cure, .ref h0_left, .ref h0_satIn])), (h0_row, .inl (cyI, 32, .inl row_)), (h0_subjectOf, .inl (cyI, 17, .inl subjectOf_)), (h0_seatsOf, .inl (cyI, 17, .inl seatsOf_)), (h0_columnOf, .inl (cyI, 17, .inl columnOf_)), (h0_choices, .inl (cyI, 24, .inl choices_))] := hD
    obtain ⟨r_2, hq, h⟩ := bd1_some h
    refine uS_i (As := [.int r_1]) (rest := [.int v2, .ref h0]) ⟨hx, hb, hml, hown, hts⟩ (c_X6_bits l dC dI cyC cyI cyJ r_1 r_2 hq) (va_cwS 1 hts gX6_subject_X6_bits rfl rfl rfl (by decide +kernel) ⟨Nat.le_of_ble_eq_true rfl, Nat.le_of_ble_eq_true rfl⟩) hK hE hA hP hD hS [] rfl rfl rfl rfl hl.1 rfl (Nat.le_of_ble_eq_true rfl) ⟨Nat.zero_le _, Nat.zero_le _⟩ dX6_subject_90 (fun H locs hP hD hS => ?_)
    have hP : va_P (dC, dI) vwCl [(h0, .inr (6, [.int thrown_, .int told_, .ref h0_row, .int columns_, .int rooms_, .int many_, .ref h0_subjectOf, .ref h0_teacherOf, .ref h0_seatsOf, .ref h0_columnOf, .ref h0_barsOf, .int pupils_, .ref h0_choices, .int kept_, .ref h0_tape, .int taped_, .int at_, .int to_, .int digit_, .int number_, .ref h0_was, .ref h0_readChoices, .int readMany_, .ref h0_open, .ref h0_wayOf, .int bestThen_, .ref h0_cure, .ref h0_left, .ref h0_satIn])), (h0_row, .inl (cyI, 32, .inl row_)), (h0_subjectOf, .inl (cyI, 17, .inl subjectOf_)), (h0_seatsOf, .inl (cyI, 17, .inl seatsOf_)), (h0_columnOf, .inl (cyI, 17, .inl columnOf_)), (h0_choices, .inl (cyI, 24, .inl choices_))] H := hP
    have hD : va_D A [(h0, .inr (6, [.int thrown_, .int told_, .ref h0_row, .int columns_, .int rooms_, .int many_, .ref h0_subjectOf, .ref h0_teacherOf, .ref h0_seatsOf, .ref h0_columnOf, .ref h0_barsOf, .int pupils_, .ref h0_choices, .int kept_, .ref h0_tape, .int taped_, .int at_, .int to_, .int digit_, .int number_, .ref h0_was, .ref h0_readChoices, .int readMany_, .ref h0_open, .ref h0_wayOf, .int bestThen_, .ref h0_cure, .ref h0_left, .ref h0_satIn])), (h0_row, .inl (cyI, 32, .inl row_)), (h0_subjectOf, .inl (cyI, 17, .inl subjectOf_)), (h0_seatsOf, .inl (cyI, 17, .inl seatsOf_)), (h0_columnOf, .inl (cyI, 17, .inl columnOf_)), (h0_choices, .inl (cyI, 24, .inl choices_))] := hD
    obtain ⟨told_3, row_4, hq, h⟩ := bd2_some h
    refine uV_v (b := h0) (As := [.int v2, .int r_2]) (rest := []) ⟨hx, hb, hml, hown, hts⟩ (c_X6_notesTwo l dC dI cyC cyI cyJ h0 h0_row h0_subjectOf h0_teacherOf h0_seatsOf h0_columnOf h0_barsOf h0_choices h0_tape h0_was h0_readChoices h0_open h0_wayOf h0_cure h0_left h0_satIn thrown_ told_ columns_ rooms_ many_ pupils_ kept_ taped_ at_ to_ digit_ number_ readMany_ bestThen_ row_ v2 r_2 told_3 row_4 hq) (cwV 2 hts gX6_subject_X6_notesTwo rfl rfl rfl (by decide +kernel) ⟨Nat.le_of_ble_eq_true rfl, Nat.le_of_ble_eq_true rfl⟩) hK hE hA hP hD hS [0, 1] rfl rfl rfl 6 0 rfl rfl rfl hl.1 rfl (Nat.le_of_ble_eq_true rfl) ⟨Nat.zero_le _, Nat.zero_le _⟩ dX6_subject_93 (fun H locs hP hD hS => ?_)
    have hP : va_P (dC, dI) vwCl [(h0, .inr (6, [.int thrown_, .int told_3, .ref h0_row, .int columns_, .int rooms_, .int many_, .ref h0_subjectOf, .ref h0_teacherOf, .ref h0_seatsOf, .ref h0_columnOf, .ref h0_barsOf, .int pupils_, .ref h0_choices, .int kept_, .ref h0_tape, .int taped_, .int at_, .int to_, .int digit_, .int number_, .ref h0_was, .ref h0_readChoices, .int readMany_, .ref h0_open, .ref h0_wayOf, .int bestThen_, .ref h0_cure, .ref h0_left, .ref h0_satIn])), (h0_row, .inl (cyI, 32, .inl row_4)), (h0_subjectOf, .inl (cyI, 17, .inl subjectOf_)), (h0_seatsOf, .inl (cyI, 17, .inl seatsOf_)), (h0_columnOf, .inl (cyI, 17, .inl columnOf_)), (h0_choices, .inl (cyI, 24, .inl choices_))] H := hP
    have hD : va_D A [(h0, .inr (6, [.int thrown_, .int told_3, .ref h0_row, .int columns_, .int rooms_, .int many_, .ref h0_subjectOf, .ref h0_teacherOf, .ref h0_seatsOf, .ref h0_columnOf, .ref h0_barsOf, .int pupils_, .ref h0_choices, .int kept_, .ref h0_tape, .int taped_, .int at_, .int to_, .int digit_, .int number_, .ref h0_was, .ref h0_readChoices, .int readMany_, .ref h0_open, .ref h0_wayOf, .int bestThen_, .ref h0_cure, .ref h0_left, .ref h0_satIn])), (h0_row, .inl (cyI, 32, .inl row_4)), (h0_subjectOf, .inl (cyI, 17, .inl subjectOf_)), (h0_seatsOf, .inl (cyI, 17, .inl seatsOf_)), (h0_columnOf, .inl (cyI, 17, .inl columnOf_)), (h0_choices, .inl (cyI, 24, .inl choices_))] := hD
    refine lv_aload_n hx hb dX6_subject_96 rfl (lv_at hl 0 rfl) ?_
    refine lv_iload_n hx hb dX6_subject_97 rfl (lv_at hl 3 rfl) ?_
    obtain ⟨told_5, row_6, hq, h⟩ := bd2_some h
    refine uV_v (b := h0) (As := [.int v3]) (rest := []) ⟨hx, hb, hml, hown, hts⟩ (c_X6_notes l dC dI cyC cyI cyJ h0 h0_row h0_subjectOf h0_teacherOf h0_seatsOf h0_columnOf h0_barsOf h0_choices h0_tape h0_was h0_readChoices h0_open h0_wayOf h0_cure h0_left h0_satIn thrown_ told_3 columns_ rooms_ many_ pupils_ kept_ taped_ at_ to_ digit_ number_ readMany_ bestThen_ row_4 v3 told_5 row_6 hq) (cwV 1 hts gX6_subject_X6_notes rfl rfl rfl (by decide +kernel) ⟨Nat.le_of_ble_eq_true rfl, Nat.le_of_ble_eq_true rfl⟩) hK hE hA hP hD hS [0, 1] rfl rfl rfl 6 0 rfl rfl rfl hl.1 rfl (Nat.le_of_ble_eq_true rfl) ⟨Nat.zero_le _, Nat.zero_le _⟩ dX6_subject_98 (fun H locs hP hD hS => ?_)
    have hP : va_P (dC, dI) vwCl [(h0, .inr (6, [.int thrown_, .int told_5, .ref h0_row, .int columns_, .int rooms_, .int many_, .ref h0_subjectOf, .ref h0_teacherOf, .ref h0_seatsOf, .ref h0_columnOf, .ref h0_barsOf, .int pupils_, .ref h0_choices, .int kept_, .ref h0_tape, .int taped_, .int at_, .int to_, .int digit_, .int number_, .ref h0_was, .ref h0_readChoices, .int readMany_, .ref h0_open, .ref h0_wayOf, .int bestThen_, .ref h0_cure, .ref h0_left, .ref h0_satIn])), (h0_row, .inl (cyI, 32, .inl row_6)), (h0_subjectOf, .inl (cyI, 17, .inl subjectOf_)), (h0_seatsOf, .inl (cyI, 17, .inl seatsOf_)), (h0_columnOf, .inl (cyI, 17, .inl columnOf_)), (h0_choices, .inl (cyI, 24, .inl choices_))] H := hP
    have hD : va_D A [(h0, .inr (6, [.int thrown_, .int told_5, .ref h0_row, .int columns_, .int rooms_, .int many_, .ref h0_subjectOf, .ref h0_teacherOf, .ref h0_seatsOf, .ref h0_columnOf, .ref h0_barsOf, .int pupils_, .ref h0_choices, .int kept_, .ref h0_tape, .int taped_, .int at_, .int to_, .int digit_, .int number_, .ref h0_was, .ref h0_readChoices, .int readMany_, .ref h0_open, .ref h0_wayOf, .int bestThen_, .ref h0_cure, .ref h0_left, .ref h0_satIn])), (h0_row, .inl (cyI, 32, .inl row_6)), (h0_subjectOf, .inl (cyI, 17, .inl subjectOf_)), (h0_seatsOf, .inl (cyI, 17, .inl seatsOf_)), (h0_columnOf, .inl (cyI, 17, .inl columnOf_)), (h0_choices, .inl (cyI, 24, .inl choices_))] := hD
    refine lv_aload_n hx hb dX6_subject_101 rfl (lv_at hl 0 rfl) ?_
    refine lv_iload_n hx hb dX6_subject_102 rfl (lv_at hl 1 rfl) ?_
    obtain ⟨r_7, hq, h⟩ := bd1_some h
    refine uV_i (b := h0) (As := [.int v1]) (rest := []) ⟨hx, hb, hml, hown, hts⟩ (c_X6_columnsOf l dC dI cyC cyI cyJ h0 h0_row h0_subjectOf h0_teacherOf h0_seatsOf h0_columnOf h0_barsOf h0_choices h0_tape h0_was h0_readChoices h0_open h0_wayOf h0_cure h0_left h0_satIn thrown_ told_5 columns_ rooms_ many_ pupils_ kept_ taped_ at_ to_ digit_ number_ readMany_ bestThen_ subjectOf_ columnOf_ v1 r_7 hq) (cwV 1 hts gX6_subject_X6_columnsOf rfl rfl rfl (by decide +kernel) ⟨Nat.le_of_ble_eq_true rfl, Nat.le_of_ble_eq_true rfl⟩) hK hE hA hP hD hS [0, 2, 4] rfl rfl rfl 6 0 rfl rfl rfl hl.1 rfl (Nat.le_of_ble_eq_true rfl) ⟨Nat.zero_le _, Nat.zero_le _⟩ dX6_subject_103 (fun H locs hP hD hS => ?_)
    have hP : va_P (dC, dI) vwCl [(h0, .inr (6, [.int thrown_, .int told_5, .ref h0_row, .int columns_, .int rooms_, .int many_, .ref h0_subjectOf, .ref h0_teacherOf, .ref h0_seatsOf, .ref h0_columnOf, .ref h0_barsOf, .int pupils_, .ref h0_choices, .int kept_, .ref h0_tape, .int taped_, .int at_, .int to_, .int digit_, .int number_, .ref h0_was, .ref h0_readChoices, .int readMany_, .ref h0_open, .ref h0_wayOf, .int bestThen_, .ref h0_cure, .ref h0_left, .ref h0_satIn])), (h0_row, .inl (cyI, 32, .inl row_6)), (h0_subjectOf, .inl (cyI, 17, .inl subjectOf_)), (h0_seatsOf, .inl (cyI, 17, .inl seatsOf_)), (h0_columnOf, .inl (cyI, 17, .inl columnOf_)), (h0_choices, .inl (cyI, 24, .inl choices_))] H := hP
    have hD : va_D A [(h0, .inr (6, [.int thrown_, .int told_5, .ref h0_row, .int columns_, .int rooms_, .int many_, .ref h0_subjectOf, .ref h0_teacherOf, .ref h0_seatsOf, .ref h0_columnOf, .ref h0_barsOf, .int pupils_, .ref h0_choices, .int kept_, .ref h0_tape, .int taped_, .int at_, .int to_, .int digit_, .int number_, .ref h0_was, .ref h0_readChoices, .int readMany_, .ref h0_open, .ref h0_wayOf, .int bestThen_, .ref h0_cure, .ref h0_left, .ref h0_satIn])), (h0_row, .inl (cyI, 32, .inl row_6)), (h0_subjectOf, .inl (cyI, 17, .inl subjectOf_)), (h0_seatsOf, .inl (cyI, 17, .inl seatsOf_)), (h0_columnOf, .inl (cyI, 17, .inl columnOf_)), (h0_choices, .inl (cyI, 24, .inl choices_))] := hD
    have h : some (r_7, thrown_, told_5, row_6) = some (rr, o0, o1, o2) := h
    have z0 := Option.some.inj h
    obtain ⟨rfl, z1⟩ := Prod.mk.inj z0
    obtain ⟨rfl, z2⟩ := Prod.mk.inj z1
    obtain ⟨rfl, z3⟩ := Prod.mk.inj z2
    obtain rfl := z3
    exact hret _ _ _ _ hP hS rfl dX6_subject_106
  have L21 : ∀ (thrown_ : Int32), ∀ (n21 : Nat), ∀ (v2 : Int32), ∀ (v3 : Int32), ∀ (v4 : Int32), it3 (m_X6_subject_21 thrown_ told_ many_ pupils_ row_ subjectOf_ seatsOf_ columnOf_ choices_ v1) n21 v2 v3 v4 = some (rr, o0, o1, o2) → ∀ (H : Heap) (locs : List Loc) (ls : Array Slot), va_P (dC, dI) vwCl [(h0, .inr (6, [.int thrown_, .int told_, .ref h0_row, .int columns_, .int rooms_, .int many_, .ref h0_subjectOf, .ref h0_teacherOf, .ref h0_seatsOf, .ref h0_columnOf, .ref h0_barsOf, .int pupils_, .ref h0_choices, .int kept_, .ref h0_tape, .int taped_, .int at_, .int to_, .int digit_, .int number_, .ref h0_was, .ref h0_readChoices, .int readMany_, .ref h0_open, .ref h0_wayOf, .int bestThen_, .ref h0_cure, .ref h0_left, .ref h0_satIn])), (h0_row, .inl (cyI, 32, .inl row_)), (h0_subjectOf, .inl (cyI, 17, .inl subjectOf_)), (h0_seatsOf, .inl (cyI, 17, .inl seatsOf_)), (h0_columnOf, .inl (cyI, 17, .inl columnOf_)), (h0_choices, .inl (cyI, 24, .inl choices_))] H → va_D A [(h0, .inr (6, [.int thrown_, .int told_, .ref h0_row, .int columns_, .int rooms_, .int many_, .ref h0_subjectOf, .ref h0_teacherOf, .ref h0_seatsOf, .ref h0_columnOf, .ref h0_barsOf, .int pupils_, .ref h0_choices, .int kept_, .ref h0_tape, .int taped_, .int at_, .int to_, .int digit_, .int number_, .ref h0_was, .ref h0_readChoices, .int readMany_, .ref h0_open, .ref h0_wayOf, .int bestThen_, .ref h0_cure, .ref h0_left, .ref h0_satIn])), (h0_row, .inl (cyI, 32, .inl row_)), (h0_subjectOf, .inl (cyI, 17, .inl subjectOf_)), (h0_seatsOf, .inl (cyI, 17, .inl seatsOf_)), (h0_columnOf, .inl (cyI, 17, .inl columnOf_)), (h0_choices, .inl (cyI, 24, .inl choices_))] → va_S A s.heap H locs → lv_has ls 5 [(0, .ref h0), (1, .int v1), (2, .int v2), (3, .int v3), (4, .int v4)] → W p l e rmX6_subject s m args below meth c H locs 0 0 Q (F0 m 21 ls []) := by
    intro thrown_ n21
    induction n21 with
    | zero => intro v2 v3 v4 h; exact absurd h (fun z => it3_z z)
    | succ n21 ih21 =>
      have J47 : ∀ (v3 : Int32), ∀ (v4 : Int32), ∀ (t0 : Int32), ∀ (t1 : Int32), m_X6_subject_47 subjectOf_ seatsOf_ v1 v3 v4 t0 t1 (it3 (m_X6_subject_21 thrown_ told_ many_ pupils_ row_ subjectOf_ seatsOf_ columnOf_ choices_ v1) n21) = some (rr, o0, o1, o2) → ∀ (H : Heap) (locs : List Loc) (ls : Array Slot), va_P (dC, dI) vwCl [(h0, .inr (6, [.int thrown_, .int told_, .ref h0_row, .int columns_, .int rooms_, .int many_, .ref h0_subjectOf, .ref h0_teacherOf, .ref h0_seatsOf, .ref h0_columnOf, .ref h0_barsOf, .int pupils_, .ref h0_choices, .int kept_, .ref h0_tape, .int taped_, .int at_, .int to_, .int digit_, .int number_, .ref h0_was, .ref h0_readChoices, .int readMany_, .ref h0_open, .ref h0_wayOf, .int bestThen_, .ref h0_cure, .ref h0_left, .ref h0_satIn])), (h0_row, .inl (cyI, 32, .inl row_)), (h0_subjectOf, .inl (cyI, 17, .inl subjectOf_)), (h0_seatsOf, .inl (cyI, 17, .inl seatsOf_)), (h0_columnOf, .inl (cyI, 17, .inl columnOf_)), (h0_choices, .inl (cyI, 24, .inl choices_))] H → va_D A [(h0, .inr (6, [.int thrown_, .int told_, .ref h0_row, .int columns_, .int rooms_, .int many_, .ref h0_subjectOf, .ref h0_teacherOf, .ref h0_seatsOf, .ref h0_columnOf, .ref h0_barsOf, .int pupils_, .ref h0_choices, .int kept_, .ref h0_tape, .int taped_, .int at_, .int to_, .int digit_, .int number_, .ref h0_was, .ref h0_readChoices, .int readMany_, .ref h0_open, .ref h0_wayOf, .int bestThen_, .ref h0_cure, .ref h0_left, .ref h0_satIn])), (h0_row, .inl (cyI, 32, .inl row_)), (h0_subjectOf, .inl (cyI, 17, .inl subjectOf_)), (h0_seatsOf, .inl (cyI, 17, .inl seatsOf_)), (h0_columnOf, .inl (cyI, 17, .inl columnOf_)), (h0_choices, .inl (cyI, 24, .inl choices_))] → va_S A s.heap H locs → lv_has ls 5 [(0, .ref h0), (1, .int v1), (3, .int v3), (4, .int v4)] → W p l e rmX6_subject s m args below meth c H locs 0 0 Q (F0 m 47 ls [.int t1, .int t0]) := by
        intro v3 v4 t0 t1 h H locs ls hP hD hS hl
        unfold m_X6_subject_47 at h
        obtain ⟨r_8, hq, h⟩ := bd1_some h
        refine uS_i (As := [.int t1]) (rest := [.int t0]) ⟨hx, hb, hml, hown, hts⟩ (c_X6_flag l dC dI cyC cyI cyJ t1 r_8 hq) (va_cwS 1 hts gX6_subject_X6_flag rfl rfl rfl (by decide +kernel) ⟨Nat.le_of_ble_eq_true rfl, Nat.le_of_ble_eq_true rfl⟩) hK hE hA hP hD hS [] rfl rfl rfl rfl hl.1 rfl (Nat.le_of_ble_eq_true rfl) ⟨Nat.zero_le _, Nat.zero_le _⟩ dX6_subject_47 (fun H locs hP hD hS => ?_)
        have hP : va_P (dC, dI) vwCl [(h0, .inr (6, [.int thrown_, .int told_, .ref h0_row, .int columns_, .int rooms_, .int many_, .ref h0_subjectOf, .ref h0_teacherOf, .ref h0_seatsOf, .ref h0_columnOf, .ref h0_barsOf, .int pupils_, .ref h0_choices, .int kept_, .ref h0_tape, .int taped_, .int at_, .int to_, .int digit_, .int number_, .ref h0_was, .ref h0_readChoices, .int readMany_, .ref h0_open, .ref h0_wayOf, .int bestThen_, .ref h0_cure, .ref h0_left, .ref h0_satIn])), (h0_row, .inl (cyI, 32, .inl row_)), (h0_subjectOf, .inl (cyI, 17, .inl subjectOf_)), (h0_seatsOf, .inl (cyI, 17, .inl seatsOf_)), (h0_columnOf, .inl (cyI, 17, .inl columnOf_)), (h0_choices, .inl (cyI, 24, .inl choices_))] H := hP
        have hD : va_D A [(h0, .inr (6, [.int thrown_, .int told_, .ref h0_row, .int columns_, .int rooms_, .int many_, .ref h0_subjectOf, .ref h0_teacherOf, .ref h0_seatsOf, .ref h0_columnOf, .ref h0_barsOf, .int pupils_, .ref h0_choices, .int kept_, .ref h0_tape, .int taped_, .int at_, .int to_, .int digit_, .int number_, .ref h0_was, .ref h0_readChoices, .int readMany_, .ref h0_open, .ref h0_wayOf, .int bestThen_, .ref h0_cure, .ref h0_left, .ref h0_satIn])), (h0_row, .inl (cyI, 32, .inl row_)), (h0_subjectOf, .inl (cyI, 17, .inl subjectOf_)), (h0_seatsOf, .inl (cyI, 17, .inl seatsOf_)), (h0_columnOf, .inl (cyI, 17, .inl columnOf_)), (h0_choices, .inl (cyI, 24, .inl choices_))] := hD
        refine lv_iadd hx hb dX6_subject_50 ?_
        refine lv_topi (fun v2_9 e_v2_9 => ?_)
        have h := lt_use e_v2_9 h
        refine lv_istore_n (lv' := [(2, .int v2_9), (0, .ref h0), (1, .int v1), (3, .int v3), (4, .int v4)]) hx hb dX6_subject_51 rfl hl (by decide) rfl (fun ls hl => ?_)
        refine lv_iload_n hx hb dX6_subject_52 rfl (lv_at hl 3 rfl) ?_
        refine lv_aload_n hx hb dX6_subject_53 rfl (lv_at hl 1 rfl) ?_
        refine va_get (D := (dC, dI)) (ci := 6) (v := .ref h0_subjectOf) (C := RX6) (T := TX6) (N := 29) hx hb hts hiX6 hown hK hP 0 rfl rfl 6 (by decide) (hts (.fieldLink RX6 20 "OptionLatticeModel" "subjectOf" "[I") (by decide +kernel)) (fun _ h9 => h9) rfl dX6_subject_54 ?_
        refine lv_iload hx hb dX6_subject_57 (lv_at hl 4 rfl) ?_
        obtain ⟨g_, h⟩ := gd_some h
        refine va_iald hx hb hK hP 2 1 rfl rfl (inb_in g_) dX6_subject_59 ?_
        refine lv_iload_n hx hb dX6_subject_60 rfl (lv_at hl 2 rfl) ?_
        refine lv_icmp_ne (tgt := 74) hx hb dX6_subject_61 (by decide) (fun c_ => ?_) (fun c_ => ?_)
        · have h := (if_neg c_).symm.trans h
          refine lv_iconst (v := 0) hx hb dX6_subject_74 (by decide) ?_
          refine lv_iadd hx hb dX6_subject_75 ?_
          refine lv_topi (fun v3_10 e_v3_10 => ?_)
          have h := lt_use e_v3_10 h
          refine lv_istore_n (lv' := [(3, .int v3_10), (2, .int v2_9), (0, .ref h0), (1, .int v1), (4, .int v4)]) hx hb dX6_subject_76 rfl hl (by decide) rfl (fun ls hl => ?_)
          obtain ⟨v4_11, e_v4_11⟩ : ∃ z : Int32, z = (v4 + 1) := ⟨_, rfl⟩
          have h := lt_use e_v4_11 h
          refine lv_iinc (v := v4_11) (lv' := [(4, .int v4_11), (3, .int v3_10), (2, .int v2_9), (0, .ref h0), (1, .int v1)]) hx hb dX6_subject_77 hl (k := 4) rfl (by rw [e_v4_11]; rfl) (by decide) rfl (fun ls hl => ?_)
          refine lv_goto (tgt := 21) hx hb dX6_subject_80 (by decide) ?_
          exact ih21 v2_9 v3_10 v4_11 h _ _ _ hP hD hS (lv_sub hl [3, 4, 2, 1, 0] rfl)
        · have h := (if_pos c_).symm.trans h
          refine lv_aload_n hx hb dX6_subject_64 rfl (lv_at hl 1 rfl) ?_
          refine va_get (D := (dC, dI)) (ci := 6) (v := .ref h0_seatsOf) (C := RX6) (T := TX6) (N := 29) hx hb hts hiX6 hown hK hP 0 rfl rfl 8 (by decide) (hts (.fieldLink RX6 26 "OptionLatticeModel" "seatsOf" "[I") (by decide +kernel)) (fun _ h9 => h9) rfl dX6_subject_65 ?_
          refine lv_iload hx hb dX6_subject_68 (lv_at hl 4 rfl) ?_
          obtain ⟨g_, h⟩ := gd_some h
          refine va_iald hx hb hK hP 3 1 rfl rfl (inb_in g_) dX6_subject_70 ?_
          refine lv_goto (tgt := 75) hx hb dX6_subject_71 (by decide) ?_
          refine lv_iadd hx hb dX6_subject_75 ?_
          refine lv_topi (fun v3_12 e_v3_12 => ?_)
          have h := lt_use e_v3_12 h
          refine lv_istore_n (lv' := [(3, .int v3_12), (2, .int v2_9), (0, .ref h0), (1, .int v1), (4, .int v4)]) hx hb dX6_subject_76 rfl hl (by decide) rfl (fun ls hl => ?_)
          obtain ⟨v4_13, e_v4_13⟩ : ∃ z : Int32, z = (v4 + 1) := ⟨_, rfl⟩
          have h := lt_use e_v4_13 h
          refine lv_iinc (v := v4_13) (lv' := [(4, .int v4_13), (3, .int v3_12), (2, .int v2_9), (0, .ref h0), (1, .int v1)]) hx hb dX6_subject_77 hl (k := 4) rfl (by rw [e_v4_13]; rfl) (by decide) rfl (fun ls hl => ?_)
          refine lv_goto (tgt := 21) hx hb dX6_subject_80 (by decide) ?_
          exact ih21 v2_9 v3_12 v4_13 h _ _ _ hP hD hS (lv_sub hl [3, 4, 2, 1, 0] rfl)
      intro v2 v3 v4 h H locs ls hP hD hS hl
      have h : m_X6_subject_21 thrown_ told_ many_ pupils_ row_ subjectOf_ seatsOf_ columnOf_ choices_ v1 (it3 (m_X6_subject_21 thrown_ told_ many_ pupils_ row_ subjectOf_ seatsOf_ columnOf_ choices_ v1) n21) v2 v3 v4 = some (rr, o0, o1, o2) := h
      unfold m_X6_subject_21 at h
      refine lv_iload hx hb dX6_subject_21 (lv_at hl 4 rfl) ?_
      refine lv_aload_n hx hb dX6_subject_23 rfl (lv_at hl 0 rfl) ?_
      refine va_get (D := (dC, dI)) (ci := 6) (v := .int many_) (C := RX6) (T := TX6) (N := 29) hx hb hts hiX6 hown hK hP 0 rfl rfl 5 (by decide) (hts (.fieldLink RX6 87 "OptionLatticeModel" "many" "I") (by decide +kernel)) (fun _ h9 => h9) rfl dX6_subject_24 ?_
      refine lv_icmp_ge (tgt := 83) hx hb dX6_subject_27 (by decide) (fun c_ => ?_) (fun c_ => ?_)
      · have h := (if_pos c_).symm.trans h
        exact J83 v2 v3 thrown_ h _ _ _ hP hD hS (lv_sub hl [0, 1, 2, 3] rfl)
      · have h := (if_neg c_).symm.trans h
        refine lv_iload_n hx hb dX6_subject_30 rfl (lv_at hl 2 rfl) ?_
        refine lv_aload_n hx hb dX6_subject_31 rfl (lv_at hl 0 rfl) ?_
        refine va_get (D := (dC, dI)) (ci := 6) (v := .ref h0_subjectOf) (C := RX6) (T := TX6) (N := 29) hx hb hts hiX6 hown hK hP 0 rfl rfl 6 (by decide) (hts (.fieldLink RX6 20 "OptionLatticeModel" "subjectOf" "[I") (by decide +kernel)) (fun _ h9 => h9) rfl dX6_subject_32 ?_
        refine lv_iload hx hb dX6_subject_35 (lv_at hl 4 rfl) ?_
        obtain ⟨g_, h⟩ := gd_some h
        refine va_iald hx hb hK hP 2 1 rfl rfl (inb_in g_) dX6_subject_37 ?_
        refine lv_iload_n hx hb dX6_subject_38 rfl (lv_at hl 1 rfl) ?_
        refine lv_icmp_ne (tgt := 46) hx hb dX6_subject_39 (by decide) (fun c_ => ?_) (fun c_ => ?_)
        · have h := (if_neg c_).symm.trans h
          refine lv_iconst (v := 0) hx hb dX6_subject_46 (by decide) ?_
          exact J47 v3 v4 v2 0 h _ _ _ hP hD hS (lv_sub hl [0, 1, 3, 4] rfl)
        · have h := (if_pos c_).symm.trans h
          refine lv_iconst (v := 1) hx hb dX6_subject_42 (by decide) ?_
          refine lv_goto (tgt := 47) hx hb dX6_subject_43 (by decide) ?_
          exact J47 v3 v4 v2 1 h _ _ _ hP hD hS (lv_sub hl [0, 1, 3, 4] rfl)
  unfold m_X6_subject at h
  refine lv_aload_n hx hb dX6_subject_0 rfl (lv_at hl 0 rfl) ?_
  refine lv_iconst (v := 0) hx hb dX6_subject_1 (by decide) ?_
  refine va_put (D := (dC, dI)) (ci := 6) (v := .int 0) (ty := .int) (C := RX6) (T := TX6) (N := 29) hx hb hts hiX6 tyX6 tyX6_ok nmX6 hown hK hP hD hS 0 rfl rfl 0 (by decide) (hts (.fieldLink RX6 62 "OptionLatticeModel" "thrown" "I") (by decide +kernel)) (fun _ h9 => h9) rfl (by decide +kernel) rfl rfl (Nat.le_of_ble_eq_true rfl) dX6_subject_2 (fun H locs hP hD hS => ?_)
  have hP : va_P (dC, dI) vwCl [(h0, .inr (6, [.int 0, .int told_, .ref h0_row, .int columns_, .int rooms_, .int many_, .ref h0_subjectOf, .ref h0_teacherOf, .ref h0_seatsOf, .ref h0_columnOf, .ref h0_barsOf, .int pupils_, .ref h0_choices, .int kept_, .ref h0_tape, .int taped_, .int at_, .int to_, .int digit_, .int number_, .ref h0_was, .ref h0_readChoices, .int readMany_, .ref h0_open, .ref h0_wayOf, .int bestThen_, .ref h0_cure, .ref h0_left, .ref h0_satIn])), (h0_row, .inl (cyI, 32, .inl row_)), (h0_subjectOf, .inl (cyI, 17, .inl subjectOf_)), (h0_seatsOf, .inl (cyI, 17, .inl seatsOf_)), (h0_columnOf, .inl (cyI, 17, .inl columnOf_)), (h0_choices, .inl (cyI, 24, .inl choices_))] H := hP
  have hD : va_D A [(h0, .inr (6, [.int 0, .int told_, .ref h0_row, .int columns_, .int rooms_, .int many_, .ref h0_subjectOf, .ref h0_teacherOf, .ref h0_seatsOf, .ref h0_columnOf, .ref h0_barsOf, .int pupils_, .ref h0_choices, .int kept_, .ref h0_tape, .int taped_, .int at_, .int to_, .int digit_, .int number_, .ref h0_was, .ref h0_readChoices, .int readMany_, .ref h0_open, .ref h0_wayOf, .int bestThen_, .ref h0_cure, .ref h0_left, .ref h0_satIn])), (h0_row, .inl (cyI, 32, .inl row_)), (h0_subjectOf, .inl (cyI, 17, .inl subjectOf_)), (h0_seatsOf, .inl (cyI, 17, .inl seatsOf_)), (h0_columnOf, .inl (cyI, 17, .inl columnOf_)), (h0_choices, .inl (cyI, 24, .inl choices_))] := hD
  refine lv_iload_n hx hb dX6_subject_5 rfl (lv_at hl 1 rfl) ?_
  obtain ⟨r_14, hq, h⟩ := bd1_some h
  refine uS_i (As := [.int v1]) (rest := []) ⟨hx, hb, hml, hown, hts⟩ (c_X6_isSubject l dC dI cyC cyI cyJ v1 r_14 hq) (va_cwS 1 hts gX6_subject_X6_isSubject rfl rfl rfl (by decide +kernel) ⟨Nat.le_of_ble_eq_true rfl, Nat.le_of_ble_eq_true rfl⟩) hK hE hA hP hD hS [] rfl rfl rfl rfl hl.1 rfl (Nat.le_of_ble_eq_true rfl) ⟨Nat.zero_le _, Nat.zero_le _⟩ dX6_subject_6 (fun H locs hP hD hS => ?_)
  have hP : va_P (dC, dI) vwCl [(h0, .inr (6, [.int 0, .int told_, .ref h0_row, .int columns_, .int rooms_, .int many_, .ref h0_subjectOf, .ref h0_teacherOf, .ref h0_seatsOf, .ref h0_columnOf, .ref h0_barsOf, .int pupils_, .ref h0_choices, .int kept_, .ref h0_tape, .int taped_, .int at_, .int to_, .int digit_, .int number_, .ref h0_was, .ref h0_readChoices, .int readMany_, .ref h0_open, .ref h0_wayOf, .int bestThen_, .ref h0_cure, .ref h0_left, .ref h0_satIn])), (h0_row, .inl (cyI, 32, .inl row_)), (h0_subjectOf, .inl (cyI, 17, .inl subjectOf_)), (h0_seatsOf, .inl (cyI, 17, .inl seatsOf_)), (h0_columnOf, .inl (cyI, 17, .inl columnOf_)), (h0_choices, .inl (cyI, 24, .inl choices_))] H := hP
  have hD : va_D A [(h0, .inr (6, [.int 0, .int told_, .ref h0_row, .int columns_, .int rooms_, .int many_, .ref h0_subjectOf, .ref h0_teacherOf, .ref h0_seatsOf, .ref h0_columnOf, .ref h0_barsOf, .int pupils_, .ref h0_choices, .int kept_, .ref h0_tape, .int taped_, .int at_, .int to_, .int digit_, .int number_, .ref h0_was, .ref h0_readChoices, .int readMany_, .ref h0_open, .ref h0_wayOf, .int bestThen_, .ref h0_cure, .ref h0_left, .ref h0_satIn])), (h0_row, .inl (cyI, 32, .inl row_)), (h0_subjectOf, .inl (cyI, 17, .inl subjectOf_)), (h0_seatsOf, .inl (cyI, 17, .inl seatsOf_)), (h0_columnOf, .inl (cyI, 17, .inl columnOf_)), (h0_choices, .inl (cyI, 24, .inl choices_))] := hD
  refine lv_if_ne (tgt := 14) hx hb dX6_subject_9 (by decide) (fun c_ => ?_) (fun c_ => ?_)
  · have h := (if_neg c_).symm.trans h
    refine lv_iconst (v := 0) hx hb dX6_subject_14 (by decide) ?_
    refine lv_istore_n (lv' := [(2, .int 0), (0, .ref h0), (1, .int v1)]) hx hb dX6_subject_15 rfl hl (by decide) rfl (fun ls hl => ?_)
    refine lv_iconst (v := 0) hx hb dX6_subject_16 (by decide) ?_
    refine lv_istore_n (lv' := [(3, .int 0), (2, .int 0), (0, .ref h0), (1, .int v1)]) hx hb dX6_subject_17 rfl hl (by decide) rfl (fun ls hl => ?_)
    refine lv_iconst (v := 0) hx hb dX6_subject_18 (by decide) ?_
    refine lv_istore (lv' := [(4, .int 0), (3, .int 0), (2, .int 0), (0, .ref h0), (1, .int v1)]) hx hb dX6_subject_19 hl (by decide) rfl (fun ls hl => ?_)
    exact L21 0 1100 0 0 0 h _ _ _ hP hD hS (lv_sub hl [3, 4, 2, 1, 0] rfl)
  · have h := (if_pos c_).symm.trans h
    refine lv_iconst (v := (-1)) hx hb dX6_subject_12 (by decide) ?_
    have h : some ((-1), 0, told_, row_) = some (rr, o0, o1, o2) := h
    have z0 := Option.some.inj h
    obtain ⟨rfl, z1⟩ := Prod.mk.inj z0
    obtain ⟨rfl, z2⟩ := Prod.mk.inj z1
    obtain ⟨rfl, z3⟩ := Prod.mk.inj z2
    obtain rfl := z3
    exact hret _ _ _ _ hP hS rfl dX6_subject_13

def m_X6_pupil (thrown_ : Int32) (told_ : Int32) (many_ : Int32) (pupils_ : Int32) (kept_ : Int32) (row_ : Nat → Int32) (subjectOf_ : Nat → Int32) (columnOf_ : Nat → Int32) (choices_ : Nat → Int32) (open_ : Nat → Int32) (v1 : Int32) : Option (Int32 × Int32 × Int32 × (Nat → Int32) × (Nat → Int32)) :=
  bd1 (m_X6_isPupil pupils_ v1) (fun r_1 => (if r_1 = 0 then some ((-1), 0, told_, row_, open_) else bd2 (m_X6_doesFit many_ subjectOf_ columnOf_ choices_ open_ v1) (fun r_2 open_3 => bd1 (m_X6_flag r_2) (fun r_4 => bd1 (m_X6_has kept_ v1) (fun r_5 => bd1 (m_X6_flag r_5) (fun r_6 => bd2 (m_X6_notesTwo told_ row_ r_4 r_6) (fun told_7 row_8 => gd (inb v1 24) (some ((choices_ v1.toNatClampNeg), 0, told_7, row_8, open_3)))))))))
abbrev rmX6_pupil : Room := { frames := 11, cells := 0, slots := 0, locals := 258 }
set_option maxHeartbeats 4000000 in
set_option maxRecDepth 100000 in
theorem c_X6_pupil (l : Launch) (dC : Nat → ClassId) (dI : Nat → Nat → Nat) (cyC cyI cyJ : ClassId) (h0 h0_row h0_subjectOf h0_teacherOf h0_seatsOf h0_columnOf h0_barsOf h0_choices h0_tape h0_was h0_readChoices h0_open h0_wayOf h0_cure h0_left h0_satIn : Nat) (thrown_ : Int32) (told_ : Int32) (columns_ : Int32) (rooms_ : Int32) (many_ : Int32) (pupils_ : Int32) (kept_ : Int32) (taped_ : Int32) (at_ : Int32) (to_ : Int32) (digit_ : Int32) (number_ : Int32) (readMany_ : Int32) (bestThen_ : Int32) (row_ : Nat → Int32) (subjectOf_ : Nat → Int32) (columnOf_ : Nat → Int32) (choices_ : Nat → Int32) (open_ : Nat → Int32) (v1 : Int32) (rr : Int32) (o0 : Int32) (o1 : Int32) (o2 : Nat → Int32) (o3 : Nat → Int32) (h : m_X6_pupil thrown_ told_ many_ pupils_ kept_ row_ subjectOf_ columnOf_ choices_ open_ v1 = some (rr, o0, o1, o2, o3)) : uMi l yX6_pupil wsX6_pupil rmX6_pupil (dC, dI) [(cyC, .char), (cyI, .int), (cyJ, .long)] [.ref h0, .int v1] [(h0, .inr (6, [.int thrown_, .int told_, .ref h0_row, .int columns_, .int rooms_, .int many_, .ref h0_subjectOf, .ref h0_teacherOf, .ref h0_seatsOf, .ref h0_columnOf, .ref h0_barsOf, .int pupils_, .ref h0_choices, .int kept_, .ref h0_tape, .int taped_, .int at_, .int to_, .int digit_, .int number_, .ref h0_was, .ref h0_readChoices, .int readMany_, .ref h0_open, .ref h0_wayOf, .int bestThen_, .ref h0_cure, .ref h0_left, .ref h0_satIn])), (h0_row, .inl (cyI, 32, .inl row_)), (h0_subjectOf, .inl (cyI, 17, .inl subjectOf_)), (h0_columnOf, .inl (cyI, 17, .inl columnOf_)), (h0_choices, .inl (cyI, 24, .inl choices_)), (h0_open, .inl (cyI, 10, .inl open_))] [(h0, .inr (6, [.int o0, .int o1, .ref h0_row, .int columns_, .int rooms_, .int many_, .ref h0_subjectOf, .ref h0_teacherOf, .ref h0_seatsOf, .ref h0_columnOf, .ref h0_barsOf, .int pupils_, .ref h0_choices, .int kept_, .ref h0_tape, .int taped_, .int at_, .int to_, .int digit_, .int number_, .ref h0_was, .ref h0_readChoices, .int readMany_, .ref h0_open, .ref h0_wayOf, .int bestThen_, .ref h0_cure, .ref h0_left, .ref h0_satIn])), (h0_row, .inl (cyI, 32, .inl o2)), (h0_subjectOf, .inl (cyI, 17, .inl subjectOf_)), (h0_columnOf, .inl (cyI, 17, .inl columnOf_)), (h0_choices, .inl (cyI, 24, .inl choices_)), (h0_open, .inl (cyI, 10, .inl o3))] rr := by
  refine uMi.of (cc := cX6_pupil) (maxL := 2) (by decide) rfl (Nat.le_of_ble_eq_true rfl) (fun p e s m args below meth c A ls Q hx hb hml hown hts hA hP hK hD hE hS hl hret => ?_)
  have hown : s.vm.findClass RX6 = some m.cls := hown
  have hl : lv_has ls 2 [(0, .ref h0), (1, .int v1)] := hl
  have hiX6 : ∀ w ∈ u_ws RX6 TX6 29, w ∈ wsX6_pupil := fun _ h9 => List.mem_cons_of_mem _ (List.mem_append_right _ h9)
  unfold m_X6_pupil at h
  refine lv_aload_n hx hb dX6_pupil_0 rfl (lv_at hl 0 rfl) ?_
  refine lv_iconst (v := 0) hx hb dX6_pupil_1 (by decide) ?_
  refine va_put (D := (dC, dI)) (ci := 6) (v := .int 0) (ty := .int) (C := RX6) (T := TX6) (N := 29) hx hb hts hiX6 tyX6 tyX6_ok nmX6 hown hK hP hD hS 0 rfl rfl 0 (by decide) (hts (.fieldLink RX6 62 "OptionLatticeModel" "thrown" "I") (by decide +kernel)) (fun _ h9 => h9) rfl (by decide +kernel) rfl rfl (Nat.le_of_ble_eq_true rfl) dX6_pupil_2 (fun H locs hP hD hS => ?_)
  have hP : va_P (dC, dI) vwCl [(h0, .inr (6, [.int 0, .int told_, .ref h0_row, .int columns_, .int rooms_, .int many_, .ref h0_subjectOf, .ref h0_teacherOf, .ref h0_seatsOf, .ref h0_columnOf, .ref h0_barsOf, .int pupils_, .ref h0_choices, .int kept_, .ref h0_tape, .int taped_, .int at_, .int to_, .int digit_, .int number_, .ref h0_was, .ref h0_readChoices, .int readMany_, .ref h0_open, .ref h0_wayOf, .int bestThen_, .ref h0_cure, .ref h0_left, .ref h0_satIn])), (h0_row, .inl (cyI, 32, .inl row_)), (h0_subjectOf, .inl (cyI, 17, .inl subjectOf_)), (h0_columnOf, .inl (cyI, 17, .inl columnOf_)), (h0_choices, .inl (cyI, 24, .inl choices_)), (h0_open, .inl (cyI, 10, .inl open_))] H := hP
  have hD : va_D A [(h0, .inr (6, [.int 0, .int told_, .ref h0_row, .int columns_, .int rooms_, .int many_, .ref h0_subjectOf, .ref h0_teacherOf, .ref h0_seatsOf, .ref h0_columnOf, .ref h0_barsOf, .int pupils_, .ref h0_choices, .int kept_, .ref h0_tape, .int taped_, .int at_, .int to_, .int digit_, .int number_, .ref h0_was, .ref h0_readChoices, .int readMany_, .ref h0_open, .ref h0_wayOf, .int bestThen_, .ref h0_cure, .ref h0_left, .ref h0_satIn])), (h0_row, .inl (cyI, 32, .inl row_)), (h0_subjectOf, .inl (cyI, 17, .inl subjectOf_)), (h0_columnOf, .inl (cyI, 17, .inl columnOf_)), (h0_choices, .inl (cyI, 24, .inl choices_)), (h0_open, .inl (cyI, 10, .inl open_))] := hD
  refine lv_aload_n hx hb dX6_pupil_5 rfl (lv_at hl 0 rfl) ?_
  refine lv_iload_n hx hb dX6_pupil_6 rfl (lv_at hl 1 rfl) ?_
  obtain ⟨r_1, hq, h⟩ := bd1_some h
  refine uV_i (b := h0) (As := [.int v1]) (rest := []) ⟨hx, hb, hml, hown, hts⟩ (c_X6_isPupil l dC dI cyC cyI cyJ h0 h0_row h0_subjectOf h0_teacherOf h0_seatsOf h0_columnOf h0_barsOf h0_choices h0_tape h0_was h0_readChoices h0_open h0_wayOf h0_cure h0_left h0_satIn 0 told_ columns_ rooms_ many_ pupils_ kept_ taped_ at_ to_ digit_ number_ readMany_ bestThen_ v1 r_1 hq) (cwV 1 hts gX6_pupil_X6_isPupil rfl rfl rfl (by decide +kernel) ⟨Nat.le_of_ble_eq_true rfl, Nat.le_of_ble_eq_true rfl⟩) hK hE hA hP hD hS [0] rfl rfl rfl 6 0 rfl rfl rfl hl.1 rfl (Nat.le_of_ble_eq_true rfl) ⟨Nat.zero_le _, Nat.zero_le _⟩ dX6_pupil_7 (fun H locs hP hD hS => ?_)
  have hP : va_P (dC, dI) vwCl [(h0, .inr (6, [.int 0, .int told_, .ref h0_row, .int columns_, .int rooms_, .int many_, .ref h0_subjectOf, .ref h0_teacherOf, .ref h0_seatsOf, .ref h0_columnOf, .ref h0_barsOf, .int pupils_, .ref h0_choices, .int kept_, .ref h0_tape, .int taped_, .int at_, .int to_, .int digit_, .int number_, .ref h0_was, .ref h0_readChoices, .int readMany_, .ref h0_open, .ref h0_wayOf, .int bestThen_, .ref h0_cure, .ref h0_left, .ref h0_satIn])), (h0_row, .inl (cyI, 32, .inl row_)), (h0_subjectOf, .inl (cyI, 17, .inl subjectOf_)), (h0_columnOf, .inl (cyI, 17, .inl columnOf_)), (h0_choices, .inl (cyI, 24, .inl choices_)), (h0_open, .inl (cyI, 10, .inl open_))] H := hP
  have hD : va_D A [(h0, .inr (6, [.int 0, .int told_, .ref h0_row, .int columns_, .int rooms_, .int many_, .ref h0_subjectOf, .ref h0_teacherOf, .ref h0_seatsOf, .ref h0_columnOf, .ref h0_barsOf, .int pupils_, .ref h0_choices, .int kept_, .ref h0_tape, .int taped_, .int at_, .int to_, .int digit_, .int number_, .ref h0_was, .ref h0_readChoices, .int readMany_, .ref h0_open, .ref h0_wayOf, .int bestThen_, .ref h0_cure, .ref h0_left, .ref h0_satIn])), (h0_row, .inl (cyI, 32, .inl row_)), (h0_subjectOf, .inl (cyI, 17, .inl subjectOf_)), (h0_columnOf, .inl (cyI, 17, .inl columnOf_)), (h0_choices, .inl (cyI, 24, .inl choices_)), (h0_open, .inl (cyI, 10, .inl open_))] := hD
  refine lv_if_ne (tgt := 15) hx hb dX6_pupil_10 (by decide) (fun c_ => ?_) (fun c_ => ?_)
  · have h := (if_neg c_).symm.trans h
    refine lv_aload_n hx hb dX6_pupil_15 rfl (lv_at hl 0 rfl) ?_
    refine lv_aload_n hx hb dX6_pupil_16 rfl (lv_at hl 0 rfl) ?_
    refine lv_iload_n hx hb dX6_pupil_17 rfl (lv_at hl 1 rfl) ?_
    obtain ⟨r_2, open_3, hq, h⟩ := bd2_some h
    refine uV_i (b := h0) (As := [.int v1]) (rest := [.ref h0]) ⟨hx, hb, hml, hown, hts⟩ (c_X6_doesFit l dC dI cyC cyI cyJ h0 h0_row h0_subjectOf h0_teacherOf h0_seatsOf h0_columnOf h0_barsOf h0_choices h0_tape h0_was h0_readChoices h0_open h0_wayOf h0_cure h0_left h0_satIn 0 told_ columns_ rooms_ many_ pupils_ kept_ taped_ at_ to_ digit_ number_ readMany_ bestThen_ subjectOf_ columnOf_ choices_ open_ v1 r_2 open_3 hq) (cwV 1 hts gX6_pupil_X6_doesFit rfl rfl rfl (by decide +kernel) ⟨Nat.le_of_ble_eq_true rfl, Nat.le_of_ble_eq_true rfl⟩) hK hE hA hP hD hS [0, 2, 3, 4, 5] rfl rfl rfl 6 0 rfl rfl rfl hl.1 rfl (Nat.le_of_ble_eq_true rfl) ⟨Nat.zero_le _, Nat.zero_le _⟩ dX6_pupil_18 (fun H locs hP hD hS => ?_)
    have hP : va_P (dC, dI) vwCl [(h0, .inr (6, [.int 0, .int told_, .ref h0_row, .int columns_, .int rooms_, .int many_, .ref h0_subjectOf, .ref h0_teacherOf, .ref h0_seatsOf, .ref h0_columnOf, .ref h0_barsOf, .int pupils_, .ref h0_choices, .int kept_, .ref h0_tape, .int taped_, .int at_, .int to_, .int digit_, .int number_, .ref h0_was, .ref h0_readChoices, .int readMany_, .ref h0_open, .ref h0_wayOf, .int bestThen_, .ref h0_cure, .ref h0_left, .ref h0_satIn])), (h0_row, .inl (cyI, 32, .inl row_)), (h0_subjectOf, .inl (cyI, 17, .inl subjectOf_)), (h0_columnOf, .inl (cyI, 17, .inl columnOf_)), (h0_choices, .inl (cyI, 24, .inl choices_)), (h0_open, .inl (cyI, 10, .inl open_3))] H := hP
    have hD : va_D A [(h0, .inr (6, [.int 0, .int told_, .ref h0_row, .int columns_, .int rooms_, .int many_, .ref h0_subjectOf, .ref h0_teacherOf, .ref h0_seatsOf, .ref h0_columnOf, .ref h0_barsOf, .int pupils_, .ref h0_choices, .int kept_, .ref h0_tape, .int taped_, .int at_, .int to_, .int digit_, .int number_, .ref h0_was, .ref h0_readChoices, .int readMany_, .ref h0_open, .ref h0_wayOf, .int bestThen_, .ref h0_cure, .ref h0_left, .ref h0_satIn])), (h0_row, .inl (cyI, 32, .inl row_)), (h0_subjectOf, .inl (cyI, 17, .inl subjectOf_)), (h0_columnOf, .inl (cyI, 17, .inl columnOf_)), (h0_choices, .inl (cyI, 24, .inl choices_)), (h0_open, .inl (cyI, 10, .inl open_3))] := hD
    obtain ⟨r_4, hq, h⟩ := bd1_some h
    refine uS_i (As := [.int r_2]) (rest := [.ref h0]) ⟨hx, hb, hml, hown, hts⟩ (c_X6_flag l dC dI cyC cyI cyJ r_2 r_4 hq) (va_cwS 1 hts gX6_pupil_X6_flag rfl rfl rfl (by decide +kernel) ⟨Nat.le_of_ble_eq_true rfl, Nat.le_of_ble_eq_true rfl⟩) hK hE hA hP hD hS [] rfl rfl rfl rfl hl.1 rfl (Nat.le_of_ble_eq_true rfl) ⟨Nat.zero_le _, Nat.zero_le _⟩ dX6_pupil_21 (fun H locs hP hD hS => ?_)
    have hP : va_P (dC, dI) vwCl [(h0, .inr (6, [.int 0, .int told_, .ref h0_row, .int columns_, .int rooms_, .int many_, .ref h0_subjectOf, .ref h0_teacherOf, .ref h0_seatsOf, .ref h0_columnOf, .ref h0_barsOf, .int pupils_, .ref h0_choices, .int kept_, .ref h0_tape, .int taped_, .int at_, .int to_, .int digit_, .int number_, .ref h0_was, .ref h0_readChoices, .int readMany_, .ref h0_open, .ref h0_wayOf, .int bestThen_, .ref h0_cure, .ref h0_left, .ref h0_satIn])), (h0_row, .inl (cyI, 32, .inl row_)), (h0_subjectOf, .inl (cyI, 17, .inl subjectOf_)), (h0_columnOf, .inl (cyI, 17, .inl columnOf_)), (h0_choices, .inl (cyI, 24, .inl choices_)), (h0_open, .inl (cyI, 10, .inl open_3))] H := hP
    have hD : va_D A [(h0, .inr (6, [.int 0, .int told_, .ref h0_row, .int columns_, .int rooms_, .int many_, .ref h0_subjectOf, .ref h0_teacherOf, .ref h0_seatsOf, .ref h0_columnOf, .ref h0_barsOf, .int pupils_, .ref h0_choices, .int kept_, .ref h0_tape, .int taped_, .int at_, .int to_, .int digit_, .int number_, .ref h0_was, .ref h0_readChoices, .int readMany_, .ref h0_open, .ref h0_wayOf, .int bestThen_, .ref h0_cure, .ref h0_left, .ref h0_satIn])), (h0_row, .inl (cyI, 32, .inl row_)), (h0_subjectOf, .inl (cyI, 17, .inl subjectOf_)), (h0_columnOf, .inl (cyI, 17, .inl columnOf_)), (h0_choices, .inl (cyI, 24, .inl choices_)), (h0_open, .inl (cyI, 10, .inl open_3))] := hD
    refine lv_aload_n hx hb dX6_pupil_24 rfl (lv_at hl 0 rfl) ?_
    refine va_get (D := (dC, dI)) (ci := 6) (v := .int kept_) (C := RX6) (T := TX6) (N := 29) hx hb hts hiX6 hown hK hP 0 rfl rfl 13 (by decide) (hts (.fieldLink RX6 158 "OptionLatticeModel" "kept" "I") (by decide +kernel)) (fun _ h9 => h9) rfl dX6_pupil_25 ?_
    refine lv_iload_n hx hb dX6_pupil_28 rfl (lv_at hl 1 rfl) ?_
    obtain ⟨r_5, hq, h⟩ := bd1_some h
    refine uS_i (As := [.int kept_, .int v1]) (rest := [.int r_4, .ref h0]) ⟨hx, hb, hml, hown, hts⟩ (c_X6_has l dC dI cyC cyI cyJ kept_ v1 r_5 hq) (va_cwS 2 hts gX6_pupil_X6_has rfl rfl rfl (by decide +kernel) ⟨Nat.le_of_ble_eq_true rfl, Nat.le_of_ble_eq_true rfl⟩) hK hE hA hP hD hS [] rfl rfl rfl rfl hl.1 rfl (Nat.le_of_ble_eq_true rfl) ⟨Nat.zero_le _, Nat.zero_le _⟩ dX6_pupil_29 (fun H locs hP hD hS => ?_)
    have hP : va_P (dC, dI) vwCl [(h0, .inr (6, [.int 0, .int told_, .ref h0_row, .int columns_, .int rooms_, .int many_, .ref h0_subjectOf, .ref h0_teacherOf, .ref h0_seatsOf, .ref h0_columnOf, .ref h0_barsOf, .int pupils_, .ref h0_choices, .int kept_, .ref h0_tape, .int taped_, .int at_, .int to_, .int digit_, .int number_, .ref h0_was, .ref h0_readChoices, .int readMany_, .ref h0_open, .ref h0_wayOf, .int bestThen_, .ref h0_cure, .ref h0_left, .ref h0_satIn])), (h0_row, .inl (cyI, 32, .inl row_)), (h0_subjectOf, .inl (cyI, 17, .inl subjectOf_)), (h0_columnOf, .inl (cyI, 17, .inl columnOf_)), (h0_choices, .inl (cyI, 24, .inl choices_)), (h0_open, .inl (cyI, 10, .inl open_3))] H := hP
    have hD : va_D A [(h0, .inr (6, [.int 0, .int told_, .ref h0_row, .int columns_, .int rooms_, .int many_, .ref h0_subjectOf, .ref h0_teacherOf, .ref h0_seatsOf, .ref h0_columnOf, .ref h0_barsOf, .int pupils_, .ref h0_choices, .int kept_, .ref h0_tape, .int taped_, .int at_, .int to_, .int digit_, .int number_, .ref h0_was, .ref h0_readChoices, .int readMany_, .ref h0_open, .ref h0_wayOf, .int bestThen_, .ref h0_cure, .ref h0_left, .ref h0_satIn])), (h0_row, .inl (cyI, 32, .inl row_)), (h0_subjectOf, .inl (cyI, 17, .inl subjectOf_)), (h0_columnOf, .inl (cyI, 17, .inl columnOf_)), (h0_choices, .inl (cyI, 24, .inl choices_)), (h0_open, .inl (cyI, 10, .inl open_3))] := hD
    obtain ⟨r_6, hq, h⟩ := bd1_some h
    refine uS_i (As := [.int r_5]) (rest := [.int r_4, .ref h0]) ⟨hx, hb, hml, hown, hts⟩ (c_X6_flag l dC dI cyC cyI cyJ r_5 r_6 hq) (va_cwS 1 hts gX6_pupil_X6_flag rfl rfl rfl (by decide +kernel) ⟨Nat.le_of_ble_eq_true rfl, Nat.le_of_ble_eq_true rfl⟩) hK hE hA hP hD hS [] rfl rfl rfl rfl hl.1 rfl (Nat.le_of_ble_eq_true rfl) ⟨Nat.zero_le _, Nat.zero_le _⟩ dX6_pupil_32 (fun H locs hP hD hS => ?_)
    have hP : va_P (dC, dI) vwCl [(h0, .inr (6, [.int 0, .int told_, .ref h0_row, .int columns_, .int rooms_, .int many_, .ref h0_subjectOf, .ref h0_teacherOf, .ref h0_seatsOf, .ref h0_columnOf, .ref h0_barsOf, .int pupils_, .ref h0_choices, .int kept_, .ref h0_tape, .int taped_, .int at_, .int to_, .int digit_, .int number_, .ref h0_was, .ref h0_readChoices, .int readMany_, .ref h0_open, .ref h0_wayOf, .int bestThen_, .ref h0_cure, .ref h0_left, .ref h0_satIn])), (h0_row, .inl (cyI, 32, .inl row_)), (h0_subjectOf, .inl (cyI, 17, .inl subjectOf_)), (h0_columnOf, .inl (cyI, 17, .inl columnOf_)), (h0_choices, .inl (cyI, 24, .inl choices_)), (h0_open, .inl (cyI, 10, .inl open_3))] H := hP
    have hD : va_D A [(h0, .inr (6, [.int 0, .int told_, .ref h0_row, .int columns_, .int rooms_, .int many_, .ref h0_subjectOf, .ref h0_teacherOf, .ref h0_seatsOf, .ref h0_columnOf, .ref h0_barsOf, .int pupils_, .ref h0_choices, .int kept_, .ref h0_tape, .int taped_, .int at_, .int to_, .int digit_, .int number_, .ref h0_was, .ref h0_readChoices, .int readMany_, .ref h0_open, .ref h0_wayOf, .int bestThen_, .ref h0_cure, .ref h0_left, .ref h0_satIn])), (h0_row, .inl (cyI, 32, .inl row_)), (h0_subjectOf, .inl (cyI, 17, .inl subjectOf_)), (h0_columnOf, .inl (cyI, 17, .inl columnOf_)), (h0_choices, .inl (cyI, 24, .inl choices_)), (h0_open, .inl (cyI, 10, .inl open_3))] := hD
    obtain ⟨told_7, row_8, hq, h⟩ := bd2_some h
    refine uV_v (b := h0) (As := [.int r_4, .int r_6]) (rest := []) ⟨hx, hb, hml, hown, hts⟩ (c_X6_notesTwo l dC dI cyC cyI cyJ h0 h0_row h0_subjectOf h0_teacherOf h0_seatsOf h0_columnOf h0_barsOf h0_choices h0_tape h0_was h0_readChoices h0_open h0_wayOf h0_cure h0_left h0_satIn 0 told_ columns_ rooms_ many_ pupils_ kept_ taped_ at_ to_ digit_ number_ readMany_ bestThen_ row_ r_4 r_6 told_7 row_8 hq) (cwV 2 hts gX6_pupil_X6_notesTwo rfl rfl rfl (by decide +kernel) ⟨Nat.le_of_ble_eq_true rfl, Nat.le_of_ble_eq_true rfl⟩) hK hE hA hP hD hS [0, 1] rfl rfl rfl 6 0 rfl rfl rfl hl.1 rfl (Nat.le_of_ble_eq_true rfl) ⟨Nat.zero_le _, Nat.zero_le _⟩ dX6_pupil_35 (fun H locs hP hD hS => ?_)
    have hP : va_P (dC, dI) vwCl [(h0, .inr (6, [.int 0, .int told_7, .ref h0_row, .int columns_, .int rooms_, .int many_, .ref h0_subjectOf, .ref h0_teacherOf, .ref h0_seatsOf, .ref h0_columnOf, .ref h0_barsOf, .int pupils_, .ref h0_choices, .int kept_, .ref h0_tape, .int taped_, .int at_, .int to_, .int digit_, .int number_, .ref h0_was, .ref h0_readChoices, .int readMany_, .ref h0_open, .ref h0_wayOf, .int bestThen_, .ref h0_cure, .ref h0_left, .ref h0_satIn])), (h0_row, .inl (cyI, 32, .inl row_8)), (h0_subjectOf, .inl (cyI, 17, .inl subjectOf_)), (h0_columnOf, .inl (cyI, 17, .inl columnOf_)), (h0_choices, .inl (cyI, 24, .inl choices_)), (h0_open, .inl (cyI, 10, .inl open_3))] H := hP
    have hD : va_D A [(h0, .inr (6, [.int 0, .int told_7, .ref h0_row, .int columns_, .int rooms_, .int many_, .ref h0_subjectOf, .ref h0_teacherOf, .ref h0_seatsOf, .ref h0_columnOf, .ref h0_barsOf, .int pupils_, .ref h0_choices, .int kept_, .ref h0_tape, .int taped_, .int at_, .int to_, .int digit_, .int number_, .ref h0_was, .ref h0_readChoices, .int readMany_, .ref h0_open, .ref h0_wayOf, .int bestThen_, .ref h0_cure, .ref h0_left, .ref h0_satIn])), (h0_row, .inl (cyI, 32, .inl row_8)), (h0_subjectOf, .inl (cyI, 17, .inl subjectOf_)), (h0_columnOf, .inl (cyI, 17, .inl columnOf_)), (h0_choices, .inl (cyI, 24, .inl choices_)), (h0_open, .inl (cyI, 10, .inl open_3))] := hD
    refine lv_aload_n hx hb dX6_pupil_38 rfl (lv_at hl 0 rfl) ?_
    refine va_get (D := (dC, dI)) (ci := 6) (v := .ref h0_choices) (C := RX6) (T := TX6) (N := 29) hx hb hts hiX6 hown hK hP 0 rfl rfl 12 (by decide) (hts (.fieldLink RX6 35 "OptionLatticeModel" "choices" "[I") (by decide +kernel)) (fun _ h9 => h9) rfl dX6_pupil_39 ?_
    refine lv_iload_n hx hb dX6_pupil_42 rfl (lv_at hl 1 rfl) ?_
    obtain ⟨g_, h⟩ := gd_some h
    refine va_iald hx hb hK hP 4 1 rfl rfl (inb_in g_) dX6_pupil_43 ?_
    have h : some ((choices_ v1.toNatClampNeg), 0, told_7, row_8, open_3) = some (rr, o0, o1, o2, o3) := h
    have z0 := Option.some.inj h
    obtain ⟨rfl, z1⟩ := Prod.mk.inj z0
    obtain ⟨rfl, z2⟩ := Prod.mk.inj z1
    obtain ⟨rfl, z3⟩ := Prod.mk.inj z2
    obtain ⟨rfl, z4⟩ := Prod.mk.inj z3
    obtain rfl := z4
    exact hret _ _ _ _ hP hS rfl dX6_pupil_44
  · have h := (if_pos c_).symm.trans h
    refine lv_iconst (v := (-1)) hx hb dX6_pupil_13 (by decide) ?_
    have h : some ((-1), 0, told_, row_, open_) = some (rr, o0, o1, o2, o3) := h
    have z0 := Option.some.inj h
    obtain ⟨rfl, z1⟩ := Prod.mk.inj z0
    obtain ⟨rfl, z2⟩ := Prod.mk.inj z1
    obtain ⟨rfl, z3⟩ := Prod.mk.inj z2
    obtain ⟨rfl, z4⟩ := Prod.mk.inj z3
    obtain rfl := z4
    exact hret _ _ _ _ hP hS rfl dX6_pupil_14
