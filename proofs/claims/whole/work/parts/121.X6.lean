def m_X6_sets_99 (thrown_ : Int32) (told_ : Int32) (row_ : Nat → Int32) (open_ : Nat → Int32) (v2 : Int32) (v3 : Int32) (v4 : Int32) : Option (Int32 × Int32 × Int32 × (Nat → Int32) × (Nat → Int32)) :=
  bd2 (m_X6_notesTwo told_ row_ v2 v4) (fun told_1 row_2 => some (v3, thrown_, told_1, row_2, open_))
def m_X6_sets_33 (thrown_ : Int32) (told_ : Int32) (row_ : Nat → Int32) (open_ : Nat → Int32) (v1 : Int32) (rec33 : Int32 → Int32 → Int32 → Int32 → Option (Int32 × Int32 × Int32 × (Nat → Int32) × (Nat → Int32))) : Int32 → Int32 → Int32 → Int32 → Option (Int32 × Int32 × Int32 × (Nat → Int32) × (Nat → Int32)) := fun v2 v3 v4 v5 =>
  (if 1024 ≤ v5 then m_X6_sets_99 thrown_ told_ row_ open_ v2 v3 v4 else bd1 (m_X6_bits v5) (fun r_3 => (if r_3 = v1 then bd1 (m_X6_hasWay 8 open_ v5 0) (fun r_4 => lt' (v2 + 1) (fun v2_5 => bd1 (m_X6_flag r_4) (fun r_6 => lt' (v3 + r_6) (fun v3_7 => (if r_4 = 0 then (if v4 = (-1) then lt' (v5 + 1) (fun v5_10 => rec33 v2_5 v3_7 v5 v5_10) else lt' (v5 + 1) (fun v5_9 => rec33 v2_5 v3_7 v4 v5_9)) else lt' (v5 + 1) (fun v5_8 => rec33 v2_5 v3_7 v4 v5_8)))))) else lt' (v5 + 1) (fun v5_11 => rec33 v2 v3 v4 v5_11))))
def m_X6_sets (thrown_ : Int32) (told_ : Int32) (many_ : Int32) (row_ : Nat → Int32) (subjectOf_ : Nat → Int32) (columnOf_ : Nat → Int32) (open_ : Nat → Int32) (v1 : Int32) : Option (Int32 × Int32 × Int32 × (Nat → Int32) × (Nat → Int32)) :=
  bd1 (m_X6_in (Int32.toInt64 v1) 1 6) (fun r_12 => (if r_12 = 0 then some ((-1), 0, told_, row_, open_) else bd1 (m_X6_laysOpen many_ subjectOf_ columnOf_ open_) (fun open_13 => it4 (m_X6_sets_33 0 told_ row_ open_13 v1) 1100 0 0 (-1) 0)))
abbrev rmX6_sets : Room := { frames := 10, cells := 0, slots := 0, locals := 237 }
set_option maxHeartbeats 4000000 in
set_option maxRecDepth 100000 in
theorem c_X6_sets (l : Launch) (dC : Nat → ClassId) (dI : Nat → Nat → Nat) (cyC cyI cyJ : ClassId) (h0 h0_row h0_subjectOf h0_teacherOf h0_seatsOf h0_columnOf h0_barsOf h0_choices h0_tape h0_was h0_readChoices h0_open h0_wayOf h0_cure h0_left h0_satIn : Nat) (thrown_ : Int32) (told_ : Int32) (columns_ : Int32) (rooms_ : Int32) (many_ : Int32) (pupils_ : Int32) (kept_ : Int32) (taped_ : Int32) (at_ : Int32) (to_ : Int32) (digit_ : Int32) (number_ : Int32) (readMany_ : Int32) (bestThen_ : Int32) (row_ : Nat → Int32) (subjectOf_ : Nat → Int32) (columnOf_ : Nat → Int32) (open_ : Nat → Int32) (v1 : Int32) (rr : Int32) (o0 : Int32) (o1 : Int32) (o2 : Nat → Int32) (o3 : Nat → Int32) (h : m_X6_sets thrown_ told_ many_ row_ subjectOf_ columnOf_ open_ v1 = some (rr, o0, o1, o2, o3)) : uMi l yX6_sets wsX6_sets rmX6_sets (dC, dI) [(cyC, .char), (cyI, .int), (cyJ, .long)] [.ref h0, .int v1] [(h0, .inr (6, [.int thrown_, .int told_, .ref h0_row, .int columns_, .int rooms_, .int many_, .ref h0_subjectOf, .ref h0_teacherOf, .ref h0_seatsOf, .ref h0_columnOf, .ref h0_barsOf, .int pupils_, .ref h0_choices, .int kept_, .ref h0_tape, .int taped_, .int at_, .int to_, .int digit_, .int number_, .ref h0_was, .ref h0_readChoices, .int readMany_, .ref h0_open, .ref h0_wayOf, .int bestThen_, .ref h0_cure, .ref h0_left, .ref h0_satIn])), (h0_row, .inl (cyI, 32, .inl row_)), (h0_subjectOf, .inl (cyI, 17, .inl subjectOf_)), (h0_columnOf, .inl (cyI, 17, .inl columnOf_)), (h0_open, .inl (cyI, 10, .inl open_))] [(h0, .inr (6, [.int o0, .int o1, .ref h0_row, .int columns_, .int rooms_, .int many_, .ref h0_subjectOf, .ref h0_teacherOf, .ref h0_seatsOf, .ref h0_columnOf, .ref h0_barsOf, .int pupils_, .ref h0_choices, .int kept_, .ref h0_tape, .int taped_, .int at_, .int to_, .int digit_, .int number_, .ref h0_was, .ref h0_readChoices, .int readMany_, .ref h0_open, .ref h0_wayOf, .int bestThen_, .ref h0_cure, .ref h0_left, .ref h0_satIn])), (h0_row, .inl (cyI, 32, .inl o2)), (h0_subjectOf, .inl (cyI, 17, .inl subjectOf_)), (h0_columnOf, .inl (cyI, 17, .inl columnOf_)), (h0_open, .inl (cyI, 10, .inl o3))] rr := by
  refine uMi.of (cc := cX6_sets) (maxL := 7) (by decide) rfl (Nat.le_of_ble_eq_true rfl) (fun p e s m args below meth c A ls Q hx hb hml hown hts hA hP hK hD hE hS hl hret => ?_)
  have hown : s.vm.findClass RX6 = some m.cls := hown
  have hl : lv_has ls 7 [(0, .ref h0), (1, .int v1)] := hl
  have hiX6 : ∀ w ∈ u_ws RX6 TX6 29, w ∈ wsX6_sets := fun _ h9 => List.mem_cons_of_mem _ (List.mem_append_right _ h9)
  have J99 : ∀ (v2 : Int32), ∀ (v3 : Int32), ∀ (v4 : Int32), ∀ (thrown_ : Int32), ∀ (open_ : Nat → Int32), m_X6_sets_99 thrown_ told_ row_ open_ v2 v3 v4 = some (rr, o0, o1, o2, o3) → ∀ (H : Heap) (locs : List Loc) (ls : Array Slot), va_P (dC, dI) vwCl [(h0, .inr (6, [.int thrown_, .int told_, .ref h0_row, .int columns_, .int rooms_, .int many_, .ref h0_subjectOf, .ref h0_teacherOf, .ref h0_seatsOf, .ref h0_columnOf, .ref h0_barsOf, .int pupils_, .ref h0_choices, .int kept_, .ref h0_tape, .int taped_, .int at_, .int to_, .int digit_, .int number_, .ref h0_was, .ref h0_readChoices, .int readMany_, .ref h0_open, .ref h0_wayOf, .int bestThen_, .ref h0_cure, .ref h0_left, .ref h0_satIn])), (h0_row, .inl (cyI, 32, .inl row_)), (h0_subjectOf, .inl (cyI, 17, .inl subjectOf_)), (h0_columnOf, .inl (cyI, 17, .inl columnOf_)), (h0_open, .inl (cyI, 10, .inl open_))] H → va_D A [(h0, .inr (6, [.int thrown_, .int told_, .ref h0_row, .int columns_, .int rooms_, .int many_, .ref h0_subjectOf, .ref h0_teacherOf, .ref h0_seatsOf, .ref h0_columnOf, .ref h0_barsOf, .int pupils_, .ref h0_choices, .int kept_, .ref h0_tape, .int taped_, .int at_, .int to_, .int digit_, .int number_, .ref h0_was, .ref h0_readChoices, .int readMany_, .ref h0_open, .ref h0_wayOf, .int bestThen_, .ref h0_cure, .ref h0_left, .ref h0_satIn])), (h0_row, .inl (cyI, 32, .inl row_)), (h0_subjectOf, .inl (cyI, 17, .inl subjectOf_)), (h0_columnOf, .inl (cyI, 17, .inl columnOf_)), (h0_open, .inl (cyI, 10, .inl open_))] → va_S A s.heap H locs → lv_has ls 7 [(0, .ref h0), (2, .int v2), (3, .int v3), (4, .int v4)] → W p l e rmX6_sets s m args below meth c H locs 0 0 Q (F0 m 99 ls []) := by
    intro v2 v3 v4 thrown_ open_ h H locs ls hP hD hS hl
    unfold m_X6_sets_99 at h
    refine lv_aload_n hx hb dX6_sets_99 rfl (lv_at hl 0 rfl) ?_
    refine lv_iload_n hx hb dX6_sets_100 rfl (lv_at hl 1 rfl) ?_
    refine lv_iload hx hb dX6_sets_101 (lv_at hl 3 rfl) ?_
    obtain ⟨told_1, row_2, hq, h⟩ := bd2_some h
    refine uV_v (b := h0) (As := [.int v2, .int v4]) (rest := []) ⟨hx, hb, hml, hown, hts⟩ (c_X6_notesTwo l dC dI cyC cyI cyJ h0 h0_row h0_subjectOf h0_teacherOf h0_seatsOf h0_columnOf h0_barsOf h0_choices h0_tape h0_was h0_readChoices h0_open h0_wayOf h0_cure h0_left h0_satIn thrown_ told_ columns_ rooms_ many_ pupils_ kept_ taped_ at_ to_ digit_ number_ readMany_ bestThen_ row_ v2 v4 told_1 row_2 hq) (cwV 2 hts gX6_sets_X6_notesTwo rfl rfl rfl (by decide +kernel) ⟨Nat.le_of_ble_eq_true rfl, Nat.le_of_ble_eq_true rfl⟩) hK hE hA hP hD hS [0, 1] rfl rfl rfl 6 0 rfl rfl rfl hl.1 rfl (Nat.le_of_ble_eq_true rfl) ⟨Nat.zero_le _, Nat.zero_le _⟩ dX6_sets_103 (fun H locs hP hD hS => ?_)
    have hP : va_P (dC, dI) vwCl [(h0, .inr (6, [.int thrown_, .int told_1, .ref h0_row, .int columns_, .int rooms_, .int many_, .ref h0_subjectOf, .ref h0_teacherOf, .ref h0_seatsOf, .ref h0_columnOf, .ref h0_barsOf, .int pupils_, .ref h0_choices, .int kept_, .ref h0_tape, .int taped_, .int at_, .int to_, .int digit_, .int number_, .ref h0_was, .ref h0_readChoices, .int readMany_, .ref h0_open, .ref h0_wayOf, .int bestThen_, .ref h0_cure, .ref h0_left, .ref h0_satIn])), (h0_row, .inl (cyI, 32, .inl row_2)), (h0_subjectOf, .inl (cyI, 17, .inl subjectOf_)), (h0_columnOf, .inl (cyI, 17, .inl columnOf_)), (h0_open, .inl (cyI, 10, .inl open_))] H := hP
    have hD : va_D A [(h0, .inr (6, [.int thrown_, .int told_1, .ref h0_row, .int columns_, .int rooms_, .int many_, .ref h0_subjectOf, .ref h0_teacherOf, .ref h0_seatsOf, .ref h0_columnOf, .ref h0_barsOf, .int pupils_, .ref h0_choices, .int kept_, .ref h0_tape, .int taped_, .int at_, .int to_, .int digit_, .int number_, .ref h0_was, .ref h0_readChoices, .int readMany_, .ref h0_open, .ref h0_wayOf, .int bestThen_, .ref h0_cure, .ref h0_left, .ref h0_satIn])), (h0_row, .inl (cyI, 32, .inl row_2)), (h0_subjectOf, .inl (cyI, 17, .inl subjectOf_)), (h0_columnOf, .inl (cyI, 17, .inl columnOf_)), (h0_open, .inl (cyI, 10, .inl open_))] := hD
    refine lv_iload_n hx hb dX6_sets_106 rfl (lv_at hl 2 rfl) ?_
    have h : some (v3, thrown_, told_1, row_2, open_) = some (rr, o0, o1, o2, o3) := h
    have z0 := Option.some.inj h
    obtain ⟨rfl, z1⟩ := Prod.mk.inj z0
    obtain ⟨rfl, z2⟩ := Prod.mk.inj z1
    obtain ⟨rfl, z3⟩ := Prod.mk.inj z2
    obtain ⟨rfl, z4⟩ := Prod.mk.inj z3
    obtain rfl := z4
    exact hret _ _ _ _ hP hS rfl dX6_sets_107
  have L33 : ∀ (thrown_ : Int32), ∀ (open_ : Nat → Int32), ∀ (n33 : Nat), ∀ (v2 : Int32), ∀ (v3 : Int32), ∀ (v4 : Int32), ∀ (v5 : Int32), it4 (m_X6_sets_33 thrown_ told_ row_ open_ v1) n33 v2 v3 v4 v5 = some (rr, o0, o1, o2, o3) → ∀ (H : Heap) (locs : List Loc) (ls : Array Slot), va_P (dC, dI) vwCl [(h0, .inr (6, [.int thrown_, .int told_, .ref h0_row, .int columns_, .int rooms_, .int many_, .ref h0_subjectOf, .ref h0_teacherOf, .ref h0_seatsOf, .ref h0_columnOf, .ref h0_barsOf, .int pupils_, .ref h0_choices, .int kept_, .ref h0_tape, .int taped_, .int at_, .int to_, .int digit_, .int number_, .ref h0_was, .ref h0_readChoices, .int readMany_, .ref h0_open, .ref h0_wayOf, .int bestThen_, .ref h0_cure, .ref h0_left, .ref h0_satIn])), (h0_row, .inl (cyI, 32, .inl row_)), (h0_subjectOf, .inl (cyI, 17, .inl subjectOf_)), (h0_columnOf, .inl (cyI, 17, .inl columnOf_)), (h0_open, .inl (cyI, 10, .inl open_))] H → va_D A [(h0, .inr (6, [.int thrown_, .int told_, .ref h0_row, .int columns_, .int rooms_, .int many_, .ref h0_subjectOf, .ref h0_teacherOf, .ref h0_seatsOf, .ref h0_columnOf, .ref h0_barsOf, .int pupils_, .ref h0_choices, .int kept_, .ref h0_tape, .int taped_, .int at_, .int to_, .int digit_, .int number_, .ref h0_was, .ref h0_readChoices, .int readMany_, .ref h0_open, .ref h0_wayOf, .int bestThen_, .ref h0_cure, .ref h0_left, .ref h0_satIn])), (h0_row, .inl (cyI, 32, .inl row_)), (h0_subjectOf, .inl (cyI, 17, .inl subjectOf_)), (h0_columnOf, .inl (cyI, 17, .inl columnOf_)), (h0_open, .inl (cyI, 10, .inl open_))] → va_S A s.heap H locs → lv_has ls 7 [(0, .ref h0), (1, .int v1), (2, .int v2), (3, .int v3), (4, .int v4), (5, .int v5)] → W p l e rmX6_sets s m args below meth c H locs 0 0 Q (F0 m 33 ls []) := by
    intro thrown_ open_ n33
    induction n33 with
    | zero => intro v2 v3 v4 v5 h; exact absurd h (fun z => it4_z z)
    | succ n33 ih33 =>
      intro v2 v3 v4 v5 h H locs ls hP hD hS hl
      have h : m_X6_sets_33 thrown_ told_ row_ open_ v1 (it4 (m_X6_sets_33 thrown_ told_ row_ open_ v1) n33) v2 v3 v4 v5 = some (rr, o0, o1, o2, o3) := h
      unfold m_X6_sets_33 at h
      refine lv_iload hx hb dX6_sets_33 (lv_at hl 5 rfl) ?_
      refine lv_sipush (v := 1024) hx hb dX6_sets_35 (by decide) ?_
      refine lv_icmp_ge (tgt := 99) hx hb dX6_sets_38 (by decide) (fun c_ => ?_) (fun c_ => ?_)
      · have h := (if_pos c_).symm.trans h
        exact J99 v2 v3 v4 thrown_ open_ h _ _ _ hP hD hS (lv_sub hl [0, 2, 3, 4] rfl)
      · have h := (if_neg c_).symm.trans h
        refine lv_iload hx hb dX6_sets_41 (lv_at hl 5 rfl) ?_
        obtain ⟨r_3, hq, h⟩ := bd1_some h
        refine uS_i (As := [.int v5]) (rest := []) ⟨hx, hb, hml, hown, hts⟩ (c_X6_bits l dC dI cyC cyI cyJ v5 r_3 hq) (va_cwS 1 hts gX6_sets_X6_bits rfl rfl rfl (by decide +kernel) ⟨Nat.le_of_ble_eq_true rfl, Nat.le_of_ble_eq_true rfl⟩) hK hE hA hP hD hS [] rfl rfl rfl rfl hl.1 rfl (Nat.le_of_ble_eq_true rfl) ⟨Nat.zero_le _, Nat.zero_le _⟩ dX6_sets_43 (fun H locs hP hD hS => ?_)
        have hP : va_P (dC, dI) vwCl [(h0, .inr (6, [.int thrown_, .int told_, .ref h0_row, .int columns_, .int rooms_, .int many_, .ref h0_subjectOf, .ref h0_teacherOf, .ref h0_seatsOf, .ref h0_columnOf, .ref h0_barsOf, .int pupils_, .ref h0_choices, .int kept_, .ref h0_tape, .int taped_, .int at_, .int to_, .int digit_, .int number_, .ref h0_was, .ref h0_readChoices, .int readMany_, .ref h0_open, .ref h0_wayOf, .int bestThen_, .ref h0_cure, .ref h0_left, .ref h0_satIn])), (h0_row, .inl (cyI, 32, .inl row_)), (h0_subjectOf, .inl (cyI, 17, .inl subjectOf_)), (h0_columnOf, .inl (cyI, 17, .inl columnOf_)), (h0_open, .inl (cyI, 10, .inl open_))] H := hP
        have hD : va_D A [(h0, .inr (6, [.int thrown_, .int told_, .ref h0_row, .int columns_, .int rooms_, .int many_, .ref h0_subjectOf, .ref h0_teacherOf, .ref h0_seatsOf, .ref h0_columnOf, .ref h0_barsOf, .int pupils_, .ref h0_choices, .int kept_, .ref h0_tape, .int taped_, .int at_, .int to_, .int digit_, .int number_, .ref h0_was, .ref h0_readChoices, .int readMany_, .ref h0_open, .ref h0_wayOf, .int bestThen_, .ref h0_cure, .ref h0_left, .ref h0_satIn])), (h0_row, .inl (cyI, 32, .inl row_)), (h0_subjectOf, .inl (cyI, 17, .inl subjectOf_)), (h0_columnOf, .inl (cyI, 17, .inl columnOf_)), (h0_open, .inl (cyI, 10, .inl open_))] := hD
        refine lv_iload_n hx hb dX6_sets_46 rfl (lv_at hl 1 rfl) ?_
        refine lv_icmp_eq (tgt := 53) hx hb dX6_sets_47 (by decide) (fun c_ => ?_) (fun c_ => ?_)
        · have h := (if_pos c_).symm.trans h
          refine lv_aload_n hx hb dX6_sets_53 rfl (lv_at hl 0 rfl) ?_
          refine lv_iload hx hb dX6_sets_54 (lv_at hl 5 rfl) ?_
          refine lv_iconst (v := 0) hx hb dX6_sets_56 (by decide) ?_
          obtain ⟨r_4, hq, h⟩ := bd1_some h
          refine uV_i (b := h0) (As := [.int v5, .int 0]) (rest := []) ⟨hx, hb, hml, hown, hts⟩ (c_X6_hasWay 8 l dC dI cyC cyI cyJ h0 h0_row h0_subjectOf h0_teacherOf h0_seatsOf h0_columnOf h0_barsOf h0_choices h0_tape h0_was h0_readChoices h0_open h0_wayOf h0_cure h0_left h0_satIn thrown_ told_ columns_ rooms_ many_ pupils_ kept_ taped_ at_ to_ digit_ number_ readMany_ bestThen_ open_ v5 0 r_4 hq) (cwV 2 hts gX6_sets_X6_hasWay rfl rfl rfl (by decide +kernel) ⟨Nat.le_of_ble_eq_true rfl, Nat.le_of_ble_eq_true rfl⟩) hK hE hA hP hD hS [0, 4] rfl rfl rfl 6 0 rfl rfl rfl hl.1 rfl (Nat.le_of_ble_eq_true rfl) ⟨Nat.zero_le _, Nat.zero_le _⟩ dX6_sets_57 (fun H locs hP hD hS => ?_)
          have hP : va_P (dC, dI) vwCl [(h0, .inr (6, [.int thrown_, .int told_, .ref h0_row, .int columns_, .int rooms_, .int many_, .ref h0_subjectOf, .ref h0_teacherOf, .ref h0_seatsOf, .ref h0_columnOf, .ref h0_barsOf, .int pupils_, .ref h0_choices, .int kept_, .ref h0_tape, .int taped_, .int at_, .int to_, .int digit_, .int number_, .ref h0_was, .ref h0_readChoices, .int readMany_, .ref h0_open, .ref h0_wayOf, .int bestThen_, .ref h0_cure, .ref h0_left, .ref h0_satIn])), (h0_row, .inl (cyI, 32, .inl row_)), (h0_subjectOf, .inl (cyI, 17, .inl subjectOf_)), (h0_columnOf, .inl (cyI, 17, .inl columnOf_)), (h0_open, .inl (cyI, 10, .inl open_))] H := hP
          have hD : va_D A [(h0, .inr (6, [.int thrown_, .int told_, .ref h0_row, .int columns_, .int rooms_, .int many_, .ref h0_subjectOf, .ref h0_teacherOf, .ref h0_seatsOf, .ref h0_columnOf, .ref h0_barsOf, .int pupils_, .ref h0_choices, .int kept_, .ref h0_tape, .int taped_, .int at_, .int to_, .int digit_, .int number_, .ref h0_was, .ref h0_readChoices, .int readMany_, .ref h0_open, .ref h0_wayOf, .int bestThen_, .ref h0_cure, .ref h0_left, .ref h0_satIn])), (h0_row, .inl (cyI, 32, .inl row_)), (h0_subjectOf, .inl (cyI, 17, .inl subjectOf_)), (h0_columnOf, .inl (cyI, 17, .inl columnOf_)), (h0_open, .inl (cyI, 10, .inl open_))] := hD
          refine lv_istore (lv' := [(6, .int r_4), (0, .ref h0), (1, .int v1), (2, .int v2), (3, .int v3), (4, .int v4), (5, .int v5)]) hx hb dX6_sets_60 hl (by decide) rfl (fun ls hl => ?_)
          obtain ⟨v2_5, e_v2_5⟩ : ∃ z : Int32, z = (v2 + 1) := ⟨_, rfl⟩
          have h := lt_use e_v2_5 h
          refine lv_iinc (v := v2_5) (lv' := [(2, .int v2_5), (6, .int r_4), (0, .ref h0), (1, .int v1), (3, .int v3), (4, .int v4), (5, .int v5)]) hx hb dX6_sets_62 hl (k := 3) rfl (by rw [e_v2_5]; rfl) (by decide) rfl (fun ls hl => ?_)
          refine lv_iload_n hx hb dX6_sets_65 rfl (lv_at hl 4 rfl) ?_
          refine lv_iload hx hb dX6_sets_66 (lv_at hl 1 rfl) ?_
          obtain ⟨r_6, hq, h⟩ := bd1_some h
          refine uS_i (As := [.int r_4]) (rest := [.int v3]) ⟨hx, hb, hml, hown, hts⟩ (c_X6_flag l dC dI cyC cyI cyJ r_4 r_6 hq) (va_cwS 1 hts gX6_sets_X6_flag rfl rfl rfl (by decide +kernel) ⟨Nat.le_of_ble_eq_true rfl, Nat.le_of_ble_eq_true rfl⟩) hK hE hA hP hD hS [] rfl rfl rfl rfl hl.1 rfl (Nat.le_of_ble_eq_true rfl) ⟨Nat.zero_le _, Nat.zero_le _⟩ dX6_sets_68 (fun H locs hP hD hS => ?_)
          have hP : va_P (dC, dI) vwCl [(h0, .inr (6, [.int thrown_, .int told_, .ref h0_row, .int columns_, .int rooms_, .int many_, .ref h0_subjectOf, .ref h0_teacherOf, .ref h0_seatsOf, .ref h0_columnOf, .ref h0_barsOf, .int pupils_, .ref h0_choices, .int kept_, .ref h0_tape, .int taped_, .int at_, .int to_, .int digit_, .int number_, .ref h0_was, .ref h0_readChoices, .int readMany_, .ref h0_open, .ref h0_wayOf, .int bestThen_, .ref h0_cure, .ref h0_left, .ref h0_satIn])), (h0_row, .inl (cyI, 32, .inl row_)), (h0_subjectOf, .inl (cyI, 17, .inl subjectOf_)), (h0_columnOf, .inl (cyI, 17, .inl columnOf_)), (h0_open, .inl (cyI, 10, .inl open_))] H := hP
          have hD : va_D A [(h0, .inr (6, [.int thrown_, .int told_, .ref h0_row, .int columns_, .int rooms_, .int many_, .ref h0_subjectOf, .ref h0_teacherOf, .ref h0_seatsOf, .ref h0_columnOf, .ref h0_barsOf, .int pupils_, .ref h0_choices, .int kept_, .ref h0_tape, .int taped_, .int at_, .int to_, .int digit_, .int number_, .ref h0_was, .ref h0_readChoices, .int readMany_, .ref h0_open, .ref h0_wayOf, .int bestThen_, .ref h0_cure, .ref h0_left, .ref h0_satIn])), (h0_row, .inl (cyI, 32, .inl row_)), (h0_subjectOf, .inl (cyI, 17, .inl subjectOf_)), (h0_columnOf, .inl (cyI, 17, .inl columnOf_)), (h0_open, .inl (cyI, 10, .inl open_))] := hD
          refine lv_iadd hx hb dX6_sets_71 ?_
          refine lv_topi (fun v3_7 e_v3_7 => ?_)
          have h := lt_use e_v3_7 h
          refine lv_istore_n (lv' := [(3, .int v3_7), (2, .int v2_5), (6, .int r_4), (0, .ref h0), (1, .int v1), (4, .int v4), (5, .int v5)]) hx hb dX6_sets_72 rfl hl (by decide) rfl (fun ls hl => ?_)
          refine lv_iload hx hb dX6_sets_73 (lv_at hl 2 rfl) ?_
          refine lv_if_ne (tgt := 89) hx hb dX6_sets_75 (by decide) (fun c_ => ?_) (fun c_ => ?_)
          · have h := (if_neg c_).symm.trans h
            refine lv_iload hx hb dX6_sets_89 (lv_at hl 5 rfl) ?_
            refine lv_istore (lv' := [(4, .int v4), (3, .int v3_7), (2, .int v2_5), (6, .int r_4), (0, .ref h0), (1, .int v1), (5, .int v5)]) hx hb dX6_sets_91 hl (by decide) rfl (fun ls hl => ?_)
            obtain ⟨v5_8, e_v5_8⟩ : ∃ z : Int32, z = (v5 + 1) := ⟨_, rfl⟩
            have h := lt_use e_v5_8 h
            refine lv_iinc (v := v5_8) (lv' := [(5, .int v5_8), (4, .int v4), (3, .int v3_7), (2, .int v2_5), (6, .int r_4), (0, .ref h0), (1, .int v1)]) hx hb dX6_sets_93 hl (k := 6) rfl (by rw [e_v5_8]; rfl) (by decide) rfl (fun ls hl => ?_)
            refine lv_goto (tgt := 33) hx hb dX6_sets_96 (by decide) ?_
            exact ih33 v2_5 v3_7 v4 v5_8 h _ _ _ hP hD hS (lv_sub hl [5, 6, 3, 2, 1, 0] rfl)
          · have h := (if_pos c_).symm.trans h
            refine lv_iload hx hb dX6_sets_78 (lv_at hl 5 rfl) ?_
            refine lv_iconst (v := (-1)) hx hb dX6_sets_80 (by decide) ?_
            refine lv_icmp_ne (tgt := 89) hx hb dX6_sets_81 (by decide) (fun c_ => ?_) (fun c_ => ?_)
            · have h := (if_neg c_).symm.trans h
              refine lv_iload hx hb dX6_sets_89 (lv_at hl 5 rfl) ?_
              refine lv_istore (lv' := [(4, .int v4), (3, .int v3_7), (2, .int v2_5), (6, .int r_4), (0, .ref h0), (1, .int v1), (5, .int v5)]) hx hb dX6_sets_91 hl (by decide) rfl (fun ls hl => ?_)
              obtain ⟨v5_9, e_v5_9⟩ : ∃ z : Int32, z = (v5 + 1) := ⟨_, rfl⟩
              have h := lt_use e_v5_9 h
              refine lv_iinc (v := v5_9) (lv' := [(5, .int v5_9), (4, .int v4), (3, .int v3_7), (2, .int v2_5), (6, .int r_4), (0, .ref h0), (1, .int v1)]) hx hb dX6_sets_93 hl (k := 6) rfl (by rw [e_v5_9]; rfl) (by decide) rfl (fun ls hl => ?_)
              refine lv_goto (tgt := 33) hx hb dX6_sets_96 (by decide) ?_
              exact ih33 v2_5 v3_7 v4 v5_9 h _ _ _ hP hD hS (lv_sub hl [5, 6, 3, 2, 1, 0] rfl)
            · have h := (if_pos c_).symm.trans h
              refine lv_iload hx hb dX6_sets_84 (lv_at hl 6 rfl) ?_
              refine lv_goto (tgt := 91) hx hb dX6_sets_86 (by decide) ?_
              refine lv_istore (lv' := [(4, .int v5), (3, .int v3_7), (2, .int v2_5), (6, .int r_4), (0, .ref h0), (1, .int v1), (5, .int v5)]) hx hb dX6_sets_91 hl (by decide) rfl (fun ls hl => ?_)
              obtain ⟨v5_10, e_v5_10⟩ : ∃ z : Int32, z = (v5 + 1) := ⟨_, rfl⟩
              have h := lt_use e_v5_10 h
              refine lv_iinc (v := v5_10) (lv' := [(5, .int v5_10), (4, .int v5), (3, .int v3_7), (2, .int v2_5), (6, .int r_4), (0, .ref h0), (1, .int v1)]) hx hb dX6_sets_93 hl (k := 6) rfl (by rw [e_v5_10]; rfl) (by decide) rfl (fun ls hl => ?_)
              refine lv_goto (tgt := 33) hx hb dX6_sets_96 (by decide) ?_
              exact ih33 v2_5 v3_7 v5 v5_10 h _ _ _ hP hD hS (lv_sub hl [5, 6, 3, 2, 1, 0] rfl)
        · have h := (if_neg c_).symm.trans h
          refine lv_goto (tgt := 93) hx hb dX6_sets_50 (by decide) ?_
          obtain ⟨v5_11, e_v5_11⟩ : ∃ z : Int32, z = (v5 + 1) := ⟨_, rfl⟩
          have h := lt_use e_v5_11 h
          refine lv_iinc (v := v5_11) (lv' := [(5, .int v5_11), (0, .ref h0), (1, .int v1), (2, .int v2), (3, .int v3), (4, .int v4)]) hx hb dX6_sets_93 hl (k := 5) rfl (by rw [e_v5_11]; rfl) (by decide) rfl (fun ls hl => ?_)
          refine lv_goto (tgt := 33) hx hb dX6_sets_96 (by decide) ?_
          exact ih33 v2 v3 v4 v5_11 h _ _ _ hP hD hS (lv_sub hl [1, 2, 3, 4, 5, 0] rfl)
  unfold m_X6_sets at h
  refine lv_aload_n hx hb dX6_sets_0 rfl (lv_at hl 0 rfl) ?_
  refine lv_iconst (v := 0) hx hb dX6_sets_1 (by decide) ?_
  refine va_put (D := (dC, dI)) (ci := 6) (v := .int 0) (ty := .int) (C := RX6) (T := TX6) (N := 29) hx hb hts hiX6 tyX6 tyX6_ok nmX6 hown hK hP hD hS 0 rfl rfl 0 (by decide) (hts (.fieldLink RX6 62 "OptionLatticeModel" "thrown" "I") (by decide +kernel)) (fun _ h9 => h9) rfl (by decide +kernel) rfl rfl (Nat.le_of_ble_eq_true rfl) dX6_sets_2 (fun H locs hP hD hS => ?_)
  have hP : va_P (dC, dI) vwCl [(h0, .inr (6, [.int 0, .int told_, .ref h0_row, .int columns_, .int rooms_, .int many_, .ref h0_subjectOf, .ref h0_teacherOf, .ref h0_seatsOf, .ref h0_columnOf, .ref h0_barsOf, .int pupils_, .ref h0_choices, .int kept_, .ref h0_tape, .int taped_, .int at_, .int to_, .int digit_, .int number_, .ref h0_was, .ref h0_readChoices, .int readMany_, .ref h0_open, .ref h0_wayOf, .int bestThen_, .ref h0_cure, .ref h0_left, .ref h0_satIn])), (h0_row, .inl (cyI, 32, .inl row_)), (h0_subjectOf, .inl (cyI, 17, .inl subjectOf_)), (h0_columnOf, .inl (cyI, 17, .inl columnOf_)), (h0_open, .inl (cyI, 10, .inl open_))] H := hP
  have hD : va_D A [(h0, .inr (6, [.int 0, .int told_, .ref h0_row, .int columns_, .int rooms_, .int many_, .ref h0_subjectOf, .ref h0_teacherOf, .ref h0_seatsOf, .ref h0_columnOf, .ref h0_barsOf, .int pupils_, .ref h0_choices, .int kept_, .ref h0_tape, .int taped_, .int at_, .int to_, .int digit_, .int number_, .ref h0_was, .ref h0_readChoices, .int readMany_, .ref h0_open, .ref h0_wayOf, .int bestThen_, .ref h0_cure, .ref h0_left, .ref h0_satIn])), (h0_row, .inl (cyI, 32, .inl row_)), (h0_subjectOf, .inl (cyI, 17, .inl subjectOf_)), (h0_columnOf, .inl (cyI, 17, .inl columnOf_)), (h0_open, .inl (cyI, 10, .inl open_))] := hD
  refine lv_iload_n hx hb dX6_sets_5 rfl (lv_at hl 1 rfl) ?_
  refine lv_i2l (v := (Int32.toInt64 v1)) hx hb dX6_sets_6 rfl ?_
  refine lv_lconst (v := 1) hx hb dX6_sets_7 (by decide) ?_
  refine lv_ldc2 hx hb hown (hts (.constantLong RX6 219 (6)) (by decide +kernel)) dX6_sets_8 ?_
  obtain ⟨r_12, hq, h⟩ := bd1_some h
  refine uS_i (As := [.long (Int32.toInt64 v1), .long 1, .long 6]) (rest := []) ⟨hx, hb, hml, hown, hts⟩ (c_X6_in l dC dI cyC cyI cyJ (Int32.toInt64 v1) 1 6 r_12 hq) (va_cwS 3 hts gX6_sets_X6_in rfl rfl rfl (by decide +kernel) ⟨Nat.le_of_ble_eq_true rfl, Nat.le_of_ble_eq_true rfl⟩) hK hE hA hP hD hS [] rfl rfl rfl rfl hl.1 rfl (Nat.le_of_ble_eq_true rfl) ⟨Nat.zero_le _, Nat.zero_le _⟩ dX6_sets_11 (fun H locs hP hD hS => ?_)
  have hP : va_P (dC, dI) vwCl [(h0, .inr (6, [.int 0, .int told_, .ref h0_row, .int columns_, .int rooms_, .int many_, .ref h0_subjectOf, .ref h0_teacherOf, .ref h0_seatsOf, .ref h0_columnOf, .ref h0_barsOf, .int pupils_, .ref h0_choices, .int kept_, .ref h0_tape, .int taped_, .int at_, .int to_, .int digit_, .int number_, .ref h0_was, .ref h0_readChoices, .int readMany_, .ref h0_open, .ref h0_wayOf, .int bestThen_, .ref h0_cure, .ref h0_left, .ref h0_satIn])), (h0_row, .inl (cyI, 32, .inl row_)), (h0_subjectOf, .inl (cyI, 17, .inl subjectOf_)), (h0_columnOf, .inl (cyI, 17, .inl columnOf_)), (h0_open, .inl (cyI, 10, .inl open_))] H := hP
  have hD : va_D A [(h0, .inr (6, [.int 0, .int told_, .ref h0_row, .int columns_, .int rooms_, .int many_, .ref h0_subjectOf, .ref h0_teacherOf, .ref h0_seatsOf, .ref h0_columnOf, .ref h0_barsOf, .int pupils_, .ref h0_choices, .int kept_, .ref h0_tape, .int taped_, .int at_, .int to_, .int digit_, .int number_, .ref h0_was, .ref h0_readChoices, .int readMany_, .ref h0_open, .ref h0_wayOf, .int bestThen_, .ref h0_cure, .ref h0_left, .ref h0_satIn])), (h0_row, .inl (cyI, 32, .inl row_)), (h0_subjectOf, .inl (cyI, 17, .inl subjectOf_)), (h0_columnOf, .inl (cyI, 17, .inl columnOf_)), (h0_open, .inl (cyI, 10, .inl open_))] := hD
  refine lv_if_ne (tgt := 19) hx hb dX6_sets_14 (by decide) (fun c_ => ?_) (fun c_ => ?_)
  · have h := (if_neg c_).symm.trans h
    refine lv_aload_n hx hb dX6_sets_19 rfl (lv_at hl 0 rfl) ?_
    obtain ⟨open_13, hq, h⟩ := bd1_some h
    refine uV_v (b := h0) (As := []) (rest := []) ⟨hx, hb, hml, hown, hts⟩ (c_X6_laysOpen l dC dI cyC cyI cyJ h0 h0_row h0_subjectOf h0_teacherOf h0_seatsOf h0_columnOf h0_barsOf h0_choices h0_tape h0_was h0_readChoices h0_open h0_wayOf h0_cure h0_left h0_satIn 0 told_ columns_ rooms_ many_ pupils_ kept_ taped_ at_ to_ digit_ number_ readMany_ bestThen_ subjectOf_ columnOf_ open_ open_13 hq) (cwV 0 hts gX6_sets_X6_laysOpen rfl rfl rfl (by decide +kernel) ⟨Nat.le_of_ble_eq_true rfl, Nat.le_of_ble_eq_true rfl⟩) hK hE hA hP hD hS [0, 2, 3, 4] rfl rfl rfl 6 0 rfl rfl rfl hl.1 rfl (Nat.le_of_ble_eq_true rfl) ⟨Nat.zero_le _, Nat.zero_le _⟩ dX6_sets_20 (fun H locs hP hD hS => ?_)
    have hP : va_P (dC, dI) vwCl [(h0, .inr (6, [.int 0, .int told_, .ref h0_row, .int columns_, .int rooms_, .int many_, .ref h0_subjectOf, .ref h0_teacherOf, .ref h0_seatsOf, .ref h0_columnOf, .ref h0_barsOf, .int pupils_, .ref h0_choices, .int kept_, .ref h0_tape, .int taped_, .int at_, .int to_, .int digit_, .int number_, .ref h0_was, .ref h0_readChoices, .int readMany_, .ref h0_open, .ref h0_wayOf, .int bestThen_, .ref h0_cure, .ref h0_left, .ref h0_satIn])), (h0_row, .inl (cyI, 32, .inl row_)), (h0_subjectOf, .inl (cyI, 17, .inl subjectOf_)), (h0_columnOf, .inl (cyI, 17, .inl columnOf_)), (h0_open, .inl (cyI, 10, .inl open_13))] H := hP
    have hD : va_D A [(h0, .inr (6, [.int 0, .int told_, .ref h0_row, .int columns_, .int rooms_, .int many_, .ref h0_subjectOf, .ref h0_teacherOf, .ref h0_seatsOf, .ref h0_columnOf, .ref h0_barsOf, .int pupils_, .ref h0_choices, .int kept_, .ref h0_tape, .int taped_, .int at_, .int to_, .int digit_, .int number_, .ref h0_was, .ref h0_readChoices, .int readMany_, .ref h0_open, .ref h0_wayOf, .int bestThen_, .ref h0_cure, .ref h0_left, .ref h0_satIn])), (h0_row, .inl (cyI, 32, .inl row_)), (h0_subjectOf, .inl (cyI, 17, .inl subjectOf_)), (h0_columnOf, .inl (cyI, 17, .inl columnOf_)), (h0_open, .inl (cyI, 10, .inl open_13))] := hD
    refine lv_iconst (v := 0) hx hb dX6_sets_23 (by decide) ?_
    refine lv_istore_n (lv' := [(2, .int 0), (0, .ref h0), (1, .int v1)]) hx hb dX6_sets_24 rfl hl (by decide) rfl (fun ls hl => ?_)
    refine lv_iconst (v := 0) hx hb dX6_sets_25 (by decide) ?_
    refine lv_istore_n (lv' := [(3, .int 0), (2, .int 0), (0, .ref h0), (1, .int v1)]) hx hb dX6_sets_26 rfl hl (by decide) rfl (fun ls hl => ?_)
    refine lv_iconst (v := (-1)) hx hb dX6_sets_27 (by decide) ?_
    refine lv_istore (lv' := [(4, .int (-1)), (3, .int 0), (2, .int 0), (0, .ref h0), (1, .int v1)]) hx hb dX6_sets_28 hl (by decide) rfl (fun ls hl => ?_)
    refine lv_iconst (v := 0) hx hb dX6_sets_30 (by decide) ?_
    refine lv_istore (lv' := [(5, .int 0), (4, .int (-1)), (3, .int 0), (2, .int 0), (0, .ref h0), (1, .int v1)]) hx hb dX6_sets_31 hl (by decide) rfl (fun ls hl => ?_)
    exact L33 0 open_13 1100 0 0 (-1) 0 h _ _ _ hP hD hS (lv_sub hl [4, 5, 3, 2, 1, 0] rfl)
  · have h := (if_pos c_).symm.trans h
    refine lv_iconst (v := (-1)) hx hb dX6_sets_17 (by decide) ?_
    have h : some ((-1), 0, told_, row_, open_) = some (rr, o0, o1, o2, o3) := h
    have z0 := Option.some.inj h
    obtain ⟨rfl, z1⟩ := Prod.mk.inj z0
    obtain ⟨rfl, z2⟩ := Prod.mk.inj z1
    obtain ⟨rfl, z3⟩ := Prod.mk.inj z2
    obtain ⟨rfl, z4⟩ := Prod.mk.inj z3
    obtain rfl := z4
    exact hret _ _ _ _ hP hS rfl dX6_sets_18

def m_X6_both (thrown_ : Int32) (told_ : Int32) (many_ : Int32) (pupils_ : Int32) (row_ : Nat → Int32) (subjectOf_ : Nat → Int32) (columnOf_ : Nat → Int32) (choices_ : Nat → Int32) (open_ : Nat → Int32) (v1 : Int32) (v2 : Int32) : Option (Int32 × Int32 × Int32 × (Nat → Int32) × (Nat → Int32)) :=
  bd1 (m_X6_isSubject v1) (fun r_1 => (if r_1 = 0 then some ((-1), 0, told_, row_, open_) else bd1 (m_X6_isSubject v2) (fun r_2 => (if r_2 = 0 then some ((-1), 0, told_, row_, open_) else (if v1 = v2 then some ((-1), 0, told_, row_, open_) else bd1 (m_X6_chose pupils_ choices_ v1) (fun r_3 => bd1 (m_X6_chose pupils_ choices_ v2) (fun r_4 => lt' (r_3 &&& r_4) (fun v3_5 => bd1 (m_X6_bits v3_5) (fun r_6 => bd2 (m_X6_fitting many_ pupils_ subjectOf_ columnOf_ choices_ open_) (fun r_7 open_8 => bd1 (m_X6_bits (v3_5 &&& (r_7 ^^^ (-1)))) (fun r_9 => bd2 (m_X6_notesTwo told_ row_ r_6 r_9) (fun told_10 row_11 => some (v3_5, 0, told_10, row_11, open_8)))))))))))))
abbrev rmX6_both : Room := { frames := 11, cells := 0, slots := 0, locals := 259 }
set_option maxHeartbeats 4000000 in
set_option maxRecDepth 100000 in
theorem c_X6_both (l : Launch) (dC : Nat → ClassId) (dI : Nat → Nat → Nat) (cyC cyI cyJ : ClassId) (h0 h0_row h0_subjectOf h0_teacherOf h0_seatsOf h0_columnOf h0_barsOf h0_choices h0_tape h0_was h0_readChoices h0_open h0_wayOf h0_cure h0_left h0_satIn : Nat) (thrown_ : Int32) (told_ : Int32) (columns_ : Int32) (rooms_ : Int32) (many_ : Int32) (pupils_ : Int32) (kept_ : Int32) (taped_ : Int32) (at_ : Int32) (to_ : Int32) (digit_ : Int32) (number_ : Int32) (readMany_ : Int32) (bestThen_ : Int32) (row_ : Nat → Int32) (subjectOf_ : Nat → Int32) (columnOf_ : Nat → Int32) (choices_ : Nat → Int32) (open_ : Nat → Int32) (v1 : Int32) (v2 : Int32) (rr : Int32) (o0 : Int32) (o1 : Int32) (o2 : Nat → Int32) (o3 : Nat → Int32) (h : m_X6_both thrown_ told_ many_ pupils_ row_ subjectOf_ columnOf_ choices_ open_ v1 v2 = some (rr, o0, o1, o2, o3)) : uMi l yX6_both wsX6_both rmX6_both (dC, dI) [(cyC, .char), (cyI, .int), (cyJ, .long)] [.ref h0, .int v1, .int v2] [(h0, .inr (6, [.int thrown_, .int told_, .ref h0_row, .int columns_, .int rooms_, .int many_, .ref h0_subjectOf, .ref h0_teacherOf, .ref h0_seatsOf, .ref h0_columnOf, .ref h0_barsOf, .int pupils_, .ref h0_choices, .int kept_, .ref h0_tape, .int taped_, .int at_, .int to_, .int digit_, .int number_, .ref h0_was, .ref h0_readChoices, .int readMany_, .ref h0_open, .ref h0_wayOf, .int bestThen_, .ref h0_cure, .ref h0_left, .ref h0_satIn])), (h0_row, .inl (cyI, 32, .inl row_)), (h0_subjectOf, .inl (cyI, 17, .inl subjectOf_)), (h0_columnOf, .inl (cyI, 17, .inl columnOf_)), (h0_choices, .inl (cyI, 24, .inl choices_)), (h0_open, .inl (cyI, 10, .inl open_))] [(h0, .inr (6, [.int o0, .int o1, .ref h0_row, .int columns_, .int rooms_, .int many_, .ref h0_subjectOf, .ref h0_teacherOf, .ref h0_seatsOf, .ref h0_columnOf, .ref h0_barsOf, .int pupils_, .ref h0_choices, .int kept_, .ref h0_tape, .int taped_, .int at_, .int to_, .int digit_, .int number_, .ref h0_was, .ref h0_readChoices, .int readMany_, .ref h0_open, .ref h0_wayOf, .int bestThen_, .ref h0_cure, .ref h0_left, .ref h0_satIn])), (h0_row, .inl (cyI, 32, .inl o2)), (h0_subjectOf, .inl (cyI, 17, .inl subjectOf_)), (h0_columnOf, .inl (cyI, 17, .inl columnOf_)), (h0_choices, .inl (cyI, 24, .inl choices_)), (h0_open, .inl (cyI, 10, .inl o3))] rr := by
  refine uMi.of (cc := cX6_both) (maxL := 4) (by decide) rfl (Nat.le_of_ble_eq_true rfl) (fun p e s m args below meth c A ls Q hx hb hml hown hts hA hP hK hD hE hS hl hret => ?_)
  have hown : s.vm.findClass RX6 = some m.cls := hown
  have hl : lv_has ls 4 [(0, .ref h0), (1, .int v1), (2, .int v2)] := hl
  have hiX6 : ∀ w ∈ u_ws RX6 TX6 29, w ∈ wsX6_both := fun _ h9 => List.mem_cons_of_mem _ (List.mem_append_right _ h9)
  unfold m_X6_both at h
  refine lv_aload_n hx hb dX6_both_0 rfl (lv_at hl 0 rfl) ?_
  refine lv_iconst (v := 0) hx hb dX6_both_1 (by decide) ?_
  refine va_put (D := (dC, dI)) (ci := 6) (v := .int 0) (ty := .int) (C := RX6) (T := TX6) (N := 29) hx hb hts hiX6 tyX6 tyX6_ok nmX6 hown hK hP hD hS 0 rfl rfl 0 (by decide) (hts (.fieldLink RX6 62 "OptionLatticeModel" "thrown" "I") (by decide +kernel)) (fun _ h9 => h9) rfl (by decide +kernel) rfl rfl (Nat.le_of_ble_eq_true rfl) dX6_both_2 (fun H locs hP hD hS => ?_)
  have hP : va_P (dC, dI) vwCl [(h0, .inr (6, [.int 0, .int told_, .ref h0_row, .int columns_, .int rooms_, .int many_, .ref h0_subjectOf, .ref h0_teacherOf, .ref h0_seatsOf, .ref h0_columnOf, .ref h0_barsOf, .int pupils_, .ref h0_choices, .int kept_, .ref h0_tape, .int taped_, .int at_, .int to_, .int digit_, .int number_, .ref h0_was, .ref h0_readChoices, .int readMany_, .ref h0_open, .ref h0_wayOf, .int bestThen_, .ref h0_cure, .ref h0_left, .ref h0_satIn])), (h0_row, .inl (cyI, 32, .inl row_)), (h0_subjectOf, .inl (cyI, 17, .inl subjectOf_)), (h0_columnOf, .inl (cyI, 17, .inl columnOf_)), (h0_choices, .inl (cyI, 24, .inl choices_)), (h0_open, .inl (cyI, 10, .inl open_))] H := hP
  have hD : va_D A [(h0, .inr (6, [.int 0, .int told_, .ref h0_row, .int columns_, .int rooms_, .int many_, .ref h0_subjectOf, .ref h0_teacherOf, .ref h0_seatsOf, .ref h0_columnOf, .ref h0_barsOf, .int pupils_, .ref h0_choices, .int kept_, .ref h0_tape, .int taped_, .int at_, .int to_, .int digit_, .int number_, .ref h0_was, .ref h0_readChoices, .int readMany_, .ref h0_open, .ref h0_wayOf, .int bestThen_, .ref h0_cure, .ref h0_left, .ref h0_satIn])), (h0_row, .inl (cyI, 32, .inl row_)), (h0_subjectOf, .inl (cyI, 17, .inl subjectOf_)), (h0_columnOf, .inl (cyI, 17, .inl columnOf_)), (h0_choices, .inl (cyI, 24, .inl choices_)), (h0_open, .inl (cyI, 10, .inl open_))] := hD
  refine lv_iload_n hx hb dX6_both_5 rfl (lv_at hl 1 rfl) ?_
  obtain ⟨r_1, hq, h⟩ := bd1_some h
  refine uS_i (As := [.int v1]) (rest := []) ⟨hx, hb, hml, hown, hts⟩ (c_X6_isSubject l dC dI cyC cyI cyJ v1 r_1 hq) (va_cwS 1 hts gX6_both_X6_isSubject rfl rfl rfl (by decide +kernel) ⟨Nat.le_of_ble_eq_true rfl, Nat.le_of_ble_eq_true rfl⟩) hK hE hA hP hD hS [] rfl rfl rfl rfl hl.1 rfl (Nat.le_of_ble_eq_true rfl) ⟨Nat.zero_le _, Nat.zero_le _⟩ dX6_both_6 (fun H locs hP hD hS => ?_)
  have hP : va_P (dC, dI) vwCl [(h0, .inr (6, [.int 0, .int told_, .ref h0_row, .int columns_, .int rooms_, .int many_, .ref h0_subjectOf, .ref h0_teacherOf, .ref h0_seatsOf, .ref h0_columnOf, .ref h0_barsOf, .int pupils_, .ref h0_choices, .int kept_, .ref h0_tape, .int taped_, .int at_, .int to_, .int digit_, .int number_, .ref h0_was, .ref h0_readChoices, .int readMany_, .ref h0_open, .ref h0_wayOf, .int bestThen_, .ref h0_cure, .ref h0_left, .ref h0_satIn])), (h0_row, .inl (cyI, 32, .inl row_)), (h0_subjectOf, .inl (cyI, 17, .inl subjectOf_)), (h0_columnOf, .inl (cyI, 17, .inl columnOf_)), (h0_choices, .inl (cyI, 24, .inl choices_)), (h0_open, .inl (cyI, 10, .inl open_))] H := hP
  have hD : va_D A [(h0, .inr (6, [.int 0, .int told_, .ref h0_row, .int columns_, .int rooms_, .int many_, .ref h0_subjectOf, .ref h0_teacherOf, .ref h0_seatsOf, .ref h0_columnOf, .ref h0_barsOf, .int pupils_, .ref h0_choices, .int kept_, .ref h0_tape, .int taped_, .int at_, .int to_, .int digit_, .int number_, .ref h0_was, .ref h0_readChoices, .int readMany_, .ref h0_open, .ref h0_wayOf, .int bestThen_, .ref h0_cure, .ref h0_left, .ref h0_satIn])), (h0_row, .inl (cyI, 32, .inl row_)), (h0_subjectOf, .inl (cyI, 17, .inl subjectOf_)), (h0_columnOf, .inl (cyI, 17, .inl columnOf_)), (h0_choices, .inl (cyI, 24, .inl choices_)), (h0_open, .inl (cyI, 10, .inl open_))] := hD
  refine lv_if_eq (tgt := 24) hx hb dX6_both_9 (by decide) (fun c_ => ?_) (fun c_ => ?_)
  · have h := (if_pos c_).symm.trans h
    refine lv_iconst (v := (-1)) hx hb dX6_both_24 (by decide) ?_
    have h : some ((-1), 0, told_, row_, open_) = some (rr, o0, o1, o2, o3) := h
    have z0 := Option.some.inj h
    obtain ⟨rfl, z1⟩ := Prod.mk.inj z0
    obtain ⟨rfl, z2⟩ := Prod.mk.inj z1
    obtain ⟨rfl, z3⟩ := Prod.mk.inj z2
    obtain ⟨rfl, z4⟩ := Prod.mk.inj z3
    obtain rfl := z4
    exact hret _ _ _ _ hP hS rfl dX6_both_25
  · have h := (if_neg c_).symm.trans h
    refine lv_iload_n hx hb dX6_both_12 rfl (lv_at hl 2 rfl) ?_
    obtain ⟨r_2, hq, h⟩ := bd1_some h
    refine uS_i (As := [.int v2]) (rest := []) ⟨hx, hb, hml, hown, hts⟩ (c_X6_isSubject l dC dI cyC cyI cyJ v2 r_2 hq) (va_cwS 1 hts gX6_both_X6_isSubject rfl rfl rfl (by decide +kernel) ⟨Nat.le_of_ble_eq_true rfl, Nat.le_of_ble_eq_true rfl⟩) hK hE hA hP hD hS [] rfl rfl rfl rfl hl.1 rfl (Nat.le_of_ble_eq_true rfl) ⟨Nat.zero_le _, Nat.zero_le _⟩ dX6_both_13 (fun H locs hP hD hS => ?_)
    have hP : va_P (dC, dI) vwCl [(h0, .inr (6, [.int 0, .int told_, .ref h0_row, .int columns_, .int rooms_, .int many_, .ref h0_subjectOf, .ref h0_teacherOf, .ref h0_seatsOf, .ref h0_columnOf, .ref h0_barsOf, .int pupils_, .ref h0_choices, .int kept_, .ref h0_tape, .int taped_, .int at_, .int to_, .int digit_, .int number_, .ref h0_was, .ref h0_readChoices, .int readMany_, .ref h0_open, .ref h0_wayOf, .int bestThen_, .ref h0_cure, .ref h0_left, .ref h0_satIn])), (h0_row, .inl (cyI, 32, .inl row_)), (h0_subjectOf, .inl (cyI, 17, .inl subjectOf_)), (h0_columnOf, .inl (cyI, 17, .inl columnOf_)), (h0_choices, .inl (cyI, 24, .inl choices_)), (h0_open, .inl (cyI, 10, .inl open_))] H := hP
    have hD : va_D A [(h0, .inr (6, [.int 0, .int told_, .ref h0_row, .int columns_, .int rooms_, .int many_, .ref h0_subjectOf, .ref h0_teacherOf, .ref h0_seatsOf, .ref h0_columnOf, .ref h0_barsOf, .int pupils_, .ref h0_choices, .int kept_, .ref h0_tape, .int taped_, .int at_, .int to_, .int digit_, .int number_, .ref h0_was, .ref h0_readChoices, .int readMany_, .ref h0_open, .ref h0_wayOf, .int bestThen_, .ref h0_cure, .ref h0_left, .ref h0_satIn])), (h0_row, .inl (cyI, 32, .inl row_)), (h0_subjectOf, .inl (cyI, 17, .inl subjectOf_)), (h0_columnOf, .inl (cyI, 17, .inl columnOf_)), (h0_choices, .inl (cyI, 24, .inl choices_)), (h0_open, .inl (cyI, 10, .inl open_))] := hD
    refine lv_if_eq (tgt := 24) hx hb dX6_both_16 (by decide) (fun c_ => ?_) (fun c_ => ?_)
    · have h := (if_pos c_).symm.trans h
      refine lv_iconst (v := (-1)) hx hb dX6_both_24 (by decide) ?_
      have h : some ((-1), 0, told_, row_, open_) = some (rr, o0, o1, o2, o3) := h
      have z0 := Option.some.inj h
      obtain ⟨rfl, z1⟩ := Prod.mk.inj z0
      obtain ⟨rfl, z2⟩ := Prod.mk.inj z1
      obtain ⟨rfl, z3⟩ := Prod.mk.inj z2
      obtain ⟨rfl, z4⟩ := Prod.mk.inj z3
      obtain rfl := z4
      exact hret _ _ _ _ hP hS rfl dX6_both_25
    · have h := (if_neg c_).symm.trans h
      refine lv_iload_n hx hb dX6_both_19 rfl (lv_at hl 1 rfl) ?_
      refine lv_iload_n hx hb dX6_both_20 rfl (lv_at hl 2 rfl) ?_
      refine lv_icmp_ne (tgt := 26) hx hb dX6_both_21 (by decide) (fun c_ => ?_) (fun c_ => ?_)
      · have h := (if_neg c_).symm.trans h
        refine lv_aload_n hx hb dX6_both_26 rfl (lv_at hl 0 rfl) ?_
        refine lv_iload_n hx hb dX6_both_27 rfl (lv_at hl 1 rfl) ?_
        obtain ⟨r_3, hq, h⟩ := bd1_some h
        refine uV_i (b := h0) (As := [.int v1]) (rest := []) ⟨hx, hb, hml, hown, hts⟩ (c_X6_chose l dC dI cyC cyI cyJ h0 h0_row h0_subjectOf h0_teacherOf h0_seatsOf h0_columnOf h0_barsOf h0_choices h0_tape h0_was h0_readChoices h0_open h0_wayOf h0_cure h0_left h0_satIn 0 told_ columns_ rooms_ many_ pupils_ kept_ taped_ at_ to_ digit_ number_ readMany_ bestThen_ choices_ v1 r_3 hq) (cwV 1 hts gX6_both_X6_chose rfl rfl rfl (by decide +kernel) ⟨Nat.le_of_ble_eq_true rfl, Nat.le_of_ble_eq_true rfl⟩) hK hE hA hP hD hS [0, 4] rfl rfl rfl 6 0 rfl rfl rfl hl.1 rfl (Nat.le_of_ble_eq_true rfl) ⟨Nat.zero_le _, Nat.zero_le _⟩ dX6_both_28 (fun H locs hP hD hS => ?_)
        have hP : va_P (dC, dI) vwCl [(h0, .inr (6, [.int 0, .int told_, .ref h0_row, .int columns_, .int rooms_, .int many_, .ref h0_subjectOf, .ref h0_teacherOf, .ref h0_seatsOf, .ref h0_columnOf, .ref h0_barsOf, .int pupils_, .ref h0_choices, .int kept_, .ref h0_tape, .int taped_, .int at_, .int to_, .int digit_, .int number_, .ref h0_was, .ref h0_readChoices, .int readMany_, .ref h0_open, .ref h0_wayOf, .int bestThen_, .ref h0_cure, .ref h0_left, .ref h0_satIn])), (h0_row, .inl (cyI, 32, .inl row_)), (h0_subjectOf, .inl (cyI, 17, .inl subjectOf_)), (h0_columnOf, .inl (cyI, 17, .inl columnOf_)), (h0_choices, .inl (cyI, 24, .inl choices_)), (h0_open, .inl (cyI, 10, .inl open_))] H := hP
        have hD : va_D A [(h0, .inr (6, [.int 0, .int told_, .ref h0_row, .int columns_, .int rooms_, .int many_, .ref h0_subjectOf, .ref h0_teacherOf, .ref h0_seatsOf, .ref h0_columnOf, .ref h0_barsOf, .int pupils_, .ref h0_choices, .int kept_, .ref h0_tape, .int taped_, .int at_, .int to_, .int digit_, .int number_, .ref h0_was, .ref h0_readChoices, .int readMany_, .ref h0_open, .ref h0_wayOf, .int bestThen_, .ref h0_cure, .ref h0_left, .ref h0_satIn])), (h0_row, .inl (cyI, 32, .inl row_)), (h0_subjectOf, .inl (cyI, 17, .inl subjectOf_)), (h0_columnOf, .inl (cyI, 17, .inl columnOf_)), (h0_choices, .inl (cyI, 24, .inl choices_)), (h0_open, .inl (cyI, 10, .inl open_))] := hD
        refine lv_aload_n hx hb dX6_both_31 rfl (lv_at hl 0 rfl) ?_
        refine lv_iload_n hx hb dX6_both_32 rfl (lv_at hl 2 rfl) ?_
        obtain ⟨r_4, hq, h⟩ := bd1_some h
        refine uV_i (b := h0) (As := [.int v2]) (rest := [.int r_3]) ⟨hx, hb, hml, hown, hts⟩ (c_X6_chose l dC dI cyC cyI cyJ h0 h0_row h0_subjectOf h0_teacherOf h0_seatsOf h0_columnOf h0_barsOf h0_choices h0_tape h0_was h0_readChoices h0_open h0_wayOf h0_cure h0_left h0_satIn 0 told_ columns_ rooms_ many_ pupils_ kept_ taped_ at_ to_ digit_ number_ readMany_ bestThen_ choices_ v2 r_4 hq) (cwV 1 hts gX6_both_X6_chose rfl rfl rfl (by decide +kernel) ⟨Nat.le_of_ble_eq_true rfl, Nat.le_of_ble_eq_true rfl⟩) hK hE hA hP hD hS [0, 4] rfl rfl rfl 6 0 rfl rfl rfl hl.1 rfl (Nat.le_of_ble_eq_true rfl) ⟨Nat.zero_le _, Nat.zero_le _⟩ dX6_both_33 (fun H locs hP hD hS => ?_)
        have hP : va_P (dC, dI) vwCl [(h0, .inr (6, [.int 0, .int told_, .ref h0_row, .int columns_, .int rooms_, .int many_, .ref h0_subjectOf, .ref h0_teacherOf, .ref h0_seatsOf, .ref h0_columnOf, .ref h0_barsOf, .int pupils_, .ref h0_choices, .int kept_, .ref h0_tape, .int taped_, .int at_, .int to_, .int digit_, .int number_, .ref h0_was, .ref h0_readChoices, .int readMany_, .ref h0_open, .ref h0_wayOf, .int bestThen_, .ref h0_cure, .ref h0_left, .ref h0_satIn])), (h0_row, .inl (cyI, 32, .inl row_)), (h0_subjectOf, .inl (cyI, 17, .inl subjectOf_)), (h0_columnOf, .inl (cyI, 17, .inl columnOf_)), (h0_choices, .inl (cyI, 24, .inl choices_)), (h0_open, .inl (cyI, 10, .inl open_))] H := hP
        have hD : va_D A [(h0, .inr (6, [.int 0, .int told_, .ref h0_row, .int columns_, .int rooms_, .int many_, .ref h0_subjectOf, .ref h0_teacherOf, .ref h0_seatsOf, .ref h0_columnOf, .ref h0_barsOf, .int pupils_, .ref h0_choices, .int kept_, .ref h0_tape, .int taped_, .int at_, .int to_, .int digit_, .int number_, .ref h0_was, .ref h0_readChoices, .int readMany_, .ref h0_open, .ref h0_wayOf, .int bestThen_, .ref h0_cure, .ref h0_left, .ref h0_satIn])), (h0_row, .inl (cyI, 32, .inl row_)), (h0_subjectOf, .inl (cyI, 17, .inl subjectOf_)), (h0_columnOf, .inl (cyI, 17, .inl columnOf_)), (h0_choices, .inl (cyI, 24, .inl choices_)), (h0_open, .inl (cyI, 10, .inl open_))] := hD
        refine lv_iand hx hb dX6_both_36 ?_
        refine lv_topi (fun v3_5 e_v3_5 => ?_)
        have h := lt_use e_v3_5 h
        refine lv_istore_n (lv' := [(3, .int v3_5), (0, .ref h0), (1, .int v1), (2, .int v2)]) hx hb dX6_both_37 rfl hl (by decide) rfl (fun ls hl => ?_)
        refine lv_aload_n hx hb dX6_both_38 rfl (lv_at hl 1 rfl) ?_
        refine lv_iload_n hx hb dX6_both_39 rfl (lv_at hl 0 rfl) ?_
        obtain ⟨r_6, hq, h⟩ := bd1_some h
        refine uS_i (As := [.int v3_5]) (rest := [.ref h0]) ⟨hx, hb, hml, hown, hts⟩ (c_X6_bits l dC dI cyC cyI cyJ v3_5 r_6 hq) (va_cwS 1 hts gX6_both_X6_bits rfl rfl rfl (by decide +kernel) ⟨Nat.le_of_ble_eq_true rfl, Nat.le_of_ble_eq_true rfl⟩) hK hE hA hP hD hS [] rfl rfl rfl rfl hl.1 rfl (Nat.le_of_ble_eq_true rfl) ⟨Nat.zero_le _, Nat.zero_le _⟩ dX6_both_40 (fun H locs hP hD hS => ?_)
        have hP : va_P (dC, dI) vwCl [(h0, .inr (6, [.int 0, .int told_, .ref h0_row, .int columns_, .int rooms_, .int many_, .ref h0_subjectOf, .ref h0_teacherOf, .ref h0_seatsOf, .ref h0_columnOf, .ref h0_barsOf, .int pupils_, .ref h0_choices, .int kept_, .ref h0_tape, .int taped_, .int at_, .int to_, .int digit_, .int number_, .ref h0_was, .ref h0_readChoices, .int readMany_, .ref h0_open, .ref h0_wayOf, .int bestThen_, .ref h0_cure, .ref h0_left, .ref h0_satIn])), (h0_row, .inl (cyI, 32, .inl row_)), (h0_subjectOf, .inl (cyI, 17, .inl subjectOf_)), (h0_columnOf, .inl (cyI, 17, .inl columnOf_)), (h0_choices, .inl (cyI, 24, .inl choices_)), (h0_open, .inl (cyI, 10, .inl open_))] H := hP
        have hD : va_D A [(h0, .inr (6, [.int 0, .int told_, .ref h0_row, .int columns_, .int rooms_, .int many_, .ref h0_subjectOf, .ref h0_teacherOf, .ref h0_seatsOf, .ref h0_columnOf, .ref h0_barsOf, .int pupils_, .ref h0_choices, .int kept_, .ref h0_tape, .int taped_, .int at_, .int to_, .int digit_, .int number_, .ref h0_was, .ref h0_readChoices, .int readMany_, .ref h0_open, .ref h0_wayOf, .int bestThen_, .ref h0_cure, .ref h0_left, .ref h0_satIn])), (h0_row, .inl (cyI, 32, .inl row_)), (h0_subjectOf, .inl (cyI, 17, .inl subjectOf_)), (h0_columnOf, .inl (cyI, 17, .inl columnOf_)), (h0_choices, .inl (cyI, 24, .inl choices_)), (h0_open, .inl (cyI, 10, .inl open_))] := hD
        refine lv_iload_n hx hb dX6_both_43 rfl (lv_at hl 0 rfl) ?_
        refine lv_aload_n hx hb dX6_both_44 rfl (lv_at hl 1 rfl) ?_
        obtain ⟨r_7, open_8, hq, h⟩ := bd2_some h
        refine uV_i (b := h0) (As := []) (rest := [.int v3_5, .int r_6, .ref h0]) ⟨hx, hb, hml, hown, hts⟩ (c_X6_fitting l dC dI cyC cyI cyJ h0 h0_row h0_subjectOf h0_teacherOf h0_seatsOf h0_columnOf h0_barsOf h0_choices h0_tape h0_was h0_readChoices h0_open h0_wayOf h0_cure h0_left h0_satIn 0 told_ columns_ rooms_ many_ pupils_ kept_ taped_ at_ to_ digit_ number_ readMany_ bestThen_ subjectOf_ columnOf_ choices_ open_ r_7 open_8 hq) (cwV 0 hts gX6_both_X6_fitting rfl rfl rfl (by decide +kernel) ⟨Nat.le_of_ble_eq_true rfl, Nat.le_of_ble_eq_true rfl⟩) hK hE hA hP hD hS [0, 2, 3, 4, 5] rfl rfl rfl 6 0 rfl rfl rfl hl.1 rfl (Nat.le_of_ble_eq_true rfl) ⟨Nat.zero_le _, Nat.zero_le _⟩ dX6_both_45 (fun H locs hP hD hS => ?_)
        have hP : va_P (dC, dI) vwCl [(h0, .inr (6, [.int 0, .int told_, .ref h0_row, .int columns_, .int rooms_, .int many_, .ref h0_subjectOf, .ref h0_teacherOf, .ref h0_seatsOf, .ref h0_columnOf, .ref h0_barsOf, .int pupils_, .ref h0_choices, .int kept_, .ref h0_tape, .int taped_, .int at_, .int to_, .int digit_, .int number_, .ref h0_was, .ref h0_readChoices, .int readMany_, .ref h0_open, .ref h0_wayOf, .int bestThen_, .ref h0_cure, .ref h0_left, .ref h0_satIn])), (h0_row, .inl (cyI, 32, .inl row_)), (h0_subjectOf, .inl (cyI, 17, .inl subjectOf_)), (h0_columnOf, .inl (cyI, 17, .inl columnOf_)), (h0_choices, .inl (cyI, 24, .inl choices_)), (h0_open, .inl (cyI, 10, .inl open_8))] H := hP
        have hD : va_D A [(h0, .inr (6, [.int 0, .int told_, .ref h0_row, .int columns_, .int rooms_, .int many_, .ref h0_subjectOf, .ref h0_teacherOf, .ref h0_seatsOf, .ref h0_columnOf, .ref h0_barsOf, .int pupils_, .ref h0_choices, .int kept_, .ref h0_tape, .int taped_, .int at_, .int to_, .int digit_, .int number_, .ref h0_was, .ref h0_readChoices, .int readMany_, .ref h0_open, .ref h0_wayOf, .int bestThen_, .ref h0_cure, .ref h0_left, .ref h0_satIn])), (h0_row, .inl (cyI, 32, .inl row_)), (h0_subjectOf, .inl (cyI, 17, .inl subjectOf_)), (h0_columnOf, .inl (cyI, 17, .inl columnOf_)), (h0_choices, .inl (cyI, 24, .inl choices_)), (h0_open, .inl (cyI, 10, .inl open_8))] := hD
        refine lv_iconst (v := (-1)) hx hb dX6_both_48 (by decide) ?_
        refine lv_ixor hx hb dX6_both_49 ?_
        refine lv_iand hx hb dX6_both_50 ?_
        obtain ⟨r_9, hq, h⟩ := bd1_some h
        refine uS_i (As := [.int (v3_5 &&& (r_7 ^^^ (-1)))]) (rest := [.int r_6, .ref h0]) ⟨hx, hb, hml, hown, hts⟩ (c_X6_bits l dC dI cyC cyI cyJ (v3_5 &&& (r_7 ^^^ (-1))) r_9 hq) (va_cwS 1 hts gX6_both_X6_bits rfl rfl rfl (by decide +kernel) ⟨Nat.le_of_ble_eq_true rfl, Nat.le_of_ble_eq_true rfl⟩) hK hE hA hP hD hS [] rfl rfl rfl rfl hl.1 rfl (Nat.le_of_ble_eq_true rfl) ⟨Nat.zero_le _, Nat.zero_le _⟩ dX6_both_51 (fun H locs hP hD hS => ?_)
        have hP : va_P (dC, dI) vwCl [(h0, .inr (6, [.int 0, .int told_, .ref h0_row, .int columns_, .int rooms_, .int many_, .ref h0_subjectOf, .ref h0_teacherOf, .ref h0_seatsOf, .ref h0_columnOf, .ref h0_barsOf, .int pupils_, .ref h0_choices, .int kept_, .ref h0_tape, .int taped_, .int at_, .int to_, .int digit_, .int number_, .ref h0_was, .ref h0_readChoices, .int readMany_, .ref h0_open, .ref h0_wayOf, .int bestThen_, .ref h0_cure, .ref h0_left, .ref h0_satIn])), (h0_row, .inl (cyI, 32, .inl row_)), (h0_subjectOf, .inl (cyI, 17, .inl subjectOf_)), (h0_columnOf, .inl (cyI, 17, .inl columnOf_)), (h0_choices, .inl (cyI, 24, .inl choices_)), (h0_open, .inl (cyI, 10, .inl open_8))] H := hP
        have hD : va_D A [(h0, .inr (6, [.int 0, .int told_, .ref h0_row, .int columns_, .int rooms_, .int many_, .ref h0_subjectOf, .ref h0_teacherOf, .ref h0_seatsOf, .ref h0_columnOf, .ref h0_barsOf, .int pupils_, .ref h0_choices, .int kept_, .ref h0_tape, .int taped_, .int at_, .int to_, .int digit_, .int number_, .ref h0_was, .ref h0_readChoices, .int readMany_, .ref h0_open, .ref h0_wayOf, .int bestThen_, .ref h0_cure, .ref h0_left, .ref h0_satIn])), (h0_row, .inl (cyI, 32, .inl row_)), (h0_subjectOf, .inl (cyI, 17, .inl subjectOf_)), (h0_columnOf, .inl (cyI, 17, .inl columnOf_)), (h0_choices, .inl (cyI, 24, .inl choices_)), (h0_open, .inl (cyI, 10, .inl open_8))] := hD
        obtain ⟨told_10, row_11, hq, h⟩ := bd2_some h
        refine uV_v (b := h0) (As := [.int r_6, .int r_9]) (rest := []) ⟨hx, hb, hml, hown, hts⟩ (c_X6_notesTwo l dC dI cyC cyI cyJ h0 h0_row h0_subjectOf h0_teacherOf h0_seatsOf h0_columnOf h0_barsOf h0_choices h0_tape h0_was h0_readChoices h0_open h0_wayOf h0_cure h0_left h0_satIn 0 told_ columns_ rooms_ many_ pupils_ kept_ taped_ at_ to_ digit_ number_ readMany_ bestThen_ row_ r_6 r_9 told_10 row_11 hq) (cwV 2 hts gX6_both_X6_notesTwo rfl rfl rfl (by decide +kernel) ⟨Nat.le_of_ble_eq_true rfl, Nat.le_of_ble_eq_true rfl⟩) hK hE hA hP hD hS [0, 1] rfl rfl rfl 6 0 rfl rfl rfl hl.1 rfl (Nat.le_of_ble_eq_true rfl) ⟨Nat.zero_le _, Nat.zero_le _⟩ dX6_both_54 (fun H locs hP hD hS => ?_)
        have hP : va_P (dC, dI) vwCl [(h0, .inr (6, [.int 0, .int told_10, .ref h0_row, .int columns_, .int rooms_, .int many_, .ref h0_subjectOf, .ref h0_teacherOf, .ref h0_seatsOf, .ref h0_columnOf, .ref h0_barsOf, .int pupils_, .ref h0_choices, .int kept_, .ref h0_tape, .int taped_, .int at_, .int to_, .int digit_, .int number_, .ref h0_was, .ref h0_readChoices, .int readMany_, .ref h0_open, .ref h0_wayOf, .int bestThen_, .ref h0_cure, .ref h0_left, .ref h0_satIn])), (h0_row, .inl (cyI, 32, .inl row_11)), (h0_subjectOf, .inl (cyI, 17, .inl subjectOf_)), (h0_columnOf, .inl (cyI, 17, .inl columnOf_)), (h0_choices, .inl (cyI, 24, .inl choices_)), (h0_open, .inl (cyI, 10, .inl open_8))] H := hP
        have hD : va_D A [(h0, .inr (6, [.int 0, .int told_10, .ref h0_row, .int columns_, .int rooms_, .int many_, .ref h0_subjectOf, .ref h0_teacherOf, .ref h0_seatsOf, .ref h0_columnOf, .ref h0_barsOf, .int pupils_, .ref h0_choices, .int kept_, .ref h0_tape, .int taped_, .int at_, .int to_, .int digit_, .int number_, .ref h0_was, .ref h0_readChoices, .int readMany_, .ref h0_open, .ref h0_wayOf, .int bestThen_, .ref h0_cure, .ref h0_left, .ref h0_satIn])), (h0_row, .inl (cyI, 32, .inl row_11)), (h0_subjectOf, .inl (cyI, 17, .inl subjectOf_)), (h0_columnOf, .inl (cyI, 17, .inl columnOf_)), (h0_choices, .inl (cyI, 24, .inl choices_)), (h0_open, .inl (cyI, 10, .inl open_8))] := hD
        refine lv_iload_n hx hb dX6_both_57 rfl (lv_at hl 0 rfl) ?_
        have h : some (v3_5, 0, told_10, row_11, open_8) = some (rr, o0, o1, o2, o3) := h
        have z0 := Option.some.inj h
        obtain ⟨rfl, z1⟩ := Prod.mk.inj z0
        obtain ⟨rfl, z2⟩ := Prod.mk.inj z1
        obtain ⟨rfl, z3⟩ := Prod.mk.inj z2
        obtain ⟨rfl, z4⟩ := Prod.mk.inj z3
        obtain rfl := z4
        exact hret _ _ _ _ hP hS rfl dX6_both_58
      · have h := (if_pos c_).symm.trans h
        refine lv_iconst (v := (-1)) hx hb dX6_both_24 (by decide) ?_
        have h : some ((-1), 0, told_, row_, open_) = some (rr, o0, o1, o2, o3) := h
        have z0 := Option.some.inj h
        obtain ⟨rfl, z1⟩ := Prod.mk.inj z0
        obtain ⟨rfl, z2⟩ := Prod.mk.inj z1
        obtain ⟨rfl, z3⟩ := Prod.mk.inj z2
        obtain ⟨rfl, z4⟩ := Prod.mk.inj z3
        obtain rfl := z4
        exact hret _ _ _ _ hP hS rfl dX6_both_25

def m_X6_clash_132 (thrown_ : Int32) (told_ : Int32) (row_ : Nat → Int32) (open_ : Nat → Int32) (v1 : Int32) (v2 : Int32) (v3 : Int32) : Option (Int32 × Int32 × Int32 × (Nat → Int32) × (Nat → Int32)) :=
  (if v1 < 0 then some (v1, thrown_, told_, row_, open_) else bd2 (m_X6_notesTwo told_ row_ v2 v3) (fun told_1 row_2 => some (v1, thrown_, told_1, row_2, open_)))
def m_X6_clash_32 (pupils_ : Int32) (choices_ : Nat → Int32) (open_ : Nat → Int32) (v4 : Int32) (rec19 : Int32 → Int32 → Int32 → Int32 → Option (Int32 × Int32 × Int32 × (Nat → Int32) × (Nat → Int32))) (rec32 : Int32 → Int32 → Int32 → Int32 → Option (Int32 × Int32 × Int32 × (Nat → Int32) × (Nat → Int32))) : Int32 → Int32 → Int32 → Int32 → Option (Int32 × Int32 × Int32 × (Nat → Int32) × (Nat → Int32)) := fun v1 v2 v3 v5 =>
  (if 10 ≤ v5 then lt' (v4 + 1) (fun v4_3 => rec19 v1 v2 v3 v4_3) else bd1 (m_X6_chose pupils_ choices_ v4) (fun r_4 => bd1 (m_X6_chose pupils_ choices_ v5) (fun r_5 => bd1 (m_X6_bits (r_4 &&& r_5)) (fun r_6 => gd (inb v4 10) (gd (inb v5 10) ((if (open_ v4.toNatClampNeg) = (open_ v5.toNatClampNeg) then gd (inb v4 10) (bd1 (m_X6_bits (open_ v4.toNatClampNeg)) (fun r_8 => (if r_8 = 1 then (if v2 < r_6 then lt' (((10 : Int32) * v4) + v5) (fun v1_10 => gd (inb v4 10) (bd1 (m_J6_numberOfTrailingZeros_0f7a4 (open_ v4.toNatClampNeg)) (fun r_11 => lt' (v5 + 1) (fun v5_12 => rec32 v1_10 r_6 r_11 v5_12)))) else lt' (v5 + 1) (fun v5_13 => rec32 v1 v2 v3 v5_13)) else lt' (v5 + 1) (fun v5_9 => rec32 v1 v2 v3 v5_9)))) else lt' (v5 + 1) (fun v5_7 => rec32 v1 v2 v3 v5_7))))))))
def m_X6_clash_19 (thrown_ : Int32) (told_ : Int32) (pupils_ : Int32) (row_ : Nat → Int32) (choices_ : Nat → Int32) (open_ : Nat → Int32) (rec19 : Int32 → Int32 → Int32 → Int32 → Option (Int32 × Int32 × Int32 × (Nat → Int32) × (Nat → Int32))) : Int32 → Int32 → Int32 → Int32 → Option (Int32 × Int32 × Int32 × (Nat → Int32) × (Nat → Int32)) := fun v1 v2 v3 v4 =>
  (if 10 ≤ v4 then m_X6_clash_132 thrown_ told_ row_ open_ v1 v2 v3 else lt' (v4 + 1) (fun v5_14 => it4 (m_X6_clash_32 pupils_ choices_ open_ v4 rec19) 1100 v1 v2 v3 v5_14))
def m_X6_clash (thrown_ : Int32) (told_ : Int32) (many_ : Int32) (pupils_ : Int32) (row_ : Nat → Int32) (subjectOf_ : Nat → Int32) (columnOf_ : Nat → Int32) (choices_ : Nat → Int32) (open_ : Nat → Int32) : Option (Int32 × Int32 × Int32 × (Nat → Int32) × (Nat → Int32)) :=
  bd1 (m_X6_laysOpen many_ subjectOf_ columnOf_ open_) (fun open_15 => it4 (m_X6_clash_19 0 told_ pupils_ row_ choices_ open_15) 1100 (-2) 0 0 0)
abbrev rmX6_clash : Room := { frames := 3, cells := 0, slots := 0, locals := 64 }
set_option maxHeartbeats 4000000 in
set_option maxRecDepth 100000 in
theorem c_X6_clash (l : Launch) (dC : Nat → ClassId) (dI : Nat → Nat → Nat) (cyC cyI cyJ : ClassId) (h0 h0_row h0_subjectOf h0_teacherOf h0_seatsOf h0_columnOf h0_barsOf h0_choices h0_tape h0_was h0_readChoices h0_open h0_wayOf h0_cure h0_left h0_satIn : Nat) (thrown_ : Int32) (told_ : Int32) (columns_ : Int32) (rooms_ : Int32) (many_ : Int32) (pupils_ : Int32) (kept_ : Int32) (taped_ : Int32) (at_ : Int32) (to_ : Int32) (digit_ : Int32) (number_ : Int32) (readMany_ : Int32) (bestThen_ : Int32) (row_ : Nat → Int32) (subjectOf_ : Nat → Int32) (columnOf_ : Nat → Int32) (choices_ : Nat → Int32) (open_ : Nat → Int32) (rr : Int32) (o0 : Int32) (o1 : Int32) (o2 : Nat → Int32) (o3 : Nat → Int32) (h : m_X6_clash thrown_ told_ many_ pupils_ row_ subjectOf_ columnOf_ choices_ open_ = some (rr, o0, o1, o2, o3)) : uMi l yX6_clash wsX6_clash rmX6_clash (dC, dI) [(cyC, .char), (cyI, .int), (cyJ, .long)] [.ref h0] [(h0, .inr (6, [.int thrown_, .int told_, .ref h0_row, .int columns_, .int rooms_, .int many_, .ref h0_subjectOf, .ref h0_teacherOf, .ref h0_seatsOf, .ref h0_columnOf, .ref h0_barsOf, .int pupils_, .ref h0_choices, .int kept_, .ref h0_tape, .int taped_, .int at_, .int to_, .int digit_, .int number_, .ref h0_was, .ref h0_readChoices, .int readMany_, .ref h0_open, .ref h0_wayOf, .int bestThen_, .ref h0_cure, .ref h0_left, .ref h0_satIn])), (h0_row, .inl (cyI, 32, .inl row_)), (h0_subjectOf, .inl (cyI, 17, .inl subjectOf_)), (h0_columnOf, .inl (cyI, 17, .inl columnOf_)), (h0_choices, .inl (cyI, 24, .inl choices_)), (h0_open, .inl (cyI, 10, .inl open_))] [(h0, .inr (6, [.int o0, .int o1, .ref h0_row, .int columns_, .int rooms_, .int many_, .ref h0_subjectOf, .ref h0_teacherOf, .ref h0_seatsOf, .ref h0_columnOf, .ref h0_barsOf, .int pupils_, .ref h0_choices, .int kept_, .ref h0_tape, .int taped_, .int at_, .int to_, .int digit_, .int number_, .ref h0_was, .ref h0_readChoices, .int readMany_, .ref h0_open, .ref h0_wayOf, .int bestThen_, .ref h0_cure, .ref h0_left, .ref h0_satIn])), (h0_row, .inl (cyI, 32, .inl o2)), (h0_subjectOf, .inl (cyI, 17, .inl subjectOf_)), (h0_columnOf, .inl (cyI, 17, .inl columnOf_)), (h0_choices, .inl (cyI, 24, .inl choices_)), (h0_open, .inl (cyI, 10, .inl o3))] rr := by
  refine uMi.of (cc := cX6_clash) (maxL := 7) (by decide) rfl (Nat.le_of_ble_eq_true rfl) (fun p e s m args below meth c A ls Q hx hb hml hown hts hA hP hK hD hE hS hl hret => ?_)
  have hown : s.vm.findClass RX6 = some m.cls := hown
  have hl : lv_has ls 7 [(0, .ref h0)] := hl
  have hiX6 : ∀ w ∈ u_ws RX6 TX6 29, w ∈ wsX6_clash := fun _ h9 => List.mem_cons_of_mem _ (List.mem_append_right _ h9)
  have J132 : ∀ (v1 : Int32), ∀ (v2 : Int32), ∀ (v3 : Int32), ∀ (thrown_ : Int32), ∀ (open_ : Nat → Int32), m_X6_clash_132 thrown_ told_ row_ open_ v1 v2 v3 = some (rr, o0, o1, o2, o3) → ∀ (H : Heap) (locs : List Loc) (ls : Array Slot), va_P (dC, dI) vwCl [(h0, .inr (6, [.int thrown_, .int told_, .ref h0_row, .int columns_, .int rooms_, .int many_, .ref h0_subjectOf, .ref h0_teacherOf, .ref h0_seatsOf, .ref h0_columnOf, .ref h0_barsOf, .int pupils_, .ref h0_choices, .int kept_, .ref h0_tape, .int taped_, .int at_, .int to_, .int digit_, .int number_, .ref h0_was, .ref h0_readChoices, .int readMany_, .ref h0_open, .ref h0_wayOf, .int bestThen_, .ref h0_cure, .ref h0_left, .ref h0_satIn])), (h0_row, .inl (cyI, 32, .inl row_)), (h0_subjectOf, .inl (cyI, 17, .inl subjectOf_)), (h0_columnOf, .inl (cyI, 17, .inl columnOf_)), (h0_choices, .inl (cyI, 24, .inl choices_)), (h0_open, .inl (cyI, 10, .inl open_))] H → va_D A [(h0, .inr (6, [.int thrown_, .int told_, .ref h0_row, .int columns_, .int rooms_, .int many_, .ref h0_subjectOf, .ref h0_teacherOf, .ref h0_seatsOf, .ref h0_columnOf, .ref h0_barsOf, .int pupils_, .ref h0_choices, .int kept_, .ref h0_tape, .int taped_, .int at_, .int to_, .int digit_, .int number_, .ref h0_was, .ref h0_readChoices, .int readMany_, .ref h0_open, .ref h0_wayOf, .int bestThen_, .ref h0_cure, .ref h0_left, .ref h0_satIn])), (h0_row, .inl (cyI, 32, .inl row_)), (h0_subjectOf, .inl (cyI, 17, .inl subjectOf_)), (h0_columnOf, .inl (cyI, 17, .inl columnOf_)), (h0_choices, .inl (cyI, 24, .inl choices_)), (h0_open, .inl (cyI, 10, .inl open_))] → va_S A s.heap H locs → lv_has ls 7 [(0, .ref h0), (1, .int v1), (2, .int v2), (3, .int v3)] → W p l e rmX6_clash s m args below meth c H locs 0 0 Q (F0 m 132 ls []) := by
    intro v1 v2 v3 thrown_ open_ h H locs ls hP hD hS hl
    unfold m_X6_clash_132 at h
    refine lv_iload_n hx hb dX6_clash_132 rfl (lv_at hl 1 rfl) ?_
    refine lv_if_lt (tgt := 142) hx hb dX6_clash_133 (by decide) (fun c_ => ?_) (fun c_ => ?_)
    · have h := (if_pos c_).symm.trans h
      refine lv_iload_n hx hb dX6_clash_142 rfl (lv_at hl 1 rfl) ?_
      have h : some (v1, thrown_, told_, row_, open_) = some (rr, o0, o1, o2, o3) := h
      have z0 := Option.some.inj h
      obtain ⟨rfl, z1⟩ := Prod.mk.inj z0
      obtain ⟨rfl, z2⟩ := Prod.mk.inj z1
      obtain ⟨rfl, z3⟩ := Prod.mk.inj z2
      obtain ⟨rfl, z4⟩ := Prod.mk.inj z3
      obtain rfl := z4
      exact hret _ _ _ _ hP hS rfl dX6_clash_143
    · have h := (if_neg c_).symm.trans h
      refine lv_aload_n hx hb dX6_clash_136 rfl (lv_at hl 0 rfl) ?_
      refine lv_iload_n hx hb dX6_clash_137 rfl (lv_at hl 2 rfl) ?_
      refine lv_iload_n hx hb dX6_clash_138 rfl (lv_at hl 3 rfl) ?_
      obtain ⟨told_1, row_2, hq, h⟩ := bd2_some h
      refine uV_v (b := h0) (As := [.int v2, .int v3]) (rest := []) ⟨hx, hb, hml, hown, hts⟩ (c_X6_notesTwo l dC dI cyC cyI cyJ h0 h0_row h0_subjectOf h0_teacherOf h0_seatsOf h0_columnOf h0_barsOf h0_choices h0_tape h0_was h0_readChoices h0_open h0_wayOf h0_cure h0_left h0_satIn thrown_ told_ columns_ rooms_ many_ pupils_ kept_ taped_ at_ to_ digit_ number_ readMany_ bestThen_ row_ v2 v3 told_1 row_2 hq) (cwV 2 hts gX6_clash_X6_notesTwo rfl rfl rfl (by decide +kernel) ⟨Nat.le_of_ble_eq_true rfl, Nat.le_of_ble_eq_true rfl⟩) hK hE hA hP hD hS [0, 1] rfl rfl rfl 6 0 rfl rfl rfl hl.1 rfl (Nat.le_of_ble_eq_true rfl) ⟨Nat.zero_le _, Nat.zero_le _⟩ dX6_clash_139 (fun H locs hP hD hS => ?_)
      have hP : va_P (dC, dI) vwCl [(h0, .inr (6, [.int thrown_, .int told_1, .ref h0_row, .int columns_, .int rooms_, .int many_, .ref h0_subjectOf, .ref h0_teacherOf, .ref h0_seatsOf, .ref h0_columnOf, .ref h0_barsOf, .int pupils_, .ref h0_choices, .int kept_, .ref h0_tape, .int taped_, .int at_, .int to_, .int digit_, .int number_, .ref h0_was, .ref h0_readChoices, .int readMany_, .ref h0_open, .ref h0_wayOf, .int bestThen_, .ref h0_cure, .ref h0_left, .ref h0_satIn])), (h0_row, .inl (cyI, 32, .inl row_2)), (h0_subjectOf, .inl (cyI, 17, .inl subjectOf_)), (h0_columnOf, .inl (cyI, 17, .inl columnOf_)), (h0_choices, .inl (cyI, 24, .inl choices_)), (h0_open, .inl (cyI, 10, .inl open_))] H := hP
      have hD : va_D A [(h0, .inr (6, [.int thrown_, .int told_1, .ref h0_row, .int columns_, .int rooms_, .int many_, .ref h0_subjectOf, .ref h0_teacherOf, .ref h0_seatsOf, .ref h0_columnOf, .ref h0_barsOf, .int pupils_, .ref h0_choices, .int kept_, .ref h0_tape, .int taped_, .int at_, .int to_, .int digit_, .int number_, .ref h0_was, .ref h0_readChoices, .int readMany_, .ref h0_open, .ref h0_wayOf, .int bestThen_, .ref h0_cure, .ref h0_left, .ref h0_satIn])), (h0_row, .inl (cyI, 32, .inl row_2)), (h0_subjectOf, .inl (cyI, 17, .inl subjectOf_)), (h0_columnOf, .inl (cyI, 17, .inl columnOf_)), (h0_choices, .inl (cyI, 24, .inl choices_)), (h0_open, .inl (cyI, 10, .inl open_))] := hD
      refine lv_iload_n hx hb dX6_clash_142 rfl (lv_at hl 1 rfl) ?_
      have h : some (v1, thrown_, told_1, row_2, open_) = some (rr, o0, o1, o2, o3) := h
      have z0 := Option.some.inj h
      obtain ⟨rfl, z1⟩ := Prod.mk.inj z0
      obtain ⟨rfl, z2⟩ := Prod.mk.inj z1
      obtain ⟨rfl, z3⟩ := Prod.mk.inj z2
      obtain ⟨rfl, z4⟩ := Prod.mk.inj z3
      obtain rfl := z4
      exact hret _ _ _ _ hP hS rfl dX6_clash_143
  have L19 : ∀ (thrown_ : Int32), ∀ (open_ : Nat → Int32), ∀ (n19 : Nat), ∀ (v1 : Int32), ∀ (v2 : Int32), ∀ (v3 : Int32), ∀ (v4 : Int32), it4 (m_X6_clash_19 thrown_ told_ pupils_ row_ choices_ open_) n19 v1 v2 v3 v4 = some (rr, o0, o1, o2, o3) → ∀ (H : Heap) (locs : List Loc) (ls : Array Slot), va_P (dC, dI) vwCl [(h0, .inr (6, [.int thrown_, .int told_, .ref h0_row, .int columns_, .int rooms_, .int many_, .ref h0_subjectOf, .ref h0_teacherOf, .ref h0_seatsOf, .ref h0_columnOf, .ref h0_barsOf, .int pupils_, .ref h0_choices, .int kept_, .ref h0_tape, .int taped_, .int at_, .int to_, .int digit_, .int number_, .ref h0_was, .ref h0_readChoices, .int readMany_, .ref h0_open, .ref h0_wayOf, .int bestThen_, .ref h0_cure, .ref h0_left, .ref h0_satIn])), (h0_row, .inl (cyI, 32, .inl row_)), (h0_subjectOf, .inl (cyI, 17, .inl subjectOf_)), (h0_columnOf, .inl (cyI, 17, .inl columnOf_)), (h0_choices, .inl (cyI, 24, .inl choices_)), (h0_open, .inl (cyI, 10, .inl open_))] H → va_D A [(h0, .inr (6, [.int thrown_, .int told_, .ref h0_row, .int columns_, .int rooms_, .int many_, .ref h0_subjectOf, .ref h0_teacherOf, .ref h0_seatsOf, .ref h0_columnOf, .ref h0_barsOf, .int pupils_, .ref h0_choices, .int kept_, .ref h0_tape, .int taped_, .int at_, .int to_, .int digit_, .int number_, .ref h0_was, .ref h0_readChoices, .int readMany_, .ref h0_open, .ref h0_wayOf, .int bestThen_, .ref h0_cure, .ref h0_left, .ref h0_satIn])), (h0_row, .inl (cyI, 32, .inl row_)), (h0_subjectOf, .inl (cyI, 17, .inl subjectOf_)), (h0_columnOf, .inl (cyI, 17, .inl columnOf_)), (h0_choices, .inl (cyI, 24, .inl choices_)), (h0_open, .inl (cyI, 10, .inl open_))] → va_S A s.heap H locs → lv_has ls 7 [(0, .ref h0), (1, .int v1), (2, .int v2), (3, .int v3), (4, .int v4)] → W p l e rmX6_clash s m args below meth c H locs 0 0 Q (F0 m 19 ls []) := by
    intro thrown_ open_ n19
    induction n19 with
    | zero => intro v1 v2 v3 v4 h; exact absurd h (fun z => it4_z z)
    | succ n19 ih19 =>
      have L32 : ∀ (v4 : Int32), ∀ (n32 : Nat), ∀ (v1 : Int32), ∀ (v2 : Int32), ∀ (v3 : Int32), ∀ (v5 : Int32), it4 (m_X6_clash_32 pupils_ choices_ open_ v4 (it4 (m_X6_clash_19 thrown_ told_ pupils_ row_ choices_ open_) n19)) n32 v1 v2 v3 v5 = some (rr, o0, o1, o2, o3) → ∀ (H : Heap) (locs : List Loc) (ls : Array Slot), va_P (dC, dI) vwCl [(h0, .inr (6, [.int thrown_, .int told_, .ref h0_row, .int columns_, .int rooms_, .int many_, .ref h0_subjectOf, .ref h0_teacherOf, .ref h0_seatsOf, .ref h0_columnOf, .ref h0_barsOf, .int pupils_, .ref h0_choices, .int kept_, .ref h0_tape, .int taped_, .int at_, .int to_, .int digit_, .int number_, .ref h0_was, .ref h0_readChoices, .int readMany_, .ref h0_open, .ref h0_wayOf, .int bestThen_, .ref h0_cure, .ref h0_left, .ref h0_satIn])), (h0_row, .inl (cyI, 32, .inl row_)), (h0_subjectOf, .inl (cyI, 17, .inl subjectOf_)), (h0_columnOf, .inl (cyI, 17, .inl columnOf_)), (h0_choices, .inl (cyI, 24, .inl choices_)), (h0_open, .inl (cyI, 10, .inl open_))] H → va_D A [(h0, .inr (6, [.int thrown_, .int told_, .ref h0_row, .int columns_, .int rooms_, .int many_, .ref h0_subjectOf, .ref h0_teacherOf, .ref h0_seatsOf, .ref h0_columnOf, .ref h0_barsOf, .int pupils_, .ref h0_choices, .int kept_, .ref h0_tape, .int taped_, .int at_, .int to_, .int digit_, .int number_, .ref h0_was, .ref h0_readChoices, .int readMany_, .ref h0_open, .ref h0_wayOf, .int bestThen_, .ref h0_cure, .ref h0_left, .ref h0_satIn])), (h0_row, .inl (cyI, 32, .inl row_)), (h0_subjectOf, .inl (cyI, 17, .inl subjectOf_)), (h0_columnOf, .inl (cyI, 17, .inl columnOf_)), (h0_choices, .inl (cyI, 24, .inl choices_)), (h0_open, .inl (cyI, 10, .inl open_))] → va_S A s.heap H locs → lv_has ls 7 [(0, .ref h0), (1, .int v1), (2, .int v2), (3, .int v3), (4, .int v4), (5, .int v5)] → W p l e rmX6_clash s m args below meth c H locs 0 0 Q (F0 m 32 ls []) := by
        intro v4 n32
        induction n32 with
        | zero => intro v1 v2 v3 v5 h; exact absurd h (fun z => it4_z z)
        | succ n32 ih32 =>
          intro v1 v2 v3 v5 h H locs ls hP hD hS hl
          have h : m_X6_clash_32 pupils_ choices_ open_ v4 (it4 (m_X6_clash_19 thrown_ told_ pupils_ row_ choices_ open_) n19) (it4 (m_X6_clash_32 pupils_ choices_ open_ v4 (it4 (m_X6_clash_19 thrown_ told_ pupils_ row_ choices_ open_) n19)) n32) v1 v2 v3 v5 = some (rr, o0, o1, o2, o3) := h
          unfold m_X6_clash_32 at h
          refine lv_iload hx hb dX6_clash_32 (lv_at hl 5 rfl) ?_
          refine lv_bipush (v := 10) hx hb dX6_clash_34 (by decide) ?_
          refine lv_icmp_ge (tgt := 126) hx hb dX6_clash_36 (by decide) (fun c_ => ?_) (fun c_ => ?_)
          · have h := (if_pos c_).symm.trans h
            obtain ⟨v4_3, e_v4_3⟩ : ∃ z : Int32, z = (v4 + 1) := ⟨_, rfl⟩
            have h := lt_use e_v4_3 h
            refine lv_iinc (v := v4_3) (lv' := [(4, .int v4_3), (0, .ref h0), (1, .int v1), (2, .int v2), (3, .int v3), (5, .int v5)]) hx hb dX6_clash_126 hl (k := 4) rfl (by rw [e_v4_3]; rfl) (by decide) rfl (fun ls hl => ?_)
            refine lv_goto (tgt := 19) hx hb dX6_clash_129 (by decide) ?_
            exact ih19 v1 v2 v3 v4_3 h _ _ _ hP hD hS (lv_sub hl [1, 2, 3, 4, 0] rfl)
          · have h := (if_neg c_).symm.trans h
            refine lv_aload_n hx hb dX6_clash_39 rfl (lv_at hl 0 rfl) ?_
            refine lv_iload hx hb dX6_clash_40 (lv_at hl 4 rfl) ?_
            obtain ⟨r_4, hq, h⟩ := bd1_some h
            refine uV_i (b := h0) (As := [.int v4]) (rest := []) ⟨hx, hb, hml, hown, hts⟩ (c_X6_chose l dC dI cyC cyI cyJ h0 h0_row h0_subjectOf h0_teacherOf h0_seatsOf h0_columnOf h0_barsOf h0_choices h0_tape h0_was h0_readChoices h0_open h0_wayOf h0_cure h0_left h0_satIn thrown_ told_ columns_ rooms_ many_ pupils_ kept_ taped_ at_ to_ digit_ number_ readMany_ bestThen_ choices_ v4 r_4 hq) (cwV 1 hts gX6_clash_X6_chose rfl rfl rfl (by decide +kernel) ⟨Nat.le_of_ble_eq_true rfl, Nat.le_of_ble_eq_true rfl⟩) hK hE hA hP hD hS [0, 4] rfl rfl rfl 6 0 rfl rfl rfl hl.1 rfl (Nat.le_of_ble_eq_true rfl) ⟨Nat.zero_le _, Nat.zero_le _⟩ dX6_clash_42 (fun H locs hP hD hS => ?_)
            have hP : va_P (dC, dI) vwCl [(h0, .inr (6, [.int thrown_, .int told_, .ref h0_row, .int columns_, .int rooms_, .int many_, .ref h0_subjectOf, .ref h0_teacherOf, .ref h0_seatsOf, .ref h0_columnOf, .ref h0_barsOf, .int pupils_, .ref h0_choices, .int kept_, .ref h0_tape, .int taped_, .int at_, .int to_, .int digit_, .int number_, .ref h0_was, .ref h0_readChoices, .int readMany_, .ref h0_open, .ref h0_wayOf, .int bestThen_, .ref h0_cure, .ref h0_left, .ref h0_satIn])), (h0_row, .inl (cyI, 32, .inl row_)), (h0_subjectOf, .inl (cyI, 17, .inl subjectOf_)), (h0_columnOf, .inl (cyI, 17, .inl columnOf_)), (h0_choices, .inl (cyI, 24, .inl choices_)), (h0_open, .inl (cyI, 10, .inl open_))] H := hP
            have hD : va_D A [(h0, .inr (6, [.int thrown_, .int told_, .ref h0_row, .int columns_, .int rooms_, .int many_, .ref h0_subjectOf, .ref h0_teacherOf, .ref h0_seatsOf, .ref h0_columnOf, .ref h0_barsOf, .int pupils_, .ref h0_choices, .int kept_, .ref h0_tape, .int taped_, .int at_, .int to_, .int digit_, .int number_, .ref h0_was, .ref h0_readChoices, .int readMany_, .ref h0_open, .ref h0_wayOf, .int bestThen_, .ref h0_cure, .ref h0_left, .ref h0_satIn])), (h0_row, .inl (cyI, 32, .inl row_)), (h0_subjectOf, .inl (cyI, 17, .inl subjectOf_)), (h0_columnOf, .inl (cyI, 17, .inl columnOf_)), (h0_choices, .inl (cyI, 24, .inl choices_)), (h0_open, .inl (cyI, 10, .inl open_))] := hD
            refine lv_aload_n hx hb dX6_clash_45 rfl (lv_at hl 0 rfl) ?_
            refine lv_iload hx hb dX6_clash_46 (lv_at hl 5 rfl) ?_
            obtain ⟨r_5, hq, h⟩ := bd1_some h
            refine uV_i (b := h0) (As := [.int v5]) (rest := [.int r_4]) ⟨hx, hb, hml, hown, hts⟩ (c_X6_chose l dC dI cyC cyI cyJ h0 h0_row h0_subjectOf h0_teacherOf h0_seatsOf h0_columnOf h0_barsOf h0_choices h0_tape h0_was h0_readChoices h0_open h0_wayOf h0_cure h0_left h0_satIn thrown_ told_ columns_ rooms_ many_ pupils_ kept_ taped_ at_ to_ digit_ number_ readMany_ bestThen_ choices_ v5 r_5 hq) (cwV 1 hts gX6_clash_X6_chose rfl rfl rfl (by decide +kernel) ⟨Nat.le_of_ble_eq_true rfl, Nat.le_of_ble_eq_true rfl⟩) hK hE hA hP hD hS [0, 4] rfl rfl rfl 6 0 rfl rfl rfl hl.1 rfl (Nat.le_of_ble_eq_true rfl) ⟨Nat.zero_le _, Nat.zero_le _⟩ dX6_clash_48 (fun H locs hP hD hS => ?_)
            have hP : va_P (dC, dI) vwCl [(h0, .inr (6, [.int thrown_, .int told_, .ref h0_row, .int columns_, .int rooms_, .int many_, .ref h0_subjectOf, .ref h0_teacherOf, .ref h0_seatsOf, .ref h0_columnOf, .ref h0_barsOf, .int pupils_, .ref h0_choices, .int kept_, .ref h0_tape, .int taped_, .int at_, .int to_, .int digit_, .int number_, .ref h0_was, .ref h0_readChoices, .int readMany_, .ref h0_open, .ref h0_wayOf, .int bestThen_, .ref h0_cure, .ref h0_left, .ref h0_satIn])), (h0_row, .inl (cyI, 32, .inl row_)), (h0_subjectOf, .inl (cyI, 17, .inl subjectOf_)), (h0_columnOf, .inl (cyI, 17, .inl columnOf_)), (h0_choices, .inl (cyI, 24, .inl choices_)), (h0_open, .inl (cyI, 10, .inl open_))] H := hP
            have hD : va_D A [(h0, .inr (6, [.int thrown_, .int told_, .ref h0_row, .int columns_, .int rooms_, .int many_, .ref h0_subjectOf, .ref h0_teacherOf, .ref h0_seatsOf, .ref h0_columnOf, .ref h0_barsOf, .int pupils_, .ref h0_choices, .int kept_, .ref h0_tape, .int taped_, .int at_, .int to_, .int digit_, .int number_, .ref h0_was, .ref h0_readChoices, .int readMany_, .ref h0_open, .ref h0_wayOf, .int bestThen_, .ref h0_cure, .ref h0_left, .ref h0_satIn])), (h0_row, .inl (cyI, 32, .inl row_)), (h0_subjectOf, .inl (cyI, 17, .inl subjectOf_)), (h0_columnOf, .inl (cyI, 17, .inl columnOf_)), (h0_choices, .inl (cyI, 24, .inl choices_)), (h0_open, .inl (cyI, 10, .inl open_))] := hD
            refine lv_iand hx hb dX6_clash_51 ?_
            obtain ⟨r_6, hq, h⟩ := bd1_some h
            refine uS_i (As := [.int (r_4 &&& r_5)]) (rest := []) ⟨hx, hb, hml, hown, hts⟩ (c_X6_bits l dC dI cyC cyI cyJ (r_4 &&& r_5) r_6 hq) (va_cwS 1 hts gX6_clash_X6_bits rfl rfl rfl (by decide +kernel) ⟨Nat.le_of_ble_eq_true rfl, Nat.le_of_ble_eq_true rfl⟩) hK hE hA hP hD hS [] rfl rfl rfl rfl hl.1 rfl (Nat.le_of_ble_eq_true rfl) ⟨Nat.zero_le _, Nat.zero_le _⟩ dX6_clash_52 (fun H locs hP hD hS => ?_)
            have hP : va_P (dC, dI) vwCl [(h0, .inr (6, [.int thrown_, .int told_, .ref h0_row, .int columns_, .int rooms_, .int many_, .ref h0_subjectOf, .ref h0_teacherOf, .ref h0_seatsOf, .ref h0_columnOf, .ref h0_barsOf, .int pupils_, .ref h0_choices, .int kept_, .ref h0_tape, .int taped_, .int at_, .int to_, .int digit_, .int number_, .ref h0_was, .ref h0_readChoices, .int readMany_, .ref h0_open, .ref h0_wayOf, .int bestThen_, .ref h0_cure, .ref h0_left, .ref h0_satIn])), (h0_row, .inl (cyI, 32, .inl row_)), (h0_subjectOf, .inl (cyI, 17, .inl subjectOf_)), (h0_columnOf, .inl (cyI, 17, .inl columnOf_)), (h0_choices, .inl (cyI, 24, .inl choices_)), (h0_open, .inl (cyI, 10, .inl open_))] H := hP
            have hD : va_D A [(h0, .inr (6, [.int thrown_, .int told_, .ref h0_row, .int columns_, .int rooms_, .int many_, .ref h0_subjectOf, .ref h0_teacherOf, .ref h0_seatsOf, .ref h0_columnOf, .ref h0_barsOf, .int pupils_, .ref h0_choices, .int kept_, .ref h0_tape, .int taped_, .int at_, .int to_, .int digit_, .int number_, .ref h0_was, .ref h0_readChoices, .int readMany_, .ref h0_open, .ref h0_wayOf, .int bestThen_, .ref h0_cure, .ref h0_left, .ref h0_satIn])), (h0_row, .inl (cyI, 32, .inl row_)), (h0_subjectOf, .inl (cyI, 17, .inl subjectOf_)), (h0_columnOf, .inl (cyI, 17, .inl columnOf_)), (h0_choices, .inl (cyI, 24, .inl choices_)), (h0_open, .inl (cyI, 10, .inl open_))] := hD
            refine lv_istore (lv' := [(6, .int r_6), (0, .ref h0), (1, .int v1), (2, .int v2), (3, .int v3), (4, .int v4), (5, .int v5)]) hx hb dX6_clash_55 hl (by decide) rfl (fun ls hl => ?_)
            refine lv_aload_n hx hb dX6_clash_57 rfl (lv_at hl 1 rfl) ?_
            refine va_get (D := (dC, dI)) (ci := 6) (v := .ref h0_open) (C := RX6) (T := TX6) (N := 29) hx hb hts hiX6 hown hK hP 0 rfl rfl 23 (by decide) (hts (.fieldLink RX6 47 "OptionLatticeModel" "open" "[I") (by decide +kernel)) (fun _ h9 => h9) rfl dX6_clash_58 ?_
            refine lv_iload hx hb dX6_clash_61 (lv_at hl 5 rfl) ?_
            obtain ⟨g_, h⟩ := gd_some h
            refine va_iald hx hb hK hP 5 1 rfl rfl (inb_in g_) dX6_clash_63 ?_
            refine lv_aload_n hx hb dX6_clash_64 rfl (lv_at hl 1 rfl) ?_
            refine va_get (D := (dC, dI)) (ci := 6) (v := .ref h0_open) (C := RX6) (T := TX6) (N := 29) hx hb hts hiX6 hown hK hP 0 rfl rfl 23 (by decide) (hts (.fieldLink RX6 47 "OptionLatticeModel" "open" "[I") (by decide +kernel)) (fun _ h9 => h9) rfl dX6_clash_65 ?_
            refine lv_iload hx hb dX6_clash_68 (lv_at hl 6 rfl) ?_
            obtain ⟨g_, h⟩ := gd_some h
            refine va_iald hx hb hK hP 5 1 rfl rfl (inb_in g_) dX6_clash_70 ?_
            refine lv_icmp_ne (tgt := 120) hx hb dX6_clash_71 (by decide) (fun c_ => ?_) (fun c_ => ?_)
            · have h := (if_neg c_).symm.trans h
              obtain ⟨v5_7, e_v5_7⟩ : ∃ z : Int32, z = (v5 + 1) := ⟨_, rfl⟩
              have h := lt_use e_v5_7 h
              refine lv_iinc (v := v5_7) (lv' := [(5, .int v5_7), (6, .int r_6), (0, .ref h0), (1, .int v1), (2, .int v2), (3, .int v3), (4, .int v4)]) hx hb dX6_clash_120 hl (k := 6) rfl (by rw [e_v5_7]; rfl) (by decide) rfl (fun ls hl => ?_)
              refine lv_goto (tgt := 32) hx hb dX6_clash_123 (by decide) ?_
              exact ih32 v1 v2 v3 v5_7 h _ _ _ hP hD hS (lv_sub hl [2, 3, 4, 5, 6, 0] rfl)
            · have h := (if_pos c_).symm.trans h
              refine lv_aload_n hx hb dX6_clash_74 rfl (lv_at hl 1 rfl) ?_
              refine va_get (D := (dC, dI)) (ci := 6) (v := .ref h0_open) (C := RX6) (T := TX6) (N := 29) hx hb hts hiX6 hown hK hP 0 rfl rfl 23 (by decide) (hts (.fieldLink RX6 47 "OptionLatticeModel" "open" "[I") (by decide +kernel)) (fun _ h9 => h9) rfl dX6_clash_75 ?_
              refine lv_iload hx hb dX6_clash_78 (lv_at hl 5 rfl) ?_
              obtain ⟨g_, h⟩ := gd_some h
              refine va_iald hx hb hK hP 5 1 rfl rfl (inb_in g_) dX6_clash_80 ?_
              obtain ⟨r_8, hq, h⟩ := bd1_some h
              refine uS_i (As := [.int (open_ v4.toNatClampNeg)]) (rest := []) ⟨hx, hb, hml, hown, hts⟩ (c_X6_bits l dC dI cyC cyI cyJ (open_ v4.toNatClampNeg) r_8 hq) (va_cwS 1 hts gX6_clash_X6_bits rfl rfl rfl (by decide +kernel) ⟨Nat.le_of_ble_eq_true rfl, Nat.le_of_ble_eq_true rfl⟩) hK hE hA hP hD hS [] rfl rfl rfl rfl hl.1 rfl (Nat.le_of_ble_eq_true rfl) ⟨Nat.zero_le _, Nat.zero_le _⟩ dX6_clash_81 (fun H locs hP hD hS => ?_)
              have hP : va_P (dC, dI) vwCl [(h0, .inr (6, [.int thrown_, .int told_, .ref h0_row, .int columns_, .int rooms_, .int many_, .ref h0_subjectOf, .ref h0_teacherOf, .ref h0_seatsOf, .ref h0_columnOf, .ref h0_barsOf, .int pupils_, .ref h0_choices, .int kept_, .ref h0_tape, .int taped_, .int at_, .int to_, .int digit_, .int number_, .ref h0_was, .ref h0_readChoices, .int readMany_, .ref h0_open, .ref h0_wayOf, .int bestThen_, .ref h0_cure, .ref h0_left, .ref h0_satIn])), (h0_row, .inl (cyI, 32, .inl row_)), (h0_subjectOf, .inl (cyI, 17, .inl subjectOf_)), (h0_columnOf, .inl (cyI, 17, .inl columnOf_)), (h0_choices, .inl (cyI, 24, .inl choices_)), (h0_open, .inl (cyI, 10, .inl open_))] H := hP
              have hD : va_D A [(h0, .inr (6, [.int thrown_, .int told_, .ref h0_row, .int columns_, .int rooms_, .int many_, .ref h0_subjectOf, .ref h0_teacherOf, .ref h0_seatsOf, .ref h0_columnOf, .ref h0_barsOf, .int pupils_, .ref h0_choices, .int kept_, .ref h0_tape, .int taped_, .int at_, .int to_, .int digit_, .int number_, .ref h0_was, .ref h0_readChoices, .int readMany_, .ref h0_open, .ref h0_wayOf, .int bestThen_, .ref h0_cure, .ref h0_left, .ref h0_satIn])), (h0_row, .inl (cyI, 32, .inl row_)), (h0_subjectOf, .inl (cyI, 17, .inl subjectOf_)), (h0_columnOf, .inl (cyI, 17, .inl columnOf_)), (h0_choices, .inl (cyI, 24, .inl choices_)), (h0_open, .inl (cyI, 10, .inl open_))] := hD
              refine lv_iconst (v := 1) hx hb dX6_clash_84 (by decide) ?_
              refine lv_icmp_ne (tgt := 120) hx hb dX6_clash_85 (by decide) (fun c_ => ?_) (fun c_ => ?_)
              · have h := (if_neg c_).symm.trans h
                obtain ⟨v5_9, e_v5_9⟩ : ∃ z : Int32, z = (v5 + 1) := ⟨_, rfl⟩
                have h := lt_use e_v5_9 h
                refine lv_iinc (v := v5_9) (lv' := [(5, .int v5_9), (6, .int r_6), (0, .ref h0), (1, .int v1), (2, .int v2), (3, .int v3), (4, .int v4)]) hx hb dX6_clash_120 hl (k := 6) rfl (by rw [e_v5_9]; rfl) (by decide) rfl (fun ls hl => ?_)
                refine lv_goto (tgt := 32) hx hb dX6_clash_123 (by decide) ?_
                exact ih32 v1 v2 v3 v5_9 h _ _ _ hP hD hS (lv_sub hl [2, 3, 4, 5, 6, 0] rfl)
              · have h := (if_pos c_).symm.trans h
                refine lv_iload hx hb dX6_clash_88 (lv_at hl 0 rfl) ?_
                refine lv_iload_n hx hb dX6_clash_90 rfl (lv_at hl 3 rfl) ?_
                refine lv_icmp_gt (tgt := 97) hx hb dX6_clash_91 (by decide) (fun c_ => ?_) (fun c_ => ?_)
                · have h := (if_pos c_).symm.trans h
                  refine lv_iload hx hb dX6_clash_97 (lv_at hl 0 rfl) ?_
                  refine lv_istore_n (lv' := [(2, .int r_6), (6, .int r_6), (0, .ref h0), (1, .int v1), (3, .int v3), (4, .int v4), (5, .int v5)]) hx hb dX6_clash_99 rfl hl (by decide) rfl (fun ls hl => ?_)
                  refine lv_bipush (v := 10) hx hb dX6_clash_100 (by decide) ?_
                  refine lv_iload hx hb dX6_clash_102 (lv_at hl 5 rfl) ?_
                  refine lv_imul hx hb dX6_clash_104 ?_
                  refine lv_iload hx hb dX6_clash_105 (lv_at hl 6 rfl) ?_
                  refine lv_iadd hx hb dX6_clash_107 ?_
                  refine lv_topi (fun v1_10 e_v1_10 => ?_)
                  have h := lt_use e_v1_10 h
                  refine lv_istore_n (lv' := [(1, .int v1_10), (2, .int r_6), (6, .int r_6), (0, .ref h0), (3, .int v3), (4, .int v4), (5, .int v5)]) hx hb dX6_clash_108 rfl hl (by decide) rfl (fun ls hl => ?_)
                  refine lv_aload_n hx hb dX6_clash_109 rfl (lv_at hl 3 rfl) ?_
                  refine va_get (D := (dC, dI)) (ci := 6) (v := .ref h0_open) (C := RX6) (T := TX6) (N := 29) hx hb hts hiX6 hown hK hP 0 rfl rfl 23 (by decide) (hts (.fieldLink RX6 47 "OptionLatticeModel" "open" "[I") (by decide +kernel)) (fun _ h9 => h9) rfl dX6_clash_110 ?_
                  refine lv_iload hx hb dX6_clash_113 (lv_at hl 5 rfl) ?_
                  obtain ⟨g_, h⟩ := gd_some h
                  refine va_iald hx hb hK hP 5 1 rfl rfl (inb_in g_) dX6_clash_115 ?_
                  obtain ⟨r_11, hq, h⟩ := bd1_some h
                  refine uS_i (As := [.int (open_ v4.toNatClampNeg)]) (rest := []) ⟨hx, hb, hml, hown, hts⟩ (c_J6_numberOfTrailingZeros_0f7a4 l dC dI cyC cyI cyJ (open_ v4.toNatClampNeg) r_11 hq) (va_cwS 1 hts gX6_clash_J6_numberOfTrailingZeros_0f7a4 rfl rfl rfl (by decide +kernel) ⟨Nat.le_of_ble_eq_true rfl, Nat.le_of_ble_eq_true rfl⟩) hK hE hA hP hD hS [] rfl rfl rfl rfl hl.1 rfl (Nat.le_of_ble_eq_true rfl) ⟨Nat.zero_le _, Nat.zero_le _⟩ dX6_clash_116 (fun H locs hP hD hS => ?_)
                  have hP : va_P (dC, dI) vwCl [(h0, .inr (6, [.int thrown_, .int told_, .ref h0_row, .int columns_, .int rooms_, .int many_, .ref h0_subjectOf, .ref h0_teacherOf, .ref h0_seatsOf, .ref h0_columnOf, .ref h0_barsOf, .int pupils_, .ref h0_choices, .int kept_, .ref h0_tape, .int taped_, .int at_, .int to_, .int digit_, .int number_, .ref h0_was, .ref h0_readChoices, .int readMany_, .ref h0_open, .ref h0_wayOf, .int bestThen_, .ref h0_cure, .ref h0_left, .ref h0_satIn])), (h0_row, .inl (cyI, 32, .inl row_)), (h0_subjectOf, .inl (cyI, 17, .inl subjectOf_)), (h0_columnOf, .inl (cyI, 17, .inl columnOf_)), (h0_choices, .inl (cyI, 24, .inl choices_)), (h0_open, .inl (cyI, 10, .inl open_))] H := hP
                  have hD : va_D A [(h0, .inr (6, [.int thrown_, .int told_, .ref h0_row, .int columns_, .int rooms_, .int many_, .ref h0_subjectOf, .ref h0_teacherOf, .ref h0_seatsOf, .ref h0_columnOf, .ref h0_barsOf, .int pupils_, .ref h0_choices, .int kept_, .ref h0_tape, .int taped_, .int at_, .int to_, .int digit_, .int number_, .ref h0_was, .ref h0_readChoices, .int readMany_, .ref h0_open, .ref h0_wayOf, .int bestThen_, .ref h0_cure, .ref h0_left, .ref h0_satIn])), (h0_row, .inl (cyI, 32, .inl row_)), (h0_subjectOf, .inl (cyI, 17, .inl subjectOf_)), (h0_columnOf, .inl (cyI, 17, .inl columnOf_)), (h0_choices, .inl (cyI, 24, .inl choices_)), (h0_open, .inl (cyI, 10, .inl open_))] := hD
                  refine lv_istore_n (lv' := [(3, .int r_11), (1, .int v1_10), (2, .int r_6), (6, .int r_6), (0, .ref h0), (4, .int v4), (5, .int v5)]) hx hb dX6_clash_119 rfl hl (by decide) rfl (fun ls hl => ?_)
                  obtain ⟨v5_12, e_v5_12⟩ : ∃ z : Int32, z = (v5 + 1) := ⟨_, rfl⟩
                  have h := lt_use e_v5_12 h
                  refine lv_iinc (v := v5_12) (lv' := [(5, .int v5_12), (3, .int r_11), (1, .int v1_10), (2, .int r_6), (6, .int r_6), (0, .ref h0), (4, .int v4)]) hx hb dX6_clash_120 hl (k := 6) rfl (by rw [e_v5_12]; rfl) (by decide) rfl (fun ls hl => ?_)
                  refine lv_goto (tgt := 32) hx hb dX6_clash_123 (by decide) ?_
                  exact ih32 v1_10 r_6 r_11 v5_12 h _ _ _ hP hD hS (lv_sub hl [5, 2, 3, 1, 6, 0] rfl)
                · have h := (if_neg c_).symm.trans h
                  refine lv_goto (tgt := 120) hx hb dX6_clash_94 (by decide) ?_
                  obtain ⟨v5_13, e_v5_13⟩ : ∃ z : Int32, z = (v5 + 1) := ⟨_, rfl⟩
                  have h := lt_use e_v5_13 h
                  refine lv_iinc (v := v5_13) (lv' := [(5, .int v5_13), (6, .int r_6), (0, .ref h0), (1, .int v1), (2, .int v2), (3, .int v3), (4, .int v4)]) hx hb dX6_clash_120 hl (k := 6) rfl (by rw [e_v5_13]; rfl) (by decide) rfl (fun ls hl => ?_)
                  refine lv_goto (tgt := 32) hx hb dX6_clash_123 (by decide) ?_
                  exact ih32 v1 v2 v3 v5_13 h _ _ _ hP hD hS (lv_sub hl [2, 3, 4, 5, 6, 0] rfl)
      intro v1 v2 v3 v4 h H locs ls hP hD hS hl
      have h : m_X6_clash_19 thrown_ told_ pupils_ row_ choices_ open_ (it4 (m_X6_clash_19 thrown_ told_ pupils_ row_ choices_ open_) n19) v1 v2 v3 v4 = some (rr, o0, o1, o2, o3) := h
      unfold m_X6_clash_19 at h
      refine lv_iload hx hb dX6_clash_19 (lv_at hl 4 rfl) ?_
      refine lv_bipush (v := 10) hx hb dX6_clash_21 (by decide) ?_
      refine lv_icmp_ge (tgt := 132) hx hb dX6_clash_23 (by decide) (fun c_ => ?_) (fun c_ => ?_)
      · have h := (if_pos c_).symm.trans h
        exact J132 v1 v2 v3 thrown_ open_ h _ _ _ hP hD hS (lv_sub hl [0, 1, 2, 3] rfl)
      · have h := (if_neg c_).symm.trans h
        refine lv_iload hx hb dX6_clash_26 (lv_at hl 4 rfl) ?_
        refine lv_iconst (v := 1) hx hb dX6_clash_28 (by decide) ?_
        refine lv_iadd hx hb dX6_clash_29 ?_
        refine lv_topi (fun v5_14 e_v5_14 => ?_)
        have h := lt_use e_v5_14 h
        refine lv_istore (lv' := [(5, .int v5_14), (0, .ref h0), (1, .int v1), (2, .int v2), (3, .int v3), (4, .int v4)]) hx hb dX6_clash_30 hl (by decide) rfl (fun ls hl => ?_)
        exact L32 v4 1100 v1 v2 v3 v5_14 h _ _ _ hP hD hS (lv_sub hl [1, 2, 3, 4, 5, 0] rfl)
  unfold m_X6_clash at h
  refine lv_aload_n hx hb dX6_clash_0 rfl (lv_at hl 0 rfl) ?_
  refine lv_iconst (v := 0) hx hb dX6_clash_1 (by decide) ?_
  refine va_put (D := (dC, dI)) (ci := 6) (v := .int 0) (ty := .int) (C := RX6) (T := TX6) (N := 29) hx hb hts hiX6 tyX6 tyX6_ok nmX6 hown hK hP hD hS 0 rfl rfl 0 (by decide) (hts (.fieldLink RX6 62 "OptionLatticeModel" "thrown" "I") (by decide +kernel)) (fun _ h9 => h9) rfl (by decide +kernel) rfl rfl (Nat.le_of_ble_eq_true rfl) dX6_clash_2 (fun H locs hP hD hS => ?_)
  have hP : va_P (dC, dI) vwCl [(h0, .inr (6, [.int 0, .int told_, .ref h0_row, .int columns_, .int rooms_, .int many_, .ref h0_subjectOf, .ref h0_teacherOf, .ref h0_seatsOf, .ref h0_columnOf, .ref h0_barsOf, .int pupils_, .ref h0_choices, .int kept_, .ref h0_tape, .int taped_, .int at_, .int to_, .int digit_, .int number_, .ref h0_was, .ref h0_readChoices, .int readMany_, .ref h0_open, .ref h0_wayOf, .int bestThen_, .ref h0_cure, .ref h0_left, .ref h0_satIn])), (h0_row, .inl (cyI, 32, .inl row_)), (h0_subjectOf, .inl (cyI, 17, .inl subjectOf_)), (h0_columnOf, .inl (cyI, 17, .inl columnOf_)), (h0_choices, .inl (cyI, 24, .inl choices_)), (h0_open, .inl (cyI, 10, .inl open_))] H := hP
  have hD : va_D A [(h0, .inr (6, [.int 0, .int told_, .ref h0_row, .int columns_, .int rooms_, .int many_, .ref h0_subjectOf, .ref h0_teacherOf, .ref h0_seatsOf, .ref h0_columnOf, .ref h0_barsOf, .int pupils_, .ref h0_choices, .int kept_, .ref h0_tape, .int taped_, .int at_, .int to_, .int digit_, .int number_, .ref h0_was, .ref h0_readChoices, .int readMany_, .ref h0_open, .ref h0_wayOf, .int bestThen_, .ref h0_cure, .ref h0_left, .ref h0_satIn])), (h0_row, .inl (cyI, 32, .inl row_)), (h0_subjectOf, .inl (cyI, 17, .inl subjectOf_)), (h0_columnOf, .inl (cyI, 17, .inl columnOf_)), (h0_choices, .inl (cyI, 24, .inl choices_)), (h0_open, .inl (cyI, 10, .inl open_))] := hD
  refine lv_aload_n hx hb dX6_clash_5 rfl (lv_at hl 0 rfl) ?_
  obtain ⟨open_15, hq, h⟩ := bd1_some h
  refine uV_v (b := h0) (As := []) (rest := []) ⟨hx, hb, hml, hown, hts⟩ (c_X6_laysOpen l dC dI cyC cyI cyJ h0 h0_row h0_subjectOf h0_teacherOf h0_seatsOf h0_columnOf h0_barsOf h0_choices h0_tape h0_was h0_readChoices h0_open h0_wayOf h0_cure h0_left h0_satIn 0 told_ columns_ rooms_ many_ pupils_ kept_ taped_ at_ to_ digit_ number_ readMany_ bestThen_ subjectOf_ columnOf_ open_ open_15 hq) (cwV 0 hts gX6_clash_X6_laysOpen rfl rfl rfl (by decide +kernel) ⟨Nat.le_of_ble_eq_true rfl, Nat.le_of_ble_eq_true rfl⟩) hK hE hA hP hD hS [0, 2, 3, 5] rfl rfl rfl 6 0 rfl rfl rfl hl.1 rfl (Nat.le_of_ble_eq_true rfl) ⟨Nat.zero_le _, Nat.zero_le _⟩ dX6_clash_6 (fun H locs hP hD hS => ?_)
  have hP : va_P (dC, dI) vwCl [(h0, .inr (6, [.int 0, .int told_, .ref h0_row, .int columns_, .int rooms_, .int many_, .ref h0_subjectOf, .ref h0_teacherOf, .ref h0_seatsOf, .ref h0_columnOf, .ref h0_barsOf, .int pupils_, .ref h0_choices, .int kept_, .ref h0_tape, .int taped_, .int at_, .int to_, .int digit_, .int number_, .ref h0_was, .ref h0_readChoices, .int readMany_, .ref h0_open, .ref h0_wayOf, .int bestThen_, .ref h0_cure, .ref h0_left, .ref h0_satIn])), (h0_row, .inl (cyI, 32, .inl row_)), (h0_subjectOf, .inl (cyI, 17, .inl subjectOf_)), (h0_columnOf, .inl (cyI, 17, .inl columnOf_)), (h0_choices, .inl (cyI, 24, .inl choices_)), (h0_open, .inl (cyI, 10, .inl open_15))] H := hP
  have hD : va_D A [(h0, .inr (6, [.int 0, .int told_, .ref h0_row, .int columns_, .int rooms_, .int many_, .ref h0_subjectOf, .ref h0_teacherOf, .ref h0_seatsOf, .ref h0_columnOf, .ref h0_barsOf, .int pupils_, .ref h0_choices, .int kept_, .ref h0_tape, .int taped_, .int at_, .int to_, .int digit_, .int number_, .ref h0_was, .ref h0_readChoices, .int readMany_, .ref h0_open, .ref h0_wayOf, .int bestThen_, .ref h0_cure, .ref h0_left, .ref h0_satIn])), (h0_row, .inl (cyI, 32, .inl row_)), (h0_subjectOf, .inl (cyI, 17, .inl subjectOf_)), (h0_columnOf, .inl (cyI, 17, .inl columnOf_)), (h0_choices, .inl (cyI, 24, .inl choices_)), (h0_open, .inl (cyI, 10, .inl open_15))] := hD
  refine lv_bipush (v := (-2)) hx hb dX6_clash_9 (by decide) ?_
  refine lv_istore_n (lv' := [(1, .int (-2)), (0, .ref h0)]) hx hb dX6_clash_11 rfl hl (by decide) rfl (fun ls hl => ?_)
  refine lv_iconst (v := 0) hx hb dX6_clash_12 (by decide) ?_
  refine lv_istore_n (lv' := [(2, .int 0), (1, .int (-2)), (0, .ref h0)]) hx hb dX6_clash_13 rfl hl (by decide) rfl (fun ls hl => ?_)
  refine lv_iconst (v := 0) hx hb dX6_clash_14 (by decide) ?_
  refine lv_istore_n (lv' := [(3, .int 0), (2, .int 0), (1, .int (-2)), (0, .ref h0)]) hx hb dX6_clash_15 rfl hl (by decide) rfl (fun ls hl => ?_)
  refine lv_iconst (v := 0) hx hb dX6_clash_16 (by decide) ?_
  refine lv_istore (lv' := [(4, .int 0), (3, .int 0), (2, .int 0), (1, .int (-2)), (0, .ref h0)]) hx hb dX6_clash_17 hl (by decide) rfl (fun ls hl => ?_)
  exact L19 0 open_15 1100 (-2) 0 0 0 h _ _ _ hP hD hS (lv_sub hl [4, 3, 2, 1, 0] rfl)

def m_X6_fittingBy (many_ : Int32) (pupils_ : Int32) (subjectOf_ : Nat → Int32) (columnOf_ : Nat → Int32) (choices_ : Nat → Int32) (open_ : Nat → Int32) (v1 : Int32) (v2 : Int32) : Option (Int32 × (Nat → Int32) × (Nat → Int32)) :=
  gd (inb v1 17) (lt' (columnOf_ v1.toNatClampNeg) (fun v3_1 => gd (inb v1 17) (bd2 (m_X6_fitting many_ pupils_ subjectOf_ (upd columnOf_ v1.toNatClampNeg v2) choices_ open_) (fun r_2 open_3 => gd (inb v1 17) (some (r_2, (upd (upd columnOf_ v1.toNatClampNeg v2) v1.toNatClampNeg v3_1), open_3))))))
abbrev rmX6_fittingBy : Room := { frames := 11, cells := 0, slots := 0, locals := 259 }
set_option maxHeartbeats 4000000 in
set_option maxRecDepth 100000 in
theorem c_X6_fittingBy (l : Launch) (dC : Nat → ClassId) (dI : Nat → Nat → Nat) (cyC cyI cyJ : ClassId) (h0 h0_row h0_subjectOf h0_teacherOf h0_seatsOf h0_columnOf h0_barsOf h0_choices h0_tape h0_was h0_readChoices h0_open h0_wayOf h0_cure h0_left h0_satIn : Nat) (thrown_ : Int32) (told_ : Int32) (columns_ : Int32) (rooms_ : Int32) (many_ : Int32) (pupils_ : Int32) (kept_ : Int32) (taped_ : Int32) (at_ : Int32) (to_ : Int32) (digit_ : Int32) (number_ : Int32) (readMany_ : Int32) (bestThen_ : Int32) (subjectOf_ : Nat → Int32) (columnOf_ : Nat → Int32) (choices_ : Nat → Int32) (open_ : Nat → Int32) (v1 : Int32) (v2 : Int32) (rr : Int32) (o0 : Nat → Int32) (o1 : Nat → Int32) (h : m_X6_fittingBy many_ pupils_ subjectOf_ columnOf_ choices_ open_ v1 v2 = some (rr, o0, o1)) : uMi l yX6_fittingBy wsX6_fittingBy rmX6_fittingBy (dC, dI) [(cyC, .char), (cyI, .int), (cyJ, .long)] [.ref h0, .int v1, .int v2] [(h0, .inr (6, [.int thrown_, .int told_, .ref h0_row, .int columns_, .int rooms_, .int many_, .ref h0_subjectOf, .ref h0_teacherOf, .ref h0_seatsOf, .ref h0_columnOf, .ref h0_barsOf, .int pupils_, .ref h0_choices, .int kept_, .ref h0_tape, .int taped_, .int at_, .int to_, .int digit_, .int number_, .ref h0_was, .ref h0_readChoices, .int readMany_, .ref h0_open, .ref h0_wayOf, .int bestThen_, .ref h0_cure, .ref h0_left, .ref h0_satIn])), (h0_subjectOf, .inl (cyI, 17, .inl subjectOf_)), (h0_columnOf, .inl (cyI, 17, .inl columnOf_)), (h0_choices, .inl (cyI, 24, .inl choices_)), (h0_open, .inl (cyI, 10, .inl open_))] [(h0, .inr (6, [.int thrown_, .int told_, .ref h0_row, .int columns_, .int rooms_, .int many_, .ref h0_subjectOf, .ref h0_teacherOf, .ref h0_seatsOf, .ref h0_columnOf, .ref h0_barsOf, .int pupils_, .ref h0_choices, .int kept_, .ref h0_tape, .int taped_, .int at_, .int to_, .int digit_, .int number_, .ref h0_was, .ref h0_readChoices, .int readMany_, .ref h0_open, .ref h0_wayOf, .int bestThen_, .ref h0_cure, .ref h0_left, .ref h0_satIn])), (h0_subjectOf, .inl (cyI, 17, .inl subjectOf_)), (h0_columnOf, .inl (cyI, 17, .inl o0)), (h0_choices, .inl (cyI, 24, .inl choices_)), (h0_open, .inl (cyI, 10, .inl o1))] rr := by
  refine uMi.of (cc := cX6_fittingBy) (maxL := 5) (by decide) rfl (Nat.le_of_ble_eq_true rfl) (fun p e s m args below meth c A ls Q hx hb hml hown hts hA hP hK hD hE hS hl hret => ?_)
  have hown : s.vm.findClass RX6 = some m.cls := hown
  have hl : lv_has ls 5 [(0, .ref h0), (1, .int v1), (2, .int v2)] := hl
  have hiX6 : ∀ w ∈ u_ws RX6 TX6 29, w ∈ wsX6_fittingBy := fun _ h9 => List.mem_cons_of_mem _ (List.mem_append_right _ h9)
  unfold m_X6_fittingBy at h
  refine lv_aload_n hx hb dX6_fittingBy_0 rfl (lv_at hl 0 rfl) ?_
  refine va_get (D := (dC, dI)) (ci := 6) (v := .ref h0_columnOf) (C := RX6) (T := TX6) (N := 29) hx hb hts hiX6 hown hK hP 0 rfl rfl 9 (by decide) (hts (.fieldLink RX6 29 "OptionLatticeModel" "columnOf" "[I") (by decide +kernel)) (fun _ h9 => h9) rfl dX6_fittingBy_1 ?_
  refine lv_iload_n hx hb dX6_fittingBy_4 rfl (lv_at hl 1 rfl) ?_
  obtain ⟨g_, h⟩ := gd_some h
  refine va_iald hx hb hK hP 2 1 rfl rfl (inb_in g_) dX6_fittingBy_5 ?_
  refine lv_topi (fun v3_1 e_v3_1 => ?_)
  have h := lt_use e_v3_1 h
  refine lv_istore_n (lv' := [(3, .int v3_1), (0, .ref h0), (1, .int v1), (2, .int v2)]) hx hb dX6_fittingBy_6 rfl hl (by decide) rfl (fun ls hl => ?_)
  refine lv_aload_n hx hb dX6_fittingBy_7 rfl (lv_at hl 1 rfl) ?_
  refine va_get (D := (dC, dI)) (ci := 6) (v := .ref h0_columnOf) (C := RX6) (T := TX6) (N := 29) hx hb hts hiX6 hown hK hP 0 rfl rfl 9 (by decide) (hts (.fieldLink RX6 29 "OptionLatticeModel" "columnOf" "[I") (by decide +kernel)) (fun _ h9 => h9) rfl dX6_fittingBy_8 ?_
  refine lv_iload_n hx hb dX6_fittingBy_11 rfl (lv_at hl 2 rfl) ?_
  refine lv_iload_n hx hb dX6_fittingBy_12 rfl (lv_at hl 3 rfl) ?_
  obtain ⟨g_, h⟩ := gd_some h
  refine va_iast hx hb hK hP hD hS 2 1 rfl rfl (inb_in g_) dX6_fittingBy_13 (fun H locs hP hD hS => ?_)
  have hP : va_P (dC, dI) vwCl [(h0, .inr (6, [.int thrown_, .int told_, .ref h0_row, .int columns_, .int rooms_, .int many_, .ref h0_subjectOf, .ref h0_teacherOf, .ref h0_seatsOf, .ref h0_columnOf, .ref h0_barsOf, .int pupils_, .ref h0_choices, .int kept_, .ref h0_tape, .int taped_, .int at_, .int to_, .int digit_, .int number_, .ref h0_was, .ref h0_readChoices, .int readMany_, .ref h0_open, .ref h0_wayOf, .int bestThen_, .ref h0_cure, .ref h0_left, .ref h0_satIn])), (h0_subjectOf, .inl (cyI, 17, .inl subjectOf_)), (h0_columnOf, .inl (cyI, 17, .inl (upd columnOf_ v1.toNatClampNeg v2))), (h0_choices, .inl (cyI, 24, .inl choices_)), (h0_open, .inl (cyI, 10, .inl open_))] H := hP
  have hD : va_D A [(h0, .inr (6, [.int thrown_, .int told_, .ref h0_row, .int columns_, .int rooms_, .int many_, .ref h0_subjectOf, .ref h0_teacherOf, .ref h0_seatsOf, .ref h0_columnOf, .ref h0_barsOf, .int pupils_, .ref h0_choices, .int kept_, .ref h0_tape, .int taped_, .int at_, .int to_, .int digit_, .int number_, .ref h0_was, .ref h0_readChoices, .int readMany_, .ref h0_open, .ref h0_wayOf, .int bestThen_, .ref h0_cure, .ref h0_left, .ref h0_satIn])), (h0_subjectOf, .inl (cyI, 17, .inl subjectOf_)), (h0_columnOf, .inl (cyI, 17, .inl (upd columnOf_ v1.toNatClampNeg v2))), (h0_choices, .inl (cyI, 24, .inl choices_)), (h0_open, .inl (cyI, 10, .inl open_))] := hD
  refine lv_aload_n hx hb dX6_fittingBy_14 rfl (lv_at hl 1 rfl) ?_
  obtain ⟨r_2, open_3, hq, h⟩ := bd2_some h
  refine uV_i (b := h0) (As := []) (rest := []) ⟨hx, hb, hml, hown, hts⟩ (c_X6_fitting l dC dI cyC cyI cyJ h0 h0_row h0_subjectOf h0_teacherOf h0_seatsOf h0_columnOf h0_barsOf h0_choices h0_tape h0_was h0_readChoices h0_open h0_wayOf h0_cure h0_left h0_satIn thrown_ told_ columns_ rooms_ many_ pupils_ kept_ taped_ at_ to_ digit_ number_ readMany_ bestThen_ subjectOf_ (upd columnOf_ v1.toNatClampNeg v2) choices_ open_ r_2 open_3 hq) (cwV 0 hts gX6_fittingBy_X6_fitting rfl rfl rfl (by decide +kernel) ⟨Nat.le_of_ble_eq_true rfl, Nat.le_of_ble_eq_true rfl⟩) hK hE hA hP hD hS [0, 1, 2, 3, 4] rfl rfl rfl 6 0 rfl rfl rfl hl.1 rfl (Nat.le_of_ble_eq_true rfl) ⟨Nat.zero_le _, Nat.zero_le _⟩ dX6_fittingBy_15 (fun H locs hP hD hS => ?_)
  have hP : va_P (dC, dI) vwCl [(h0, .inr (6, [.int thrown_, .int told_, .ref h0_row, .int columns_, .int rooms_, .int many_, .ref h0_subjectOf, .ref h0_teacherOf, .ref h0_seatsOf, .ref h0_columnOf, .ref h0_barsOf, .int pupils_, .ref h0_choices, .int kept_, .ref h0_tape, .int taped_, .int at_, .int to_, .int digit_, .int number_, .ref h0_was, .ref h0_readChoices, .int readMany_, .ref h0_open, .ref h0_wayOf, .int bestThen_, .ref h0_cure, .ref h0_left, .ref h0_satIn])), (h0_subjectOf, .inl (cyI, 17, .inl subjectOf_)), (h0_columnOf, .inl (cyI, 17, .inl (upd columnOf_ v1.toNatClampNeg v2))), (h0_choices, .inl (cyI, 24, .inl choices_)), (h0_open, .inl (cyI, 10, .inl open_3))] H := hP
  have hD : va_D A [(h0, .inr (6, [.int thrown_, .int told_, .ref h0_row, .int columns_, .int rooms_, .int many_, .ref h0_subjectOf, .ref h0_teacherOf, .ref h0_seatsOf, .ref h0_columnOf, .ref h0_barsOf, .int pupils_, .ref h0_choices, .int kept_, .ref h0_tape, .int taped_, .int at_, .int to_, .int digit_, .int number_, .ref h0_was, .ref h0_readChoices, .int readMany_, .ref h0_open, .ref h0_wayOf, .int bestThen_, .ref h0_cure, .ref h0_left, .ref h0_satIn])), (h0_subjectOf, .inl (cyI, 17, .inl subjectOf_)), (h0_columnOf, .inl (cyI, 17, .inl (upd columnOf_ v1.toNatClampNeg v2))), (h0_choices, .inl (cyI, 24, .inl choices_)), (h0_open, .inl (cyI, 10, .inl open_3))] := hD
  refine lv_istore (lv' := [(4, .int r_2), (3, .int v3_1), (0, .ref h0), (1, .int v1), (2, .int v2)]) hx hb dX6_fittingBy_18 hl (by decide) rfl (fun ls hl => ?_)
  refine lv_aload_n hx hb dX6_fittingBy_20 rfl (lv_at hl 2 rfl) ?_
  refine va_get (D := (dC, dI)) (ci := 6) (v := .ref h0_columnOf) (C := RX6) (T := TX6) (N := 29) hx hb hts hiX6 hown hK hP 0 rfl rfl 9 (by decide) (hts (.fieldLink RX6 29 "OptionLatticeModel" "columnOf" "[I") (by decide +kernel)) (fun _ h9 => h9) rfl dX6_fittingBy_21 ?_
  refine lv_iload_n hx hb dX6_fittingBy_24 rfl (lv_at hl 3 rfl) ?_
  refine lv_iload_n hx hb dX6_fittingBy_25 rfl (lv_at hl 1 rfl) ?_
  obtain ⟨g_, h⟩ := gd_some h
  refine va_iast hx hb hK hP hD hS 2 1 rfl rfl (inb_in g_) dX6_fittingBy_26 (fun H locs hP hD hS => ?_)
  have hP : va_P (dC, dI) vwCl [(h0, .inr (6, [.int thrown_, .int told_, .ref h0_row, .int columns_, .int rooms_, .int many_, .ref h0_subjectOf, .ref h0_teacherOf, .ref h0_seatsOf, .ref h0_columnOf, .ref h0_barsOf, .int pupils_, .ref h0_choices, .int kept_, .ref h0_tape, .int taped_, .int at_, .int to_, .int digit_, .int number_, .ref h0_was, .ref h0_readChoices, .int readMany_, .ref h0_open, .ref h0_wayOf, .int bestThen_, .ref h0_cure, .ref h0_left, .ref h0_satIn])), (h0_subjectOf, .inl (cyI, 17, .inl subjectOf_)), (h0_columnOf, .inl (cyI, 17, .inl (upd (upd columnOf_ v1.toNatClampNeg v2) v1.toNatClampNeg v3_1))), (h0_choices, .inl (cyI, 24, .inl choices_)), (h0_open, .inl (cyI, 10, .inl open_3))] H := hP
  have hD : va_D A [(h0, .inr (6, [.int thrown_, .int told_, .ref h0_row, .int columns_, .int rooms_, .int many_, .ref h0_subjectOf, .ref h0_teacherOf, .ref h0_seatsOf, .ref h0_columnOf, .ref h0_barsOf, .int pupils_, .ref h0_choices, .int kept_, .ref h0_tape, .int taped_, .int at_, .int to_, .int digit_, .int number_, .ref h0_was, .ref h0_readChoices, .int readMany_, .ref h0_open, .ref h0_wayOf, .int bestThen_, .ref h0_cure, .ref h0_left, .ref h0_satIn])), (h0_subjectOf, .inl (cyI, 17, .inl subjectOf_)), (h0_columnOf, .inl (cyI, 17, .inl (upd (upd columnOf_ v1.toNatClampNeg v2) v1.toNatClampNeg v3_1))), (h0_choices, .inl (cyI, 24, .inl choices_)), (h0_open, .inl (cyI, 10, .inl open_3))] := hD
  refine lv_iload hx hb dX6_fittingBy_27 (lv_at hl 0 rfl) ?_
  have h : some (r_2, (upd (upd columnOf_ v1.toNatClampNeg v2) v1.toNatClampNeg v3_1), open_3) = some (rr, o0, o1) := h
  have z0 := Option.some.inj h
  obtain ⟨rfl, z1⟩ := Prod.mk.inj z0
  obtain ⟨rfl, z2⟩ := Prod.mk.inj z1
  obtain rfl := z2
  exact hret _ _ _ _ hP hS rfl dX6_fittingBy_29

def m_X6_gain (thrown_ : Int32) (told_ : Int32) (columns_ : Int32) (rooms_ : Int32) (many_ : Int32) (pupils_ : Int32) (row_ : Nat → Int32) (subjectOf_ : Nat → Int32) (teacherOf_ : Nat → Int32) (columnOf_ : Nat → Int32) (barsOf_ : Nat → Int32) (choices_ : Nat → Int32) (open_ : Nat → Int32) (v1 : Int32) (v2 : Int32) : Option (Int32 × Int32 × Int32 × (Nat → Int32) × (Nat → Int32) × (Nat → Int32)) :=
  bd1 (m_X6_isSection many_ v1) (fun r_1 => (if r_1 = 0 then some ((-1), 0, told_, row_, columnOf_, open_) else bd1 (m_X6_isColumn columns_ v2) (fun r_2 => (if r_2 = 0 then some ((-1), 0, told_, row_, columnOf_, open_) else gd (inb v1 17) ((if (columnOf_ v1.toNatClampNeg) = v2 then some ((-1000), 0, told_, row_, columnOf_, open_) else bd1 (m_X6_isLegal rooms_ many_ teacherOf_ columnOf_ barsOf_ v1 v2) (fun r_3 => (if r_3 = 0 then some ((-1000), 0, told_, row_, columnOf_, open_) else bd2 (m_X6_fitting many_ pupils_ subjectOf_ columnOf_ choices_ open_) (fun r_4 open_5 => bd3 (m_X6_fittingBy many_ pupils_ subjectOf_ columnOf_ choices_ open_5 v1 v2) (fun r_6 columnOf_7 open_8 => bd2 (m_X6_notesTwo told_ row_ (r_6 &&& (r_4 ^^^ (-1))) (r_4 &&& (r_6 ^^^ (-1)))) (fun told_9 row_10 => bd1 (m_X6_bits r_6) (fun r_11 => bd1 (m_X6_bits r_4) (fun r_12 => some ((r_11 - r_12), 0, told_9, row_10, columnOf_7, open_8))))))))))))))
abbrev rmX6_gain : Room := { frames := 12, cells := 0, slots := 0, locals := 283 }
set_option maxHeartbeats 4000000 in
set_option maxRecDepth 100000 in
theorem c_X6_gain (l : Launch) (dC : Nat → ClassId) (dI : Nat → Nat → Nat) (cyC cyI cyJ : ClassId) (h0 h0_row h0_subjectOf h0_teacherOf h0_seatsOf h0_columnOf h0_barsOf h0_choices h0_tape h0_was h0_readChoices h0_open h0_wayOf h0_cure h0_left h0_satIn : Nat) (thrown_ : Int32) (told_ : Int32) (columns_ : Int32) (rooms_ : Int32) (many_ : Int32) (pupils_ : Int32) (kept_ : Int32) (taped_ : Int32) (at_ : Int32) (to_ : Int32) (digit_ : Int32) (number_ : Int32) (readMany_ : Int32) (bestThen_ : Int32) (row_ : Nat → Int32) (subjectOf_ : Nat → Int32) (teacherOf_ : Nat → Int32) (columnOf_ : Nat → Int32) (barsOf_ : Nat → Int32) (choices_ : Nat → Int32) (open_ : Nat → Int32) (v1 : Int32) (v2 : Int32) (rr : Int32) (o0 : Int32) (o1 : Int32) (o2 : Nat → Int32) (o3 : Nat → Int32) (o4 : Nat → Int32) (h : m_X6_gain thrown_ told_ columns_ rooms_ many_ pupils_ row_ subjectOf_ teacherOf_ columnOf_ barsOf_ choices_ open_ v1 v2 = some (rr, o0, o1, o2, o3, o4)) : uMi l yX6_gain wsX6_gain rmX6_gain (dC, dI) [(cyC, .char), (cyI, .int), (cyJ, .long)] [.ref h0, .int v1, .int v2] [(h0, .inr (6, [.int thrown_, .int told_, .ref h0_row, .int columns_, .int rooms_, .int many_, .ref h0_subjectOf, .ref h0_teacherOf, .ref h0_seatsOf, .ref h0_columnOf, .ref h0_barsOf, .int pupils_, .ref h0_choices, .int kept_, .ref h0_tape, .int taped_, .int at_, .int to_, .int digit_, .int number_, .ref h0_was, .ref h0_readChoices, .int readMany_, .ref h0_open, .ref h0_wayOf, .int bestThen_, .ref h0_cure, .ref h0_left, .ref h0_satIn])), (h0_row, .inl (cyI, 32, .inl row_)), (h0_subjectOf, .inl (cyI, 17, .inl subjectOf_)), (h0_teacherOf, .inl (cyI, 17, .inl teacherOf_)), (h0_columnOf, .inl (cyI, 17, .inl columnOf_)), (h0_barsOf, .inl (cyI, 10, .inl barsOf_)), (h0_choices, .inl (cyI, 24, .inl choices_)), (h0_open, .inl (cyI, 10, .inl open_))] [(h0, .inr (6, [.int o0, .int o1, .ref h0_row, .int columns_, .int rooms_, .int many_, .ref h0_subjectOf, .ref h0_teacherOf, .ref h0_seatsOf, .ref h0_columnOf, .ref h0_barsOf, .int pupils_, .ref h0_choices, .int kept_, .ref h0_tape, .int taped_, .int at_, .int to_, .int digit_, .int number_, .ref h0_was, .ref h0_readChoices, .int readMany_, .ref h0_open, .ref h0_wayOf, .int bestThen_, .ref h0_cure, .ref h0_left, .ref h0_satIn])), (h0_row, .inl (cyI, 32, .inl o2)), (h0_subjectOf, .inl (cyI, 17, .inl subjectOf_)), (h0_teacherOf, .inl (cyI, 17, .inl teacherOf_)), (h0_columnOf, .inl (cyI, 17, .inl o3)), (h0_barsOf, .inl (cyI, 10, .inl barsOf_)), (h0_choices, .inl (cyI, 24, .inl choices_)), (h0_open, .inl (cyI, 10, .inl o4))] rr := by
  refine uMi.of (cc := cX6_gain) (maxL := 5) (by decide) rfl (Nat.le_of_ble_eq_true rfl) (fun p e s m args below meth c A ls Q hx hb hml hown hts hA hP hK hD hE hS hl hret => ?_)
  have hown : s.vm.findClass RX6 = some m.cls := hown
  have hl : lv_has ls 5 [(0, .ref h0), (1, .int v1), (2, .int v2)] := hl
  have hiX6 : ∀ w ∈ u_ws RX6 TX6 29, w ∈ wsX6_gain := fun _ h9 => List.mem_cons_of_mem _ (List.mem_append_right _ h9)
  unfold m_X6_gain at h
  refine lv_aload_n hx hb dX6_gain_0 rfl (lv_at hl 0 rfl) ?_
  refine lv_iconst (v := 0) hx hb dX6_gain_1 (by decide) ?_
  refine va_put (D := (dC, dI)) (ci := 6) (v := .int 0) (ty := .int) (C := RX6) (T := TX6) (N := 29) hx hb hts hiX6 tyX6 tyX6_ok nmX6 hown hK hP hD hS 0 rfl rfl 0 (by decide) (hts (.fieldLink RX6 62 "OptionLatticeModel" "thrown" "I") (by decide +kernel)) (fun _ h9 => h9) rfl (by decide +kernel) rfl rfl (Nat.le_of_ble_eq_true rfl) dX6_gain_2 (fun H locs hP hD hS => ?_)
  have hP : va_P (dC, dI) vwCl [(h0, .inr (6, [.int 0, .int told_, .ref h0_row, .int columns_, .int rooms_, .int many_, .ref h0_subjectOf, .ref h0_teacherOf, .ref h0_seatsOf, .ref h0_columnOf, .ref h0_barsOf, .int pupils_, .ref h0_choices, .int kept_, .ref h0_tape, .int taped_, .int at_, .int to_, .int digit_, .int number_, .ref h0_was, .ref h0_readChoices, .int readMany_, .ref h0_open, .ref h0_wayOf, .int bestThen_, .ref h0_cure, .ref h0_left, .ref h0_satIn])), (h0_row, .inl (cyI, 32, .inl row_)), (h0_subjectOf, .inl (cyI, 17, .inl subjectOf_)), (h0_teacherOf, .inl (cyI, 17, .inl teacherOf_)), (h0_columnOf, .inl (cyI, 17, .inl columnOf_)), (h0_barsOf, .inl (cyI, 10, .inl barsOf_)), (h0_choices, .inl (cyI, 24, .inl choices_)), (h0_open, .inl (cyI, 10, .inl open_))] H := hP
  have hD : va_D A [(h0, .inr (6, [.int 0, .int told_, .ref h0_row, .int columns_, .int rooms_, .int many_, .ref h0_subjectOf, .ref h0_teacherOf, .ref h0_seatsOf, .ref h0_columnOf, .ref h0_barsOf, .int pupils_, .ref h0_choices, .int kept_, .ref h0_tape, .int taped_, .int at_, .int to_, .int digit_, .int number_, .ref h0_was, .ref h0_readChoices, .int readMany_, .ref h0_open, .ref h0_wayOf, .int bestThen_, .ref h0_cure, .ref h0_left, .ref h0_satIn])), (h0_row, .inl (cyI, 32, .inl row_)), (h0_subjectOf, .inl (cyI, 17, .inl subjectOf_)), (h0_teacherOf, .inl (cyI, 17, .inl teacherOf_)), (h0_columnOf, .inl (cyI, 17, .inl columnOf_)), (h0_barsOf, .inl (cyI, 10, .inl barsOf_)), (h0_choices, .inl (cyI, 24, .inl choices_)), (h0_open, .inl (cyI, 10, .inl open_))] := hD
  refine lv_aload_n hx hb dX6_gain_5 rfl (lv_at hl 0 rfl) ?_
  refine lv_iload_n hx hb dX6_gain_6 rfl (lv_at hl 1 rfl) ?_
  obtain ⟨r_1, hq, h⟩ := bd1_some h
  refine uV_i (b := h0) (As := [.int v1]) (rest := []) ⟨hx, hb, hml, hown, hts⟩ (c_X6_isSection l dC dI cyC cyI cyJ h0 h0_row h0_subjectOf h0_teacherOf h0_seatsOf h0_columnOf h0_barsOf h0_choices h0_tape h0_was h0_readChoices h0_open h0_wayOf h0_cure h0_left h0_satIn 0 told_ columns_ rooms_ many_ pupils_ kept_ taped_ at_ to_ digit_ number_ readMany_ bestThen_ v1 r_1 hq) (cwV 1 hts gX6_gain_X6_isSection rfl rfl rfl (by decide +kernel) ⟨Nat.le_of_ble_eq_true rfl, Nat.le_of_ble_eq_true rfl⟩) hK hE hA hP hD hS [0] rfl rfl rfl 6 0 rfl rfl rfl hl.1 rfl (Nat.le_of_ble_eq_true rfl) ⟨Nat.zero_le _, Nat.zero_le _⟩ dX6_gain_7 (fun H locs hP hD hS => ?_)
  have hP : va_P (dC, dI) vwCl [(h0, .inr (6, [.int 0, .int told_, .ref h0_row, .int columns_, .int rooms_, .int many_, .ref h0_subjectOf, .ref h0_teacherOf, .ref h0_seatsOf, .ref h0_columnOf, .ref h0_barsOf, .int pupils_, .ref h0_choices, .int kept_, .ref h0_tape, .int taped_, .int at_, .int to_, .int digit_, .int number_, .ref h0_was, .ref h0_readChoices, .int readMany_, .ref h0_open, .ref h0_wayOf, .int bestThen_, .ref h0_cure, .ref h0_left, .ref h0_satIn])), (h0_row, .inl (cyI, 32, .inl row_)), (h0_subjectOf, .inl (cyI, 17, .inl subjectOf_)), (h0_teacherOf, .inl (cyI, 17, .inl teacherOf_)), (h0_columnOf, .inl (cyI, 17, .inl columnOf_)), (h0_barsOf, .inl (cyI, 10, .inl barsOf_)), (h0_choices, .inl (cyI, 24, .inl choices_)), (h0_open, .inl (cyI, 10, .inl open_))] H := hP
  have hD : va_D A [(h0, .inr (6, [.int 0, .int told_, .ref h0_row, .int columns_, .int rooms_, .int many_, .ref h0_subjectOf, .ref h0_teacherOf, .ref h0_seatsOf, .ref h0_columnOf, .ref h0_barsOf, .int pupils_, .ref h0_choices, .int kept_, .ref h0_tape, .int taped_, .int at_, .int to_, .int digit_, .int number_, .ref h0_was, .ref h0_readChoices, .int readMany_, .ref h0_open, .ref h0_wayOf, .int bestThen_, .ref h0_cure, .ref h0_left, .ref h0_satIn])), (h0_row, .inl (cyI, 32, .inl row_)), (h0_subjectOf, .inl (cyI, 17, .inl subjectOf_)), (h0_teacherOf, .inl (cyI, 17, .inl teacherOf_)), (h0_columnOf, .inl (cyI, 17, .inl columnOf_)), (h0_barsOf, .inl (cyI, 10, .inl barsOf_)), (h0_choices, .inl (cyI, 24, .inl choices_)), (h0_open, .inl (cyI, 10, .inl open_))] := hD
  refine lv_if_eq (tgt := 21) hx hb dX6_gain_10 (by decide) (fun c_ => ?_) (fun c_ => ?_)
  · have h := (if_pos c_).symm.trans h
    refine lv_iconst (v := (-1)) hx hb dX6_gain_21 (by decide) ?_
    have h : some ((-1), 0, told_, row_, columnOf_, open_) = some (rr, o0, o1, o2, o3, o4) := h
    have z0 := Option.some.inj h
    obtain ⟨rfl, z1⟩ := Prod.mk.inj z0
    obtain ⟨rfl, z2⟩ := Prod.mk.inj z1
    obtain ⟨rfl, z3⟩ := Prod.mk.inj z2
    obtain ⟨rfl, z4⟩ := Prod.mk.inj z3
    obtain ⟨rfl, z5⟩ := Prod.mk.inj z4
    obtain rfl := z5
    exact hret _ _ _ _ hP hS rfl dX6_gain_22
  · have h := (if_neg c_).symm.trans h
    refine lv_aload_n hx hb dX6_gain_13 rfl (lv_at hl 0 rfl) ?_
    refine lv_iload_n hx hb dX6_gain_14 rfl (lv_at hl 2 rfl) ?_
    obtain ⟨r_2, hq, h⟩ := bd1_some h
    refine uV_i (b := h0) (As := [.int v2]) (rest := []) ⟨hx, hb, hml, hown, hts⟩ (c_X6_isColumn l dC dI cyC cyI cyJ h0 h0_row h0_subjectOf h0_teacherOf h0_seatsOf h0_columnOf h0_barsOf h0_choices h0_tape h0_was h0_readChoices h0_open h0_wayOf h0_cure h0_left h0_satIn 0 told_ columns_ rooms_ many_ pupils_ kept_ taped_ at_ to_ digit_ number_ readMany_ bestThen_ v2 r_2 hq) (cwV 1 hts gX6_gain_X6_isColumn rfl rfl rfl (by decide +kernel) ⟨Nat.le_of_ble_eq_true rfl, Nat.le_of_ble_eq_true rfl⟩) hK hE hA hP hD hS [0] rfl rfl rfl 6 0 rfl rfl rfl hl.1 rfl (Nat.le_of_ble_eq_true rfl) ⟨Nat.zero_le _, Nat.zero_le _⟩ dX6_gain_15 (fun H locs hP hD hS => ?_)
    have hP : va_P (dC, dI) vwCl [(h0, .inr (6, [.int 0, .int told_, .ref h0_row, .int columns_, .int rooms_, .int many_, .ref h0_subjectOf, .ref h0_teacherOf, .ref h0_seatsOf, .ref h0_columnOf, .ref h0_barsOf, .int pupils_, .ref h0_choices, .int kept_, .ref h0_tape, .int taped_, .int at_, .int to_, .int digit_, .int number_, .ref h0_was, .ref h0_readChoices, .int readMany_, .ref h0_open, .ref h0_wayOf, .int bestThen_, .ref h0_cure, .ref h0_left, .ref h0_satIn])), (h0_row, .inl (cyI, 32, .inl row_)), (h0_subjectOf, .inl (cyI, 17, .inl subjectOf_)), (h0_teacherOf, .inl (cyI, 17, .inl teacherOf_)), (h0_columnOf, .inl (cyI, 17, .inl columnOf_)), (h0_barsOf, .inl (cyI, 10, .inl barsOf_)), (h0_choices, .inl (cyI, 24, .inl choices_)), (h0_open, .inl (cyI, 10, .inl open_))] H := hP
    have hD : va_D A [(h0, .inr (6, [.int 0, .int told_, .ref h0_row, .int columns_, .int rooms_, .int many_, .ref h0_subjectOf, .ref h0_teacherOf, .ref h0_seatsOf, .ref h0_columnOf, .ref h0_barsOf, .int pupils_, .ref h0_choices, .int kept_, .ref h0_tape, .int taped_, .int at_, .int to_, .int digit_, .int number_, .ref h0_was, .ref h0_readChoices, .int readMany_, .ref h0_open, .ref h0_wayOf, .int bestThen_, .ref h0_cure, .ref h0_left, .ref h0_satIn])), (h0_row, .inl (cyI, 32, .inl row_)), (h0_subjectOf, .inl (cyI, 17, .inl subjectOf_)), (h0_teacherOf, .inl (cyI, 17, .inl teacherOf_)), (h0_columnOf, .inl (cyI, 17, .inl columnOf_)), (h0_barsOf, .inl (cyI, 10, .inl barsOf_)), (h0_choices, .inl (cyI, 24, .inl choices_)), (h0_open, .inl (cyI, 10, .inl open_))] := hD
    refine lv_if_ne (tgt := 23) hx hb dX6_gain_18 (by decide) (fun c_ => ?_) (fun c_ => ?_)
    · have h := (if_neg c_).symm.trans h
      refine lv_aload_n hx hb dX6_gain_23 rfl (lv_at hl 0 rfl) ?_
      refine va_get (D := (dC, dI)) (ci := 6) (v := .ref h0_columnOf) (C := RX6) (T := TX6) (N := 29) hx hb hts hiX6 hown hK hP 0 rfl rfl 9 (by decide) (hts (.fieldLink RX6 29 "OptionLatticeModel" "columnOf" "[I") (by decide +kernel)) (fun _ h9 => h9) rfl dX6_gain_24 ?_
      refine lv_iload_n hx hb dX6_gain_27 rfl (lv_at hl 1 rfl) ?_
      obtain ⟨g_, h⟩ := gd_some h
      refine va_iald hx hb hK hP 4 1 rfl rfl (inb_in g_) dX6_gain_28 ?_
      refine lv_iload_n hx hb dX6_gain_29 rfl (lv_at hl 2 rfl) ?_
      refine lv_icmp_eq (tgt := 42) hx hb dX6_gain_30 (by decide) (fun c_ => ?_) (fun c_ => ?_)
      · have h := (if_pos c_).symm.trans h
        refine lv_sipush (v := (-1000)) hx hb dX6_gain_42 (by decide) ?_
        have h : some ((-1000), 0, told_, row_, columnOf_, open_) = some (rr, o0, o1, o2, o3, o4) := h
        have z0 := Option.some.inj h
        obtain ⟨rfl, z1⟩ := Prod.mk.inj z0
        obtain ⟨rfl, z2⟩ := Prod.mk.inj z1
        obtain ⟨rfl, z3⟩ := Prod.mk.inj z2
        obtain ⟨rfl, z4⟩ := Prod.mk.inj z3
        obtain ⟨rfl, z5⟩ := Prod.mk.inj z4
        obtain rfl := z5
        exact hret _ _ _ _ hP hS rfl dX6_gain_45
      · have h := (if_neg c_).symm.trans h
        refine lv_aload_n hx hb dX6_gain_33 rfl (lv_at hl 0 rfl) ?_
        refine lv_iload_n hx hb dX6_gain_34 rfl (lv_at hl 1 rfl) ?_
        refine lv_iload_n hx hb dX6_gain_35 rfl (lv_at hl 2 rfl) ?_
        obtain ⟨r_3, hq, h⟩ := bd1_some h
        refine uV_i (b := h0) (As := [.int v1, .int v2]) (rest := []) ⟨hx, hb, hml, hown, hts⟩ (c_X6_isLegal l dC dI cyC cyI cyJ h0 h0_row h0_subjectOf h0_teacherOf h0_seatsOf h0_columnOf h0_barsOf h0_choices h0_tape h0_was h0_readChoices h0_open h0_wayOf h0_cure h0_left h0_satIn 0 told_ columns_ rooms_ many_ pupils_ kept_ taped_ at_ to_ digit_ number_ readMany_ bestThen_ teacherOf_ columnOf_ barsOf_ v1 v2 r_3 hq) (cwV 2 hts gX6_gain_X6_isLegal rfl rfl rfl (by decide +kernel) ⟨Nat.le_of_ble_eq_true rfl, Nat.le_of_ble_eq_true rfl⟩) hK hE hA hP hD hS [0, 3, 4, 5] rfl rfl rfl 6 0 rfl rfl rfl hl.1 rfl (Nat.le_of_ble_eq_true rfl) ⟨Nat.zero_le _, Nat.zero_le _⟩ dX6_gain_36 (fun H locs hP hD hS => ?_)
        have hP : va_P (dC, dI) vwCl [(h0, .inr (6, [.int 0, .int told_, .ref h0_row, .int columns_, .int rooms_, .int many_, .ref h0_subjectOf, .ref h0_teacherOf, .ref h0_seatsOf, .ref h0_columnOf, .ref h0_barsOf, .int pupils_, .ref h0_choices, .int kept_, .ref h0_tape, .int taped_, .int at_, .int to_, .int digit_, .int number_, .ref h0_was, .ref h0_readChoices, .int readMany_, .ref h0_open, .ref h0_wayOf, .int bestThen_, .ref h0_cure, .ref h0_left, .ref h0_satIn])), (h0_row, .inl (cyI, 32, .inl row_)), (h0_subjectOf, .inl (cyI, 17, .inl subjectOf_)), (h0_teacherOf, .inl (cyI, 17, .inl teacherOf_)), (h0_columnOf, .inl (cyI, 17, .inl columnOf_)), (h0_barsOf, .inl (cyI, 10, .inl barsOf_)), (h0_choices, .inl (cyI, 24, .inl choices_)), (h0_open, .inl (cyI, 10, .inl open_))] H := hP
        have hD : va_D A [(h0, .inr (6, [.int 0, .int told_, .ref h0_row, .int columns_, .int rooms_, .int many_, .ref h0_subjectOf, .ref h0_teacherOf, .ref h0_seatsOf, .ref h0_columnOf, .ref h0_barsOf, .int pupils_, .ref h0_choices, .int kept_, .ref h0_tape, .int taped_, .int at_, .int to_, .int digit_, .int number_, .ref h0_was, .ref h0_readChoices, .int readMany_, .ref h0_open, .ref h0_wayOf, .int bestThen_, .ref h0_cure, .ref h0_left, .ref h0_satIn])), (h0_row, .inl (cyI, 32, .inl row_)), (h0_subjectOf, .inl (cyI, 17, .inl subjectOf_)), (h0_teacherOf, .inl (cyI, 17, .inl teacherOf_)), (h0_columnOf, .inl (cyI, 17, .inl columnOf_)), (h0_barsOf, .inl (cyI, 10, .inl barsOf_)), (h0_choices, .inl (cyI, 24, .inl choices_)), (h0_open, .inl (cyI, 10, .inl open_))] := hD
        refine lv_if_ne (tgt := 46) hx hb dX6_gain_39 (by decide) (fun c_ => ?_) (fun c_ => ?_)
        · have h := (if_neg c_).symm.trans h
          refine lv_aload_n hx hb dX6_gain_46 rfl (lv_at hl 0 rfl) ?_
          obtain ⟨r_4, open_5, hq, h⟩ := bd2_some h
          refine uV_i (b := h0) (As := []) (rest := []) ⟨hx, hb, hml, hown, hts⟩ (c_X6_fitting l dC dI cyC cyI cyJ h0 h0_row h0_subjectOf h0_teacherOf h0_seatsOf h0_columnOf h0_barsOf h0_choices h0_tape h0_was h0_readChoices h0_open h0_wayOf h0_cure h0_left h0_satIn 0 told_ columns_ rooms_ many_ pupils_ kept_ taped_ at_ to_ digit_ number_ readMany_ bestThen_ subjectOf_ columnOf_ choices_ open_ r_4 open_5 hq) (cwV 0 hts gX6_gain_X6_fitting rfl rfl rfl (by decide +kernel) ⟨Nat.le_of_ble_eq_true rfl, Nat.le_of_ble_eq_true rfl⟩) hK hE hA hP hD hS [0, 2, 4, 6, 7] rfl rfl rfl 6 0 rfl rfl rfl hl.1 rfl (Nat.le_of_ble_eq_true rfl) ⟨Nat.zero_le _, Nat.zero_le _⟩ dX6_gain_47 (fun H locs hP hD hS => ?_)
          have hP : va_P (dC, dI) vwCl [(h0, .inr (6, [.int 0, .int told_, .ref h0_row, .int columns_, .int rooms_, .int many_, .ref h0_subjectOf, .ref h0_teacherOf, .ref h0_seatsOf, .ref h0_columnOf, .ref h0_barsOf, .int pupils_, .ref h0_choices, .int kept_, .ref h0_tape, .int taped_, .int at_, .int to_, .int digit_, .int number_, .ref h0_was, .ref h0_readChoices, .int readMany_, .ref h0_open, .ref h0_wayOf, .int bestThen_, .ref h0_cure, .ref h0_left, .ref h0_satIn])), (h0_row, .inl (cyI, 32, .inl row_)), (h0_subjectOf, .inl (cyI, 17, .inl subjectOf_)), (h0_teacherOf, .inl (cyI, 17, .inl teacherOf_)), (h0_columnOf, .inl (cyI, 17, .inl columnOf_)), (h0_barsOf, .inl (cyI, 10, .inl barsOf_)), (h0_choices, .inl (cyI, 24, .inl choices_)), (h0_open, .inl (cyI, 10, .inl open_5))] H := hP
          have hD : va_D A [(h0, .inr (6, [.int 0, .int told_, .ref h0_row, .int columns_, .int rooms_, .int many_, .ref h0_subjectOf, .ref h0_teacherOf, .ref h0_seatsOf, .ref h0_columnOf, .ref h0_barsOf, .int pupils_, .ref h0_choices, .int kept_, .ref h0_tape, .int taped_, .int at_, .int to_, .int digit_, .int number_, .ref h0_was, .ref h0_readChoices, .int readMany_, .ref h0_open, .ref h0_wayOf, .int bestThen_, .ref h0_cure, .ref h0_left, .ref h0_satIn])), (h0_row, .inl (cyI, 32, .inl row_)), (h0_subjectOf, .inl (cyI, 17, .inl subjectOf_)), (h0_teacherOf, .inl (cyI, 17, .inl teacherOf_)), (h0_columnOf, .inl (cyI, 17, .inl columnOf_)), (h0_barsOf, .inl (cyI, 10, .inl barsOf_)), (h0_choices, .inl (cyI, 24, .inl choices_)), (h0_open, .inl (cyI, 10, .inl open_5))] := hD
          refine lv_istore_n (lv' := [(3, .int r_4), (0, .ref h0), (1, .int v1), (2, .int v2)]) hx hb dX6_gain_50 rfl hl (by decide) rfl (fun ls hl => ?_)
          refine lv_aload_n hx hb dX6_gain_51 rfl (lv_at hl 1 rfl) ?_
          refine lv_iload_n hx hb dX6_gain_52 rfl (lv_at hl 2 rfl) ?_
          refine lv_iload_n hx hb dX6_gain_53 rfl (lv_at hl 3 rfl) ?_
          obtain ⟨r_6, columnOf_7, open_8, hq, h⟩ := bd3_some h
          refine uV_i (b := h0) (As := [.int v1, .int v2]) (rest := []) ⟨hx, hb, hml, hown, hts⟩ (c_X6_fittingBy l dC dI cyC cyI cyJ h0 h0_row h0_subjectOf h0_teacherOf h0_seatsOf h0_columnOf h0_barsOf h0_choices h0_tape h0_was h0_readChoices h0_open h0_wayOf h0_cure h0_left h0_satIn 0 told_ columns_ rooms_ many_ pupils_ kept_ taped_ at_ to_ digit_ number_ readMany_ bestThen_ subjectOf_ columnOf_ choices_ open_5 v1 v2 r_6 columnOf_7 open_8 hq) (cwV 2 hts gX6_gain_X6_fittingBy rfl rfl rfl (by decide +kernel) ⟨Nat.le_of_ble_eq_true rfl, Nat.le_of_ble_eq_true rfl⟩) hK hE hA hP hD hS [0, 2, 4, 6, 7] rfl rfl rfl 6 0 rfl rfl rfl hl.1 rfl (Nat.le_of_ble_eq_true rfl) ⟨Nat.zero_le _, Nat.zero_le _⟩ dX6_gain_54 (fun H locs hP hD hS => ?_)
          have hP : va_P (dC, dI) vwCl [(h0, .inr (6, [.int 0, .int told_, .ref h0_row, .int columns_, .int rooms_, .int many_, .ref h0_subjectOf, .ref h0_teacherOf, .ref h0_seatsOf, .ref h0_columnOf, .ref h0_barsOf, .int pupils_, .ref h0_choices, .int kept_, .ref h0_tape, .int taped_, .int at_, .int to_, .int digit_, .int number_, .ref h0_was, .ref h0_readChoices, .int readMany_, .ref h0_open, .ref h0_wayOf, .int bestThen_, .ref h0_cure, .ref h0_left, .ref h0_satIn])), (h0_row, .inl (cyI, 32, .inl row_)), (h0_subjectOf, .inl (cyI, 17, .inl subjectOf_)), (h0_teacherOf, .inl (cyI, 17, .inl teacherOf_)), (h0_columnOf, .inl (cyI, 17, .inl columnOf_7)), (h0_barsOf, .inl (cyI, 10, .inl barsOf_)), (h0_choices, .inl (cyI, 24, .inl choices_)), (h0_open, .inl (cyI, 10, .inl open_8))] H := hP
          have hD : va_D A [(h0, .inr (6, [.int 0, .int told_, .ref h0_row, .int columns_, .int rooms_, .int many_, .ref h0_subjectOf, .ref h0_teacherOf, .ref h0_seatsOf, .ref h0_columnOf, .ref h0_barsOf, .int pupils_, .ref h0_choices, .int kept_, .ref h0_tape, .int taped_, .int at_, .int to_, .int digit_, .int number_, .ref h0_was, .ref h0_readChoices, .int readMany_, .ref h0_open, .ref h0_wayOf, .int bestThen_, .ref h0_cure, .ref h0_left, .ref h0_satIn])), (h0_row, .inl (cyI, 32, .inl row_)), (h0_subjectOf, .inl (cyI, 17, .inl subjectOf_)), (h0_teacherOf, .inl (cyI, 17, .inl teacherOf_)), (h0_columnOf, .inl (cyI, 17, .inl columnOf_7)), (h0_barsOf, .inl (cyI, 10, .inl barsOf_)), (h0_choices, .inl (cyI, 24, .inl choices_)), (h0_open, .inl (cyI, 10, .inl open_8))] := hD
          refine lv_istore (lv' := [(4, .int r_6), (3, .int r_4), (0, .ref h0), (1, .int v1), (2, .int v2)]) hx hb dX6_gain_57 hl (by decide) rfl (fun ls hl => ?_)
          refine lv_aload_n hx hb dX6_gain_59 rfl (lv_at hl 2 rfl) ?_
          refine lv_iload hx hb dX6_gain_60 (lv_at hl 0 rfl) ?_
          refine lv_iload_n hx hb dX6_gain_62 rfl (lv_at hl 1 rfl) ?_
          refine lv_iconst (v := (-1)) hx hb dX6_gain_63 (by decide) ?_
          refine lv_ixor hx hb dX6_gain_64 ?_
          refine lv_iand hx hb dX6_gain_65 ?_
          refine lv_iload_n hx hb dX6_gain_66 rfl (lv_at hl 1 rfl) ?_
          refine lv_iload hx hb dX6_gain_67 (lv_at hl 0 rfl) ?_
          refine lv_iconst (v := (-1)) hx hb dX6_gain_69 (by decide) ?_
          refine lv_ixor hx hb dX6_gain_70 ?_
          refine lv_iand hx hb dX6_gain_71 ?_
          obtain ⟨told_9, row_10, hq, h⟩ := bd2_some h
          refine uV_v (b := h0) (As := [.int (r_6 &&& (r_4 ^^^ (-1))), .int (r_4 &&& (r_6 ^^^ (-1)))]) (rest := []) ⟨hx, hb, hml, hown, hts⟩ (c_X6_notesTwo l dC dI cyC cyI cyJ h0 h0_row h0_subjectOf h0_teacherOf h0_seatsOf h0_columnOf h0_barsOf h0_choices h0_tape h0_was h0_readChoices h0_open h0_wayOf h0_cure h0_left h0_satIn 0 told_ columns_ rooms_ many_ pupils_ kept_ taped_ at_ to_ digit_ number_ readMany_ bestThen_ row_ (r_6 &&& (r_4 ^^^ (-1))) (r_4 &&& (r_6 ^^^ (-1))) told_9 row_10 hq) (cwV 2 hts gX6_gain_X6_notesTwo rfl rfl rfl (by decide +kernel) ⟨Nat.le_of_ble_eq_true rfl, Nat.le_of_ble_eq_true rfl⟩) hK hE hA hP hD hS [0, 1] rfl rfl rfl 6 0 rfl rfl rfl hl.1 rfl (Nat.le_of_ble_eq_true rfl) ⟨Nat.zero_le _, Nat.zero_le _⟩ dX6_gain_72 (fun H locs hP hD hS => ?_)
          have hP : va_P (dC, dI) vwCl [(h0, .inr (6, [.int 0, .int told_9, .ref h0_row, .int columns_, .int rooms_, .int many_, .ref h0_subjectOf, .ref h0_teacherOf, .ref h0_seatsOf, .ref h0_columnOf, .ref h0_barsOf, .int pupils_, .ref h0_choices, .int kept_, .ref h0_tape, .int taped_, .int at_, .int to_, .int digit_, .int number_, .ref h0_was, .ref h0_readChoices, .int readMany_, .ref h0_open, .ref h0_wayOf, .int bestThen_, .ref h0_cure, .ref h0_left, .ref h0_satIn])), (h0_row, .inl (cyI, 32, .inl row_10)), (h0_subjectOf, .inl (cyI, 17, .inl subjectOf_)), (h0_teacherOf, .inl (cyI, 17, .inl teacherOf_)), (h0_columnOf, .inl (cyI, 17, .inl columnOf_7)), (h0_barsOf, .inl (cyI, 10, .inl barsOf_)), (h0_choices, .inl (cyI, 24, .inl choices_)), (h0_open, .inl (cyI, 10, .inl open_8))] H := hP
          have hD : va_D A [(h0, .inr (6, [.int 0, .int told_9, .ref h0_row, .int columns_, .int rooms_, .int many_, .ref h0_subjectOf, .ref h0_teacherOf, .ref h0_seatsOf, .ref h0_columnOf, .ref h0_barsOf, .int pupils_, .ref h0_choices, .int kept_, .ref h0_tape, .int taped_, .int at_, .int to_, .int digit_, .int number_, .ref h0_was, .ref h0_readChoices, .int readMany_, .ref h0_open, .ref h0_wayOf, .int bestThen_, .ref h0_cure, .ref h0_left, .ref h0_satIn])), (h0_row, .inl (cyI, 32, .inl row_10)), (h0_subjectOf, .inl (cyI, 17, .inl subjectOf_)), (h0_teacherOf, .inl (cyI, 17, .inl teacherOf_)), (h0_columnOf, .inl (cyI, 17, .inl columnOf_7)), (h0_barsOf, .inl (cyI, 10, .inl barsOf_)), (h0_choices, .inl (cyI, 24, .inl choices_)), (h0_open, .inl (cyI, 10, .inl open_8))] := hD
          refine lv_iload hx hb dX6_gain_75 (lv_at hl 0 rfl) ?_
          obtain ⟨r_11, hq, h⟩ := bd1_some h
          refine uS_i (As := [.int r_6]) (rest := []) ⟨hx, hb, hml, hown, hts⟩ (c_X6_bits l dC dI cyC cyI cyJ r_6 r_11 hq) (va_cwS 1 hts gX6_gain_X6_bits rfl rfl rfl (by decide +kernel) ⟨Nat.le_of_ble_eq_true rfl, Nat.le_of_ble_eq_true rfl⟩) hK hE hA hP hD hS [] rfl rfl rfl rfl hl.1 rfl (Nat.le_of_ble_eq_true rfl) ⟨Nat.zero_le _, Nat.zero_le _⟩ dX6_gain_77 (fun H locs hP hD hS => ?_)
          have hP : va_P (dC, dI) vwCl [(h0, .inr (6, [.int 0, .int told_9, .ref h0_row, .int columns_, .int rooms_, .int many_, .ref h0_subjectOf, .ref h0_teacherOf, .ref h0_seatsOf, .ref h0_columnOf, .ref h0_barsOf, .int pupils_, .ref h0_choices, .int kept_, .ref h0_tape, .int taped_, .int at_, .int to_, .int digit_, .int number_, .ref h0_was, .ref h0_readChoices, .int readMany_, .ref h0_open, .ref h0_wayOf, .int bestThen_, .ref h0_cure, .ref h0_left, .ref h0_satIn])), (h0_row, .inl (cyI, 32, .inl row_10)), (h0_subjectOf, .inl (cyI, 17, .inl subjectOf_)), (h0_teacherOf, .inl (cyI, 17, .inl teacherOf_)), (h0_columnOf, .inl (cyI, 17, .inl columnOf_7)), (h0_barsOf, .inl (cyI, 10, .inl barsOf_)), (h0_choices, .inl (cyI, 24, .inl choices_)), (h0_open, .inl (cyI, 10, .inl open_8))] H := hP
          have hD : va_D A [(h0, .inr (6, [.int 0, .int told_9, .ref h0_row, .int columns_, .int rooms_, .int many_, .ref h0_subjectOf, .ref h0_teacherOf, .ref h0_seatsOf, .ref h0_columnOf, .ref h0_barsOf, .int pupils_, .ref h0_choices, .int kept_, .ref h0_tape, .int taped_, .int at_, .int to_, .int digit_, .int number_, .ref h0_was, .ref h0_readChoices, .int readMany_, .ref h0_open, .ref h0_wayOf, .int bestThen_, .ref h0_cure, .ref h0_left, .ref h0_satIn])), (h0_row, .inl (cyI, 32, .inl row_10)), (h0_subjectOf, .inl (cyI, 17, .inl subjectOf_)), (h0_teacherOf, .inl (cyI, 17, .inl teacherOf_)), (h0_columnOf, .inl (cyI, 17, .inl columnOf_7)), (h0_barsOf, .inl (cyI, 10, .inl barsOf_)), (h0_choices, .inl (cyI, 24, .inl choices_)), (h0_open, .inl (cyI, 10, .inl open_8))] := hD
          refine lv_iload_n hx hb dX6_gain_80 rfl (lv_at hl 1 rfl) ?_
          obtain ⟨r_12, hq, h⟩ := bd1_some h
          refine uS_i (As := [.int r_4]) (rest := [.int r_11]) ⟨hx, hb, hml, hown, hts⟩ (c_X6_bits l dC dI cyC cyI cyJ r_4 r_12 hq) (va_cwS 1 hts gX6_gain_X6_bits rfl rfl rfl (by decide +kernel) ⟨Nat.le_of_ble_eq_true rfl, Nat.le_of_ble_eq_true rfl⟩) hK hE hA hP hD hS [] rfl rfl rfl rfl hl.1 rfl (Nat.le_of_ble_eq_true rfl) ⟨Nat.zero_le _, Nat.zero_le _⟩ dX6_gain_81 (fun H locs hP hD hS => ?_)
          have hP : va_P (dC, dI) vwCl [(h0, .inr (6, [.int 0, .int told_9, .ref h0_row, .int columns_, .int rooms_, .int many_, .ref h0_subjectOf, .ref h0_teacherOf, .ref h0_seatsOf, .ref h0_columnOf, .ref h0_barsOf, .int pupils_, .ref h0_choices, .int kept_, .ref h0_tape, .int taped_, .int at_, .int to_, .int digit_, .int number_, .ref h0_was, .ref h0_readChoices, .int readMany_, .ref h0_open, .ref h0_wayOf, .int bestThen_, .ref h0_cure, .ref h0_left, .ref h0_satIn])), (h0_row, .inl (cyI, 32, .inl row_10)), (h0_subjectOf, .inl (cyI, 17, .inl subjectOf_)), (h0_teacherOf, .inl (cyI, 17, .inl teacherOf_)), (h0_columnOf, .inl (cyI, 17, .inl columnOf_7)), (h0_barsOf, .inl (cyI, 10, .inl barsOf_)), (h0_choices, .inl (cyI, 24, .inl choices_)), (h0_open, .inl (cyI, 10, .inl open_8))] H := hP
          have hD : va_D A [(h0, .inr (6, [.int 0, .int told_9, .ref h0_row, .int columns_, .int rooms_, .int many_, .ref h0_subjectOf, .ref h0_teacherOf, .ref h0_seatsOf, .ref h0_columnOf, .ref h0_barsOf, .int pupils_, .ref h0_choices, .int kept_, .ref h0_tape, .int taped_, .int at_, .int to_, .int digit_, .int number_, .ref h0_was, .ref h0_readChoices, .int readMany_, .ref h0_open, .ref h0_wayOf, .int bestThen_, .ref h0_cure, .ref h0_left, .ref h0_satIn])), (h0_row, .inl (cyI, 32, .inl row_10)), (h0_subjectOf, .inl (cyI, 17, .inl subjectOf_)), (h0_teacherOf, .inl (cyI, 17, .inl teacherOf_)), (h0_columnOf, .inl (cyI, 17, .inl columnOf_7)), (h0_barsOf, .inl (cyI, 10, .inl barsOf_)), (h0_choices, .inl (cyI, 24, .inl choices_)), (h0_open, .inl (cyI, 10, .inl open_8))] := hD
          refine lv_isub hx hb dX6_gain_84 ?_
          have h : some ((r_11 - r_12), 0, told_9, row_10, columnOf_7, open_8) = some (rr, o0, o1, o2, o3, o4) := h
          have z0 := Option.some.inj h
          obtain ⟨rfl, z1⟩ := Prod.mk.inj z0
          obtain ⟨rfl, z2⟩ := Prod.mk.inj z1
          obtain ⟨rfl, z3⟩ := Prod.mk.inj z2
          obtain ⟨rfl, z4⟩ := Prod.mk.inj z3
          obtain ⟨rfl, z5⟩ := Prod.mk.inj z4
          obtain rfl := z5
          exact hret _ _ _ _ hP hS rfl dX6_gain_85
        · have h := (if_pos c_).symm.trans h
          refine lv_sipush (v := (-1000)) hx hb dX6_gain_42 (by decide) ?_
          have h : some ((-1000), 0, told_, row_, columnOf_, open_) = some (rr, o0, o1, o2, o3, o4) := h
          have z0 := Option.some.inj h
          obtain ⟨rfl, z1⟩ := Prod.mk.inj z0
          obtain ⟨rfl, z2⟩ := Prod.mk.inj z1
          obtain ⟨rfl, z3⟩ := Prod.mk.inj z2
          obtain ⟨rfl, z4⟩ := Prod.mk.inj z3
          obtain ⟨rfl, z5⟩ := Prod.mk.inj z4
          obtain rfl := z5
          exact hret _ _ _ _ hP hS rfl dX6_gain_45
    · have h := (if_pos c_).symm.trans h
      refine lv_iconst (v := (-1)) hx hb dX6_gain_21 (by decide) ?_
      have h : some ((-1), 0, told_, row_, columnOf_, open_) = some (rr, o0, o1, o2, o3, o4) := h
      have z0 := Option.some.inj h
      obtain ⟨rfl, z1⟩ := Prod.mk.inj z0
      obtain ⟨rfl, z2⟩ := Prod.mk.inj z1
      obtain ⟨rfl, z3⟩ := Prod.mk.inj z2
      obtain ⟨rfl, z4⟩ := Prod.mk.inj z3
      obtain ⟨rfl, z5⟩ := Prod.mk.inj z4
      obtain rfl := z5
      exact hret _ _ _ _ hP hS rfl dX6_gain_22

def m_X6_isHeld (kept_ : Int32) (v1 : Int32) (v2 : Int32) : Option (Int32) :=
  (if ((kept_ &&& v1) &&& (v2 ^^^ (-1))) = 0 then some 1 else some 0)
abbrev rmX6_isHeld : Room := { frames := 0, cells := 0, slots := 0, locals := 0 }
set_option maxHeartbeats 4000000 in
set_option maxRecDepth 100000 in
theorem c_X6_isHeld (l : Launch) (dC : Nat → ClassId) (dI : Nat → Nat → Nat) (cyC cyI cyJ : ClassId) (h0 h0_row h0_subjectOf h0_teacherOf h0_seatsOf h0_columnOf h0_barsOf h0_choices h0_tape h0_was h0_readChoices h0_open h0_wayOf h0_cure h0_left h0_satIn : Nat) (thrown_ : Int32) (told_ : Int32) (columns_ : Int32) (rooms_ : Int32) (many_ : Int32) (pupils_ : Int32) (kept_ : Int32) (taped_ : Int32) (at_ : Int32) (to_ : Int32) (digit_ : Int32) (number_ : Int32) (readMany_ : Int32) (bestThen_ : Int32) (v1 : Int32) (v2 : Int32) (rr : Int32) (h : m_X6_isHeld kept_ v1 v2 = some rr) : uMi l yX6_isHeld wsX6_isHeld rmX6_isHeld (dC, dI) [(cyC, .char), (cyI, .int), (cyJ, .long)] [.ref h0, .int v1, .int v2] [(h0, .inr (6, [.int thrown_, .int told_, .ref h0_row, .int columns_, .int rooms_, .int many_, .ref h0_subjectOf, .ref h0_teacherOf, .ref h0_seatsOf, .ref h0_columnOf, .ref h0_barsOf, .int pupils_, .ref h0_choices, .int kept_, .ref h0_tape, .int taped_, .int at_, .int to_, .int digit_, .int number_, .ref h0_was, .ref h0_readChoices, .int readMany_, .ref h0_open, .ref h0_wayOf, .int bestThen_, .ref h0_cure, .ref h0_left, .ref h0_satIn]))] [(h0, .inr (6, [.int thrown_, .int told_, .ref h0_row, .int columns_, .int rooms_, .int many_, .ref h0_subjectOf, .ref h0_teacherOf, .ref h0_seatsOf, .ref h0_columnOf, .ref h0_barsOf, .int pupils_, .ref h0_choices, .int kept_, .ref h0_tape, .int taped_, .int at_, .int to_, .int digit_, .int number_, .ref h0_was, .ref h0_readChoices, .int readMany_, .ref h0_open, .ref h0_wayOf, .int bestThen_, .ref h0_cure, .ref h0_left, .ref h0_satIn]))] rr := by
  refine uMi.of (cc := cX6_isHeld) (maxL := 3) (by decide) rfl (Nat.le_of_ble_eq_true rfl) (fun p e s m args below meth c A ls Q hx hb hml hown hts hA hP hK hD hE hS hl hret => ?_)
  have hown : s.vm.findClass RX6 = some m.cls := hown
  have hl : lv_has ls 3 [(0, .ref h0), (1, .int v1), (2, .int v2)] := hl
  have hiX6 : ∀ w ∈ u_ws RX6 TX6 29, w ∈ wsX6_isHeld := fun _ h9 => List.mem_cons_of_mem _ (List.mem_append_right _ h9)
  unfold m_X6_isHeld at h
  refine lv_aload_n hx hb dX6_isHeld_0 rfl (lv_at hl 0 rfl) ?_
  refine va_get (D := (dC, dI)) (ci := 6) (v := .int kept_) (C := RX6) (T := TX6) (N := 29) hx hb hts hiX6 hown hK hP 0 rfl rfl 13 (by decide) (hts (.fieldLink RX6 158 "OptionLatticeModel" "kept" "I") (by decide +kernel)) (fun _ h9 => h9) rfl dX6_isHeld_1 ?_
  refine lv_iload_n hx hb dX6_isHeld_4 rfl (lv_at hl 1 rfl) ?_
  refine lv_iand hx hb dX6_isHeld_5 ?_
  refine lv_iload_n hx hb dX6_isHeld_6 rfl (lv_at hl 2 rfl) ?_
  refine lv_iconst (v := (-1)) hx hb dX6_isHeld_7 (by decide) ?_
  refine lv_ixor hx hb dX6_isHeld_8 ?_
  refine lv_iand hx hb dX6_isHeld_9 ?_
  refine lv_if_ne (tgt := 17) hx hb dX6_isHeld_10 (by decide) (fun c_ => ?_) (fun c_ => ?_)
  · have h := (if_neg c_).symm.trans h
    refine lv_iconst (v := 0) hx hb dX6_isHeld_17 (by decide) ?_
    have h : some 0 = some rr := h
    have z0 := Option.some.inj h
    obtain rfl := z0
    exact hret _ _ _ _ hP hS rfl dX6_isHeld_18
  · have h := (if_pos c_).symm.trans h
    refine lv_iconst (v := 1) hx hb dX6_isHeld_13 (by decide) ?_
    refine lv_goto (tgt := 18) hx hb dX6_isHeld_14 (by decide) ?_
    have h : some 1 = some rr := h
    have z0 := Option.some.inj h
    obtain rfl := z0
    exact hret _ _ _ _ hP hS rfl dX6_isHeld_18
