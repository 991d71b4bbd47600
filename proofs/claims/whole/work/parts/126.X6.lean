def m_X6_sits_75 (thrown_ : Int32) (told_ : Int32) (row_ : Nat → Int32) (left_ : Nat → Int32) (satIn_ : Nat → Int32) (v1 : Int32) (v3 : Int32) : Option (Int32 × Int32 × Int32 × (Nat → Int32) × (Nat → Int32) × (Nat → Int32)) :=
  gd (inb v1 17) (bd2 (m_X6_notesOne told_ row_ (left_ v1.toNatClampNeg)) (fun told_1 row_2 => some (v3, thrown_, told_1, row_2, left_, satIn_)))
def m_X6_sits_26 (thrown_ : Int32) (told_ : Int32) (pupils_ : Int32) (row_ : Nat → Int32) (left_ : Nat → Int32) (satIn_ : Nat → Int32) (v1 : Int32) (v2 : Int32) (rec26 : Int32 → Int32 → Option (Int32 × Int32 × Int32 × (Nat → Int32) × (Nat → Int32) × (Nat → Int32))) : Int32 → Int32 → Option (Int32 × Int32 × Int32 × (Nat → Int32) × (Nat → Int32) × (Nat → Int32)) := fun v3 v4 =>
  (if pupils_ ≤ v4 then m_X6_sits_75 thrown_ told_ row_ left_ satIn_ v1 v3 else bd1 (m_X6_has v2 v4) (fun r_3 => (if r_3 = 0 then lt' (v3 ||| 0) (fun v3_4 => lt' (v4 + 1) (fun v4_5 => rec26 v3_4 v4_5)) else gd (inb v4 24) (bd1 (m_X6_has (satIn_ v4.toNatClampNeg) v1) (fun r_6 => (if r_6 = 0 then lt' (v3 ||| 0) (fun v3_7 => lt' (v4 + 1) (fun v4_8 => rec26 v3_7 v4_8)) else lt' (v3 ||| ((1 : Int32) <<< (v4 &&& 31))) (fun v3_9 => lt' (v4 + 1) (fun v4_10 => rec26 v3_9 v4_10))))))))
def m_X6_sits (thrown_ : Int32) (told_ : Int32) (columns_ : Int32) (many_ : Int32) (pupils_ : Int32) (row_ : Nat → Int32) (subjectOf_ : Nat → Int32) (seatsOf_ : Nat → Int32) (columnOf_ : Nat → Int32) (choices_ : Nat → Int32) (left_ : Nat → Int32) (satIn_ : Nat → Int32) (v1 : Int32) : Option (Int32 × Int32 × Int32 × (Nat → Int32) × (Nat → Int32) × (Nat → Int32)) :=
  bd1 (m_X6_isSection many_ v1) (fun r_11 => (if r_11 = 0 then some ((-1), 0, told_, row_, left_, satIn_) else bd3 (m_X6_seatsAll columns_ many_ pupils_ subjectOf_ seatsOf_ columnOf_ choices_ left_ satIn_ 0) (fun r_12 left_13 satIn_14 => it2 (m_X6_sits_26 0 told_ pupils_ row_ left_13 satIn_14 v1 r_12) 1100 0 0)))
abbrev rmX6_sits : Room := { frames := 11, cells := 0, slots := 0, locals := 283 }
set_option maxHeartbeats 4000000 in
set_option maxRecDepth 100000 in
theorem c_X6_sits (l : Launch) (dC : Nat → ClassId) (dI : Nat → Nat → Nat) (cyC cyI cyJ : ClassId) (h0 h0_row h0_subjectOf h0_teacherOf h0_seatsOf h0_columnOf h0_barsOf h0_choices h0_tape h0_was h0_readChoices h0_open h0_wayOf h0_cure h0_left h0_satIn : Nat) (thrown_ : Int32) (told_ : Int32) (columns_ : Int32) (rooms_ : Int32) (many_ : Int32) (pupils_ : Int32) (kept_ : Int32) (taped_ : Int32) (at_ : Int32) (to_ : Int32) (digit_ : Int32) (number_ : Int32) (readMany_ : Int32) (bestThen_ : Int32) (row_ : Nat → Int32) (subjectOf_ : Nat → Int32) (seatsOf_ : Nat → Int32) (columnOf_ : Nat → Int32) (choices_ : Nat → Int32) (left_ : Nat → Int32) (satIn_ : Nat → Int32) (v1 : Int32) (rr : Int32) (o0 : Int32) (o1 : Int32) (o2 : Nat → Int32) (o3 : Nat → Int32) (o4 : Nat → Int32) (h : m_X6_sits thrown_ told_ columns_ many_ pupils_ row_ subjectOf_ seatsOf_ columnOf_ choices_ left_ satIn_ v1 = some (rr, o0, o1, o2, o3, o4)) : uMi l yX6_sits wsX6_sits rmX6_sits (dC, dI) [(cyC, .char), (cyI, .int), (cyJ, .long)] [.ref h0, .int v1] [(h0, .inr (6, [.int thrown_, .int told_, .ref h0_row, .int columns_, .int rooms_, .int many_, .ref h0_subjectOf, .ref h0_teacherOf, .ref h0_seatsOf, .ref h0_columnOf, .ref h0_barsOf, .int pupils_, .ref h0_choices, .int kept_, .ref h0_tape, .int taped_, .int at_, .int to_, .int digit_, .int number_, .ref h0_was, .ref h0_readChoices, .int readMany_, .ref h0_open, .ref h0_wayOf, .int bestThen_, .ref h0_cure, .ref h0_left, .ref h0_satIn])), (h0_row, .inl (cyI, 32, .inl row_)), (h0_subjectOf, .inl (cyI, 17, .inl subjectOf_)), (h0_seatsOf, .inl (cyI, 17, .inl seatsOf_)), (h0_columnOf, .inl (cyI, 17, .inl columnOf_)), (h0_choices, .inl (cyI, 24, .inl choices_)), (h0_left, .inl (cyI, 17, .inl left_)), (h0_satIn, .inl (cyI, 24, .inl satIn_))] [(h0, .inr (6, [.int o0, .int o1, .ref h0_row, .int columns_, .int rooms_, .int many_, .ref h0_subjectOf, .ref h0_teacherOf, .ref h0_seatsOf, .ref h0_columnOf, .ref h0_barsOf, .int pupils_, .ref h0_choices, .int kept_, .ref h0_tape, .int taped_, .int at_, .int to_, .int digit_, .int number_, .ref h0_was, .ref h0_readChoices, .int readMany_, .ref h0_open, .ref h0_wayOf, .int bestThen_, .ref h0_cure, .ref h0_left, .ref h0_satIn])), (h0_row, .inl (cyI, 32, .inl o2)), (h0_subjectOf, .inl (cyI, 17, .inl subjectOf_)), (h0_seatsOf, .inl (cyI, 17, .inl seatsOf_)), (h0_columnOf, .inl (cyI, 17, .inl columnOf_)), (h0_choices, .inl (cyI, 24, .inl choices_)), (h0_left, .inl (cyI, 17, .inl o3)), (h0_satIn, .inl (cyI, 24, .inl o4))] rr := by
  refine uMi.of (cc := cX6_sits) (maxL := 5) (by decide) rfl (Nat.le_of_ble_eq_true rfl) (fun p e s m args below meth c A ls Q hx hb hml hown hts hA hP hK hD hE hS hl hret => ?_)
  have hown : s.vm.findClass RX6 = some m.cls := hown
  have hl : lv_has ls 5 [(0, .ref h0), (1, .int v1)] := hl
  have hiX6 : ∀ w ∈ u_ws RX6 TX6 29, w ∈ wsX6_sits := fun _ h9 => List.mem_cons_of_mem _ (List.mem_append_right _ h9)
  have J75 : ∀ (v3 : Int32), ∀ (thrown_ : Int32), ∀ (left_ : Nat → Int32), ∀ (satIn_ : Nat → Int32), m_X6_sits_75 thrown_ told_ row_ left_ satIn_ v1 v3 = some (rr, o0, o1, o2, o3, o4) → ∀ (H : Heap) (locs : List Loc) (ls : Array Slot), va_P (dC, dI) vwCl [(h0, .inr (6, [.int thrown_, .int told_, .ref h0_row, .int columns_, .int rooms_, .int many_, .ref h0_subjectOf, .ref h0_teacherOf, .ref h0_seatsOf, .ref h0_columnOf, .ref h0_barsOf, .int pupils_, .ref h0_choices, .int kept_, .ref h0_tape, .int taped_, .int at_, .int to_, .int digit_, .int number_, .ref h0_was, .ref h0_readChoices, .int readMany_, .ref h0_open, .ref h0_wayOf, .int bestThen_, .ref h0_cure, .ref h0_left, .ref h0_satIn])), (h0_row, .inl (cyI, 32, .inl row_)), (h0_subjectOf, .inl (cyI, 17, .inl subjectOf_)), (h0_seatsOf, .inl (cyI, 17, .inl seatsOf_)), (h0_columnOf, .inl (cyI, 17, .inl columnOf_)), (h0_choices, .inl (cyI, 24, .inl choices_)), (h0_left, .inl (cyI, 17, .inl left_)), (h0_satIn, .inl (cyI, 24, .inl satIn_))] H → va_D A [(h0, .inr (6, [.int thrown_, .int told_, .ref h0_row, .int columns_, .int rooms_, .int many_, .ref h0_subjectOf, .ref h0_teacherOf, .ref h0_seatsOf, .ref h0_columnOf, .ref h0_barsOf, .int pupils_, .ref h0_choices, .int kept_, .ref h0_tape, .int taped_, .int at_, .int to_, .int digit_, .int number_, .ref h0_was, .ref h0_readChoices, .int readMany_, .ref h0_open, .ref h0_wayOf, .int bestThen_, .ref h0_cure, .ref h0_left, .ref h0_satIn])), (h0_row, .inl (cyI, 32, .inl row_)), (h0_subjectOf, .inl (cyI, 17, .inl subjectOf_)), (h0_seatsOf, .inl (cyI, 17, .inl seatsOf_)), (h0_columnOf, .inl (cyI, 17, .inl columnOf_)), (h0_choices, .inl (cyI, 24, .inl choices_)), (h0_left, .inl (cyI, 17, .inl left_)), (h0_satIn, .inl (cyI, 24, .inl satIn_))] → va_S A s.heap H locs → lv_has ls 5 [(0, .ref h0), (1, .int v1), (3, .int v3)] → W p l e rmX6_sits s m args below meth c H locs 0 0 Q (F0 m 75 ls []) := by
    intro v3 thrown_ left_ satIn_ h H locs ls hP hD hS hl
    unfold m_X6_sits_75 at h
    refine lv_aload_n hx hb dX6_sits_75 rfl (lv_at hl 0 rfl) ?_
    refine lv_aload_n hx hb dX6_sits_76 rfl (lv_at hl 0 rfl) ?_
    refine va_get (D := (dC, dI)) (ci := 6) (v := .ref h0_left) (C := RX6) (T := TX6) (N := 29) hx hb hts hiX6 hown hK hP 0 rfl rfl 27 (by decide) (hts (.fieldLink RX6 56 "OptionLatticeModel" "left" "[I") (by decide +kernel)) (fun _ h9 => h9) rfl dX6_sits_77 ?_
    refine lv_iload_n hx hb dX6_sits_80 rfl (lv_at hl 1 rfl) ?_
    obtain ⟨g_, h⟩ := gd_some h
    refine va_iald hx hb hK hP 6 1 rfl rfl (inb_in g_) dX6_sits_81 ?_
    obtain ⟨told_1, row_2, hq, h⟩ := bd2_some h
    refine uV_v (b := h0) (As := [.int (left_ v1.toNatClampNeg)]) (rest := []) ⟨hx, hb, hml, hown, hts⟩ (c_X6_notesOne l dC dI cyC cyI cyJ h0 h0_row h0_subjectOf h0_teacherOf h0_seatsOf h0_columnOf h0_barsOf h0_choices h0_tape h0_was h0_readChoices h0_open h0_wayOf h0_cure h0_left h0_satIn thrown_ told_ columns_ rooms_ many_ pupils_ kept_ taped_ at_ to_ digit_ number_ readMany_ bestThen_ row_ (left_ v1.toNatClampNeg) told_1 row_2 hq) (cwV 1 hts gX6_sits_X6_notesOne rfl rfl rfl (by decide +kernel) ⟨Nat.le_of_ble_eq_true rfl, Nat.le_of_ble_eq_true rfl⟩) hK hE hA hP hD hS [0, 1] rfl rfl rfl 6 0 rfl rfl rfl hl.1 rfl (Nat.le_of_ble_eq_true rfl) ⟨Nat.zero_le _, Nat.zero_le _⟩ dX6_sits_82 (fun H locs hP hD hS => ?_)
    have hP : va_P (dC, dI) vwCl [(h0, .inr (6, [.int thrown_, .int told_1, .ref h0_row, .int columns_, .int rooms_, .int many_, .ref h0_subjectOf, .ref h0_teacherOf, .ref h0_seatsOf, .ref h0_columnOf, .ref h0_barsOf, .int pupils_, .ref h0_choices, .int kept_, .ref h0_tape, .int taped_, .int at_, .int to_, .int digit_, .int number_, .ref h0_was, .ref h0_readChoices, .int readMany_, .ref h0_open, .ref h0_wayOf, .int bestThen_, .ref h0_cure, .ref h0_left, .ref h0_satIn])), (h0_row, .inl (cyI, 32, .inl row_2)), (h0_subjectOf, .inl (cyI, 17, .inl subjectOf_)), (h0_seatsOf, .inl (cyI, 17, .inl seatsOf_)), (h0_columnOf, .inl (cyI, 17, .inl columnOf_)), (h0_choices, .inl (cyI, 24, .inl choices_)), (h0_left, .inl (cyI, 17, .inl left_)), (h0_satIn, .inl (cyI, 24, .inl satIn_))] H := hP
    have hD : va_D A [(h0, .inr (6, [.int thrown_, .int told_1, .ref h0_row, .int columns_, .int rooms_, .int many_, .ref h0_subjectOf, .ref h0_teacherOf, .ref h0_seatsOf, .ref h0_columnOf, .ref h0_barsOf, .int pupils_, .ref h0_choices, .int kept_, .ref h0_tape, .int taped_, .int at_, .int to_, .int digit_, .int number_, .ref h0_was, .ref h0_readChoices, .int readMany_, .ref h0_open, .ref h0_wayOf, .int bestThen_, .ref h0_cure, .ref h0_left, .ref h0_satIn])), (h0_row, .inl (cyI, 32, .inl row_2)), (h0_subjectOf, .inl (cyI, 17, .inl subjectOf_)), (h0_seatsOf, .inl (cyI, 17, .inl seatsOf_)), (h0_columnOf, .inl (cyI, 17, .inl columnOf_)), (h0_choices, .inl (cyI, 24, .inl choices_)), (h0_left, .inl (cyI, 17, .inl left_)), (h0_satIn, .inl (cyI, 24, .inl satIn_))] := hD
    refine lv_iload_n hx hb dX6_sits_85 rfl (lv_at hl 2 rfl) ?_
    have h : some (v3, thrown_, told_1, row_2, left_, satIn_) = some (rr, o0, o1, o2, o3, o4) := h
    have z0 := Option.some.inj h
    obtain ⟨rfl, z1⟩ := Prod.mk.inj z0
    obtain ⟨rfl, z2⟩ := Prod.mk.inj z1
    obtain ⟨rfl, z3⟩ := Prod.mk.inj z2
    obtain ⟨rfl, z4⟩ := Prod.mk.inj z3
    obtain ⟨rfl, z5⟩ := Prod.mk.inj z4
    obtain rfl := z5
    exact hret _ _ _ _ hP hS rfl dX6_sits_86
  have L26 : ∀ (v2 : Int32), ∀ (thrown_ : Int32), ∀ (left_ : Nat → Int32), ∀ (satIn_ : Nat → Int32), ∀ (n26 : Nat), ∀ (v3 : Int32), ∀ (v4 : Int32), it2 (m_X6_sits_26 thrown_ told_ pupils_ row_ left_ satIn_ v1 v2) n26 v3 v4 = some (rr, o0, o1, o2, o3, o4) → ∀ (H : Heap) (locs : List Loc) (ls : Array Slot), va_P (dC, dI) vwCl [(h0, .inr (6, [.int thrown_, .int told_, .ref h0_row, .int columns_, .int rooms_, .int many_, .ref h0_subjectOf, .ref h0_teacherOf, .ref h0_seatsOf, .ref h0_columnOf, .ref h0_barsOf, .int pupils_, .ref h0_choices, .int kept_, .ref h0_tape, .int taped_, .int at_, .int to_, .int digit_, .int number_, .ref h0_was, .ref h0_readChoices, .int readMany_, .ref h0_open, .ref h0_wayOf, .int bestThen_, .ref h0_cure, .ref h0_left, .ref h0_satIn])), (h0_row, .inl (cyI, 32, .inl row_)), (h0_subjectOf, .inl (cyI, 17, .inl subjectOf_)), (h0_seatsOf, .inl (cyI, 17, .inl seatsOf_)), (h0_columnOf, .inl (cyI, 17, .inl columnOf_)), (h0_choices, .inl (cyI, 24, .inl choices_)), (h0_left, .inl (cyI, 17, .inl left_)), (h0_satIn, .inl (cyI, 24, .inl satIn_))] H → va_D A [(h0, .inr (6, [.int thrown_, .int told_, .ref h0_row, .int columns_, .int rooms_, .int many_, .ref h0_subjectOf, .ref h0_teacherOf, .ref h0_seatsOf, .ref h0_columnOf, .ref h0_barsOf, .int pupils_, .ref h0_choices, .int kept_, .ref h0_tape, .int taped_, .int at_, .int to_, .int digit_, .int number_, .ref h0_was, .ref h0_readChoices, .int readMany_, .ref h0_open, .ref h0_wayOf, .int bestThen_, .ref h0_cure, .ref h0_left, .ref h0_satIn])), (h0_row, .inl (cyI, 32, .inl row_)), (h0_subjectOf, .inl (cyI, 17, .inl subjectOf_)), (h0_seatsOf, .inl (cyI, 17, .inl seatsOf_)), (h0_columnOf, .inl (cyI, 17, .inl columnOf_)), (h0_choices, .inl (cyI, 24, .inl choices_)), (h0_left, .inl (cyI, 17, .inl left_)), (h0_satIn, .inl (cyI, 24, .inl satIn_))] → va_S A s.heap H locs → lv_has ls 5 [(0, .ref h0), (1, .int v1), (2, .int v2), (3, .int v3), (4, .int v4)] → W p l e rmX6_sits s m args below meth c H locs 0 0 Q (F0 m 26 ls []) := by
    intro v2 thrown_ left_ satIn_ n26
    induction n26 with
    | zero => intro v3 v4 h; exact absurd h (fun z => it2_z z)
    | succ n26 ih26 =>
      intro v3 v4 h H locs ls hP hD hS hl
      have h : m_X6_sits_26 thrown_ told_ pupils_ row_ left_ satIn_ v1 v2 (it2 (m_X6_sits_26 thrown_ told_ pupils_ row_ left_ satIn_ v1 v2) n26) v3 v4 = some (rr, o0, o1, o2, o3, o4) := h
      unfold m_X6_sits_26 at h
      refine lv_iload hx hb dX6_sits_26 (lv_at hl 4 rfl) ?_
      refine lv_aload_n hx hb dX6_sits_28 rfl (lv_at hl 0 rfl) ?_
      refine va_get (D := (dC, dI)) (ci := 6) (v := .int pupils_) (C := RX6) (T := TX6) (N := 29) hx hb hts hiX6 hown hK hP 0 rfl rfl 11 (by decide) (hts (.fieldLink RX6 90 "OptionLatticeModel" "pupils" "I") (by decide +kernel)) (fun _ h9 => h9) rfl dX6_sits_29 ?_
      refine lv_icmp_ge (tgt := 75) hx hb dX6_sits_32 (by decide) (fun c_ => ?_) (fun c_ => ?_)
      · have h := (if_pos c_).symm.trans h
        exact J75 v3 thrown_ left_ satIn_ h _ _ _ hP hD hS (lv_sub hl [0, 1, 3] rfl)
      · have h := (if_neg c_).symm.trans h
        refine lv_iload_n hx hb dX6_sits_35 rfl (lv_at hl 3 rfl) ?_
        refine lv_iload_n hx hb dX6_sits_36 rfl (lv_at hl 2 rfl) ?_
        refine lv_iload hx hb dX6_sits_37 (lv_at hl 4 rfl) ?_
        obtain ⟨r_3, hq, h⟩ := bd1_some h
        refine uS_i (As := [.int v2, .int v4]) (rest := [.int v3]) ⟨hx, hb, hml, hown, hts⟩ (c_X6_has l dC dI cyC cyI cyJ v2 v4 r_3 hq) (va_cwS 2 hts gX6_sits_X6_has rfl rfl rfl (by decide +kernel) ⟨Nat.le_of_ble_eq_true rfl, Nat.le_of_ble_eq_true rfl⟩) hK hE hA hP hD hS [] rfl rfl rfl rfl hl.1 rfl (Nat.le_of_ble_eq_true rfl) ⟨Nat.zero_le _, Nat.zero_le _⟩ dX6_sits_39 (fun H locs hP hD hS => ?_)
        have hP : va_P (dC, dI) vwCl [(h0, .inr (6, [.int thrown_, .int told_, .ref h0_row, .int columns_, .int rooms_, .int many_, .ref h0_subjectOf, .ref h0_teacherOf, .ref h0_seatsOf, .ref h0_columnOf, .ref h0_barsOf, .int pupils_, .ref h0_choices, .int kept_, .ref h0_tape, .int taped_, .int at_, .int to_, .int digit_, .int number_, .ref h0_was, .ref h0_readChoices, .int readMany_, .ref h0_open, .ref h0_wayOf, .int bestThen_, .ref h0_cure, .ref h0_left, .ref h0_satIn])), (h0_row, .inl (cyI, 32, .inl row_)), (h0_subjectOf, .inl (cyI, 17, .inl subjectOf_)), (h0_seatsOf, .inl (cyI, 17, .inl seatsOf_)), (h0_columnOf, .inl (cyI, 17, .inl columnOf_)), (h0_choices, .inl (cyI, 24, .inl choices_)), (h0_left, .inl (cyI, 17, .inl left_)), (h0_satIn, .inl (cyI, 24, .inl satIn_))] H := hP
        have hD : va_D A [(h0, .inr (6, [.int thrown_, .int told_, .ref h0_row, .int columns_, .int rooms_, .int many_, .ref h0_subjectOf, .ref h0_teacherOf, .ref h0_seatsOf, .ref h0_columnOf, .ref h0_barsOf, .int pupils_, .ref h0_choices, .int kept_, .ref h0_tape, .int taped_, .int at_, .int to_, .int digit_, .int number_, .ref h0_was, .ref h0_readChoices, .int readMany_, .ref h0_open, .ref h0_wayOf, .int bestThen_, .ref h0_cure, .ref h0_left, .ref h0_satIn])), (h0_row, .inl (cyI, 32, .inl row_)), (h0_subjectOf, .inl (cyI, 17, .inl subjectOf_)), (h0_seatsOf, .inl (cyI, 17, .inl seatsOf_)), (h0_columnOf, .inl (cyI, 17, .inl columnOf_)), (h0_choices, .inl (cyI, 24, .inl choices_)), (h0_left, .inl (cyI, 17, .inl left_)), (h0_satIn, .inl (cyI, 24, .inl satIn_))] := hD
        refine lv_if_eq (tgt := 66) hx hb dX6_sits_42 (by decide) (fun c_ => ?_) (fun c_ => ?_)
        · have h := (if_pos c_).symm.trans h
          refine lv_iconst (v := 0) hx hb dX6_sits_66 (by decide) ?_
          refine lv_ior hx hb dX6_sits_67 ?_
          refine lv_topi (fun v3_4 e_v3_4 => ?_)
          have h := lt_use e_v3_4 h
          refine lv_istore_n (lv' := [(3, .int v3_4), (0, .ref h0), (1, .int v1), (2, .int v2), (4, .int v4)]) hx hb dX6_sits_68 rfl hl (by decide) rfl (fun ls hl => ?_)
          obtain ⟨v4_5, e_v4_5⟩ : ∃ z : Int32, z = (v4 + 1) := ⟨_, rfl⟩
          have h := lt_use e_v4_5 h
          refine lv_iinc (v := v4_5) (lv' := [(4, .int v4_5), (3, .int v3_4), (0, .ref h0), (1, .int v1), (2, .int v2)]) hx hb dX6_sits_69 hl (k := 4) rfl (by rw [e_v4_5]; rfl) (by decide) rfl (fun ls hl => ?_)
          refine lv_goto (tgt := 26) hx hb dX6_sits_72 (by decide) ?_
          exact ih26 v3_4 v4_5 h _ _ _ hP hD hS (lv_sub hl [2, 3, 4, 1, 0] rfl)
        · have h := (if_neg c_).symm.trans h
          refine lv_aload_n hx hb dX6_sits_45 rfl (lv_at hl 0 rfl) ?_
          refine va_get (D := (dC, dI)) (ci := 6) (v := .ref h0_satIn) (C := RX6) (T := TX6) (N := 29) hx hb hts hiX6 hown hK hP 0 rfl rfl 28 (by decide) (hts (.fieldLink RX6 59 "OptionLatticeModel" "satIn" "[I") (by decide +kernel)) (fun _ h9 => h9) rfl dX6_sits_46 ?_
          refine lv_iload hx hb dX6_sits_49 (lv_at hl 4 rfl) ?_
          obtain ⟨g_, h⟩ := gd_some h
          refine va_iald hx hb hK hP 7 1 rfl rfl (inb_in g_) dX6_sits_51 ?_
          refine lv_iload_n hx hb dX6_sits_52 rfl (lv_at hl 1 rfl) ?_
          obtain ⟨r_6, hq, h⟩ := bd1_some h
          refine uS_i (As := [.int (satIn_ v4.toNatClampNeg), .int v1]) (rest := [.int v3]) ⟨hx, hb, hml, hown, hts⟩ (c_X6_has l dC dI cyC cyI cyJ (satIn_ v4.toNatClampNeg) v1 r_6 hq) (va_cwS 2 hts gX6_sits_X6_has rfl rfl rfl (by decide +kernel) ⟨Nat.le_of_ble_eq_true rfl, Nat.le_of_ble_eq_true rfl⟩) hK hE hA hP hD hS [] rfl rfl rfl rfl hl.1 rfl (Nat.le_of_ble_eq_true rfl) ⟨Nat.zero_le _, Nat.zero_le _⟩ dX6_sits_53 (fun H locs hP hD hS => ?_)
          have hP : va_P (dC, dI) vwCl [(h0, .inr (6, [.int thrown_, .int told_, .ref h0_row, .int columns_, .int rooms_, .int many_, .ref h0_subjectOf, .ref h0_teacherOf, .ref h0_seatsOf, .ref h0_columnOf, .ref h0_barsOf, .int pupils_, .ref h0_choices, .int kept_, .ref h0_tape, .int taped_, .int at_, .int to_, .int digit_, .int number_, .ref h0_was, .ref h0_readChoices, .int readMany_, .ref h0_open, .ref h0_wayOf, .int bestThen_, .ref h0_cure, .ref h0_left, .ref h0_satIn])), (h0_row, .inl (cyI, 32, .inl row_)), (h0_subjectOf, .inl (cyI, 17, .inl subjectOf_)), (h0_seatsOf, .inl (cyI, 17, .inl seatsOf_)), (h0_columnOf, .inl (cyI, 17, .inl columnOf_)), (h0_choices, .inl (cyI, 24, .inl choices_)), (h0_left, .inl (cyI, 17, .inl left_)), (h0_satIn, .inl (cyI, 24, .inl satIn_))] H := hP
          have hD : va_D A [(h0, .inr (6, [.int thrown_, .int told_, .ref h0_row, .int columns_, .int rooms_, .int many_, .ref h0_subjectOf, .ref h0_teacherOf, .ref h0_seatsOf, .ref h0_columnOf, .ref h0_barsOf, .int pupils_, .ref h0_choices, .int kept_, .ref h0_tape, .int taped_, .int at_, .int to_, .int digit_, .int number_, .ref h0_was, .ref h0_readChoices, .int readMany_, .ref h0_open, .ref h0_wayOf, .int bestThen_, .ref h0_cure, .ref h0_left, .ref h0_satIn])), (h0_row, .inl (cyI, 32, .inl row_)), (h0_subjectOf, .inl (cyI, 17, .inl subjectOf_)), (h0_seatsOf, .inl (cyI, 17, .inl seatsOf_)), (h0_columnOf, .inl (cyI, 17, .inl columnOf_)), (h0_choices, .inl (cyI, 24, .inl choices_)), (h0_left, .inl (cyI, 17, .inl left_)), (h0_satIn, .inl (cyI, 24, .inl satIn_))] := hD
          refine lv_if_eq (tgt := 66) hx hb dX6_sits_56 (by decide) (fun c_ => ?_) (fun c_ => ?_)
          · have h := (if_pos c_).symm.trans h
            refine lv_iconst (v := 0) hx hb dX6_sits_66 (by decide) ?_
            refine lv_ior hx hb dX6_sits_67 ?_
            refine lv_topi (fun v3_7 e_v3_7 => ?_)
            have h := lt_use e_v3_7 h
            refine lv_istore_n (lv' := [(3, .int v3_7), (0, .ref h0), (1, .int v1), (2, .int v2), (4, .int v4)]) hx hb dX6_sits_68 rfl hl (by decide) rfl (fun ls hl => ?_)
            obtain ⟨v4_8, e_v4_8⟩ : ∃ z : Int32, z = (v4 + 1) := ⟨_, rfl⟩
            have h := lt_use e_v4_8 h
            refine lv_iinc (v := v4_8) (lv' := [(4, .int v4_8), (3, .int v3_7), (0, .ref h0), (1, .int v1), (2, .int v2)]) hx hb dX6_sits_69 hl (k := 4) rfl (by rw [e_v4_8]; rfl) (by decide) rfl (fun ls hl => ?_)
            refine lv_goto (tgt := 26) hx hb dX6_sits_72 (by decide) ?_
            exact ih26 v3_7 v4_8 h _ _ _ hP hD hS (lv_sub hl [2, 3, 4, 1, 0] rfl)
          · have h := (if_neg c_).symm.trans h
            refine lv_iconst (v := 1) hx hb dX6_sits_59 (by decide) ?_
            refine lv_iload hx hb dX6_sits_60 (lv_at hl 4 rfl) ?_
            refine lv_ishl hx hb dX6_sits_62 ?_
            refine lv_goto (tgt := 67) hx hb dX6_sits_63 (by decide) ?_
            refine lv_ior hx hb dX6_sits_67 ?_
            refine lv_topi (fun v3_9 e_v3_9 => ?_)
            have h := lt_use e_v3_9 h
            refine lv_istore_n (lv' := [(3, .int v3_9), (0, .ref h0), (1, .int v1), (2, .int v2), (4, .int v4)]) hx hb dX6_sits_68 rfl hl (by decide) rfl (fun ls hl => ?_)
            obtain ⟨v4_10, e_v4_10⟩ : ∃ z : Int32, z = (v4 + 1) := ⟨_, rfl⟩
            have h := lt_use e_v4_10 h
            refine lv_iinc (v := v4_10) (lv' := [(4, .int v4_10), (3, .int v3_9), (0, .ref h0), (1, .int v1), (2, .int v2)]) hx hb dX6_sits_69 hl (k := 4) rfl (by rw [e_v4_10]; rfl) (by decide) rfl (fun ls hl => ?_)
            refine lv_goto (tgt := 26) hx hb dX6_sits_72 (by decide) ?_
            exact ih26 v3_9 v4_10 h _ _ _ hP hD hS (lv_sub hl [2, 3, 4, 1, 0] rfl)
  unfold m_X6_sits at h
  refine lv_aload_n hx hb dX6_sits_0 rfl (lv_at hl 0 rfl) ?_
  refine lv_iconst (v := 0) hx hb dX6_sits_1 (by decide) ?_
  refine va_put (D := (dC, dI)) (ci := 6) (v := .int 0) (ty := .int) (C := RX6) (T := TX6) (N := 29) hx hb hts hiX6 tyX6 tyX6_ok nmX6 hown hK hP hD hS 0 rfl rfl 0 (by decide) (hts (.fieldLink RX6 62 "OptionLatticeModel" "thrown" "I") (by decide +kernel)) (fun _ h9 => h9) rfl (by decide +kernel) rfl rfl (Nat.le_of_ble_eq_true rfl) dX6_sits_2 (fun H locs hP hD hS => ?_)
  have hP : va_P (dC, dI) vwCl [(h0, .inr (6, [.int 0, .int told_, .ref h0_row, .int columns_, .int rooms_, .int many_, .ref h0_subjectOf, .ref h0_teacherOf, .ref h0_seatsOf, .ref h0_columnOf, .ref h0_barsOf, .int pupils_, .ref h0_choices, .int kept_, .ref h0_tape, .int taped_, .int at_, .int to_, .int digit_, .int number_, .ref h0_was, .ref h0_readChoices, .int readMany_, .ref h0_open, .ref h0_wayOf, .int bestThen_, .ref h0_cure, .ref h0_left, .ref h0_satIn])), (h0_row, .inl (cyI, 32, .inl row_)), (h0_subjectOf, .inl (cyI, 17, .inl subjectOf_)), (h0_seatsOf, .inl (cyI, 17, .inl seatsOf_)), (h0_columnOf, .inl (cyI, 17, .inl columnOf_)), (h0_choices, .inl (cyI, 24, .inl choices_)), (h0_left, .inl (cyI, 17, .inl left_)), (h0_satIn, .inl (cyI, 24, .inl satIn_))] H := hP
  have hD : va_D A [(h0, .inr (6, [.int 0, .int told_, .ref h0_row, .int columns_, .int rooms_, .int many_, .ref h0_subjectOf, .ref h0_teacherOf, .ref h0_seatsOf, .ref h0_columnOf, .ref h0_barsOf, .int pupils_, .ref h0_choices, .int kept_, .ref h0_tape, .int taped_, .int at_, .int to_, .int digit_, .int number_, .ref h0_was, .ref h0_readChoices, .int readMany_, .ref h0_open, .ref h0_wayOf, .int bestThen_, .ref h0_cure, .ref h0_left, .ref h0_satIn])), (h0_row, .inl (cyI, 32, .inl row_)), (h0_subjectOf, .inl (cyI, 17, .inl subjectOf_)), (h0_seatsOf, .inl (cyI, 17, .inl seatsOf_)), (h0_columnOf, .inl (cyI, 17, .inl columnOf_)), (h0_choices, .inl (cyI, 24, .inl choices_)), (h0_left, .inl (cyI, 17, .inl left_)), (h0_satIn, .inl (cyI, 24, .inl satIn_))] := hD
  refine lv_aload_n hx hb dX6_sits_5 rfl (lv_at hl 0 rfl) ?_
  refine lv_iload_n hx hb dX6_sits_6 rfl (lv_at hl 1 rfl) ?_
  obtain ⟨r_11, hq, h⟩ := bd1_some h
  refine uV_i (b := h0) (As := [.int v1]) (rest := []) ⟨hx, hb, hml, hown, hts⟩ (c_X6_isSection l dC dI cyC cyI cyJ h0 h0_row h0_subjectOf h0_teacherOf h0_seatsOf h0_columnOf h0_barsOf h0_choices h0_tape h0_was h0_readChoices h0_open h0_wayOf h0_cure h0_left h0_satIn 0 told_ columns_ rooms_ many_ pupils_ kept_ taped_ at_ to_ digit_ number_ readMany_ bestThen_ v1 r_11 hq) (cwV 1 hts gX6_sits_X6_isSection rfl rfl rfl (by decide +kernel) ⟨Nat.le_of_ble_eq_true rfl, Nat.le_of_ble_eq_true rfl⟩) hK hE hA hP hD hS [0] rfl rfl rfl 6 0 rfl rfl rfl hl.1 rfl (Nat.le_of_ble_eq_true rfl) ⟨Nat.zero_le _, Nat.zero_le _⟩ dX6_sits_7 (fun H locs hP hD hS => ?_)
  have hP : va_P (dC, dI) vwCl [(h0, .inr (6, [.int 0, .int told_, .ref h0_row, .int columns_, .int rooms_, .int many_, .ref h0_subjectOf, .ref h0_teacherOf, .ref h0_seatsOf, .ref h0_columnOf, .ref h0_barsOf, .int pupils_, .ref h0_choices, .int kept_, .ref h0_tape, .int taped_, .int at_, .int to_, .int digit_, .int number_, .ref h0_was, .ref h0_readChoices, .int readMany_, .ref h0_open, .ref h0_wayOf, .int bestThen_, .ref h0_cure, .ref h0_left, .ref h0_satIn])), (h0_row, .inl (cyI, 32, .inl row_)), (h0_subjectOf, .inl (cyI, 17, .inl subjectOf_)), (h0_seatsOf, .inl (cyI, 17, .inl seatsOf_)), (h0_columnOf, .inl (cyI, 17, .inl columnOf_)), (h0_choices, .inl (cyI, 24, .inl choices_)), (h0_left, .inl (cyI, 17, .inl left_)), (h0_satIn, .inl (cyI, 24, .inl satIn_))] H := hP
  have hD : va_D A [(h0, .inr (6, [.int 0, .int told_, .ref h0_row, .int columns_, .int rooms_, .int many_, .ref h0_subjectOf, .ref h0_teacherOf, .ref h0_seatsOf, .ref h0_columnOf, .ref h0_barsOf, .int pupils_, .ref h0_choices, .int kept_, .ref h0_tape, .int taped_, .int at_, .int to_, .int digit_, .int number_, .ref h0_was, .ref h0_readChoices, .int readMany_, .ref h0_open, .ref h0_wayOf, .int bestThen_, .ref h0_cure, .ref h0_left, .ref h0_satIn])), (h0_row, .inl (cyI, 32, .inl row_)), (h0_subjectOf, .inl (cyI, 17, .inl subjectOf_)), (h0_seatsOf, .inl (cyI, 17, .inl seatsOf_)), (h0_columnOf, .inl (cyI, 17, .inl columnOf_)), (h0_choices, .inl (cyI, 24, .inl choices_)), (h0_left, .inl (cyI, 17, .inl left_)), (h0_satIn, .inl (cyI, 24, .inl satIn_))] := hD
  refine lv_if_ne (tgt := 15) hx hb dX6_sits_10 (by decide) (fun c_ => ?_) (fun c_ => ?_)
  · have h := (if_neg c_).symm.trans h
    refine lv_aload_n hx hb dX6_sits_15 rfl (lv_at hl 0 rfl) ?_
    refine lv_iconst (v := 0) hx hb dX6_sits_16 (by decide) ?_
    obtain ⟨r_12, left_13, satIn_14, hq, h⟩ := bd3_some h
    refine uV_i (b := h0) (As := [.int 0]) (rest := []) ⟨hx, hb, hml, hown, hts⟩ (c_X6_seatsAll l dC dI cyC cyI cyJ h0 h0_row h0_subjectOf h0_teacherOf h0_seatsOf h0_columnOf h0_barsOf h0_choices h0_tape h0_was h0_readChoices h0_open h0_wayOf h0_cure h0_left h0_satIn 0 told_ columns_ rooms_ many_ pupils_ kept_ taped_ at_ to_ digit_ number_ readMany_ bestThen_ subjectOf_ seatsOf_ columnOf_ choices_ left_ satIn_ 0 r_12 left_13 satIn_14 hq) (cwV 1 hts gX6_sits_X6_seatsAll rfl rfl rfl (by decide +kernel) ⟨Nat.le_of_ble_eq_true rfl, Nat.le_of_ble_eq_true rfl⟩) hK hE hA hP hD hS [0, 2, 3, 4, 5, 6, 7] rfl rfl rfl 6 0 rfl rfl rfl hl.1 rfl (Nat.le_of_ble_eq_true rfl) ⟨Nat.zero_le _, Nat.zero_le _⟩ dX6_sits_17 (fun H locs hP hD hS => ?_)
    have hP : va_P (dC, dI) vwCl [(h0, .inr (6, [.int 0, .int told_, .ref h0_row, .int columns_, .int rooms_, .int many_, .ref h0_subjectOf, .ref h0_teacherOf, .ref h0_seatsOf, .ref h0_columnOf, .ref h0_barsOf, .int pupils_, .ref h0_choices, .int kept_, .ref h0_tape, .int taped_, .int at_, .int to_, .int digit_, .int number_, .ref h0_was, .ref h0_readChoices, .int readMany_, .ref h0_open, .ref h0_wayOf, .int bestThen_, .ref h0_cure, .ref h0_left, .ref h0_satIn])), (h0_row, .inl (cyI, 32, .inl row_)), (h0_subjectOf, .inl (cyI, 17, .inl subjectOf_)), (h0_seatsOf, .inl (cyI, 17, .inl seatsOf_)), (h0_columnOf, .inl (cyI, 17, .inl columnOf_)), (h0_choices, .inl (cyI, 24, .inl choices_)), (h0_left, .inl (cyI, 17, .inl left_13)), (h0_satIn, .inl (cyI, 24, .inl satIn_14))] H := hP
    have hD : va_D A [(h0, .inr (6, [.int 0, .int told_, .ref h0_row, .int columns_, .int rooms_, .int many_, .ref h0_subjectOf, .ref h0_teacherOf, .ref h0_seatsOf, .ref h0_columnOf, .ref h0_barsOf, .int pupils_, .ref h0_choices, .int kept_, .ref h0_tape, .int taped_, .int at_, .int to_, .int digit_, .int number_, .ref h0_was, .ref h0_readChoices, .int readMany_, .ref h0_open, .ref h0_wayOf, .int bestThen_, .ref h0_cure, .ref h0_left, .ref h0_satIn])), (h0_row, .inl (cyI, 32, .inl row_)), (h0_subjectOf, .inl (cyI, 17, .inl subjectOf_)), (h0_seatsOf, .inl (cyI, 17, .inl seatsOf_)), (h0_columnOf, .inl (cyI, 17, .inl columnOf_)), (h0_choices, .inl (cyI, 24, .inl choices_)), (h0_left, .inl (cyI, 17, .inl left_13)), (h0_satIn, .inl (cyI, 24, .inl satIn_14))] := hD
    refine lv_istore_n (lv' := [(2, .int r_12), (0, .ref h0), (1, .int v1)]) hx hb dX6_sits_20 rfl hl (by decide) rfl (fun ls hl => ?_)
    refine lv_iconst (v := 0) hx hb dX6_sits_21 (by decide) ?_
    refine lv_istore_n (lv' := [(3, .int 0), (2, .int r_12), (0, .ref h0), (1, .int v1)]) hx hb dX6_sits_22 rfl hl (by decide) rfl (fun ls hl => ?_)
    refine lv_iconst (v := 0) hx hb dX6_sits_23 (by decide) ?_
    refine lv_istore (lv' := [(4, .int 0), (3, .int 0), (2, .int r_12), (0, .ref h0), (1, .int v1)]) hx hb dX6_sits_24 hl (by decide) rfl (fun ls hl => ?_)
    exact L26 r_12 0 left_13 satIn_14 1100 0 0 h _ _ _ hP hD hS (lv_sub hl [3, 4, 2, 1, 0] rfl)
  · have h := (if_pos c_).symm.trans h
    refine lv_iconst (v := (-1)) hx hb dX6_sits_13 (by decide) ?_
    have h : some ((-1), 0, told_, row_, left_, satIn_) = some (rr, o0, o1, o2, o3, o4) := h
    have z0 := Option.some.inj h
    obtain ⟨rfl, z1⟩ := Prod.mk.inj z0
    obtain ⟨rfl, z2⟩ := Prod.mk.inj z1
    obtain ⟨rfl, z3⟩ := Prod.mk.inj z2
    obtain ⟨rfl, z4⟩ := Prod.mk.inj z3
    obtain ⟨rfl, z5⟩ := Prod.mk.inj z4
    obtain rfl := z5
    exact hret _ _ _ _ hP hS rfl dX6_sits_14

def m_X6_firstFull_75 (v2 : Int32) (v3 : Int32) (rec2 : Int32 → Option (Int32)) : Option (Int32) :=
  (if v3 = 0 then lt' (v2 + 1) (fun v2_1 => rec2 v2_1) else some v2)
def m_X6_firstFull_17 (many_ : Int32) (subjectOf_ : Nat → Int32) (columnOf_ : Nat → Int32) (left_ : Nat → Int32) (v2 : Int32) (rec2 : Int32 → Option (Int32)) (rec17 : Int32 → Int32 → Option (Int32)) : Int32 → Int32 → Option (Int32) := fun v3 v4 =>
  (if many_ ≤ v4 then m_X6_firstFull_75 v2 v3 rec2 else (if v3 = 0 then m_X6_firstFull_75 v2 v3 rec2 else gd (inb v4 17) ((if (subjectOf_ v4.toNatClampNeg) = v2 then gd (inb v4 17) ((if (columnOf_ v4.toNatClampNeg) = (-2) then lt' (v4 + 1) (fun v4_3 => rec17 1 v4_3) else gd (inb v4 17) ((if (left_ v4.toNatClampNeg) = 0 then lt' (v4 + 1) (fun v4_5 => rec17 1 v4_5) else lt' (v4 + 1) (fun v4_4 => rec17 0 v4_4))))) else lt' (v4 + 1) (fun v4_2 => rec17 1 v4_2)))))
def m_X6_firstFull_2 (many_ : Int32) (subjectOf_ : Nat → Int32) (columnOf_ : Nat → Int32) (left_ : Nat → Int32) (v1 : Int32) (rec2 : Int32 → Option (Int32)) : Int32 → Option (Int32) := fun v2 =>
  (if 10 ≤ v2 then some (-1) else bd1 (m_X6_has v1 v2) (fun r_6 => it2 (m_X6_firstFull_17 many_ subjectOf_ columnOf_ left_ v2 rec2) 1100 r_6 0))
def m_X6_firstFull (many_ : Int32) (subjectOf_ : Nat → Int32) (columnOf_ : Nat → Int32) (left_ : Nat → Int32) (v1 : Int32) : Option (Int32) :=
  it1 (m_X6_firstFull_2 many_ subjectOf_ columnOf_ left_ v1) 1100 0
abbrev rmX6_firstFull : Room := { frames := 1, cells := 0, slots := 0, locals := 21 }
set_option maxHeartbeats 4000000 in
set_option maxRecDepth 100000 in
theorem c_X6_firstFull (l : Launch) (dC : Nat → ClassId) (dI : Nat → Nat → Nat) (cyC cyI cyJ : ClassId) (h0 h0_row h0_subjectOf h0_teacherOf h0_seatsOf h0_columnOf h0_barsOf h0_choices h0_tape h0_was h0_readChoices h0_open h0_wayOf h0_cure h0_left h0_satIn : Nat) (thrown_ : Int32) (told_ : Int32) (columns_ : Int32) (rooms_ : Int32) (many_ : Int32) (pupils_ : Int32) (kept_ : Int32) (taped_ : Int32) (at_ : Int32) (to_ : Int32) (digit_ : Int32) (number_ : Int32) (readMany_ : Int32) (bestThen_ : Int32) (subjectOf_ : Nat → Int32) (columnOf_ : Nat → Int32) (left_ : Nat → Int32) (v1 : Int32) (rr : Int32) (h : m_X6_firstFull many_ subjectOf_ columnOf_ left_ v1 = some rr) : uMi l yX6_firstFull wsX6_firstFull rmX6_firstFull (dC, dI) [(cyC, .char), (cyI, .int), (cyJ, .long)] [.ref h0, .int v1] [(h0, .inr (6, [.int thrown_, .int told_, .ref h0_row, .int columns_, .int rooms_, .int many_, .ref h0_subjectOf, .ref h0_teacherOf, .ref h0_seatsOf, .ref h0_columnOf, .ref h0_barsOf, .int pupils_, .ref h0_choices, .int kept_, .ref h0_tape, .int taped_, .int at_, .int to_, .int digit_, .int number_, .ref h0_was, .ref h0_readChoices, .int readMany_, .ref h0_open, .ref h0_wayOf, .int bestThen_, .ref h0_cure, .ref h0_left, .ref h0_satIn])), (h0_subjectOf, .inl (cyI, 17, .inl subjectOf_)), (h0_columnOf, .inl (cyI, 17, .inl columnOf_)), (h0_left, .inl (cyI, 17, .inl left_))] [(h0, .inr (6, [.int thrown_, .int told_, .ref h0_row, .int columns_, .int rooms_, .int many_, .ref h0_subjectOf, .ref h0_teacherOf, .ref h0_seatsOf, .ref h0_columnOf, .ref h0_barsOf, .int pupils_, .ref h0_choices, .int kept_, .ref h0_tape, .int taped_, .int at_, .int to_, .int digit_, .int number_, .ref h0_was, .ref h0_readChoices, .int readMany_, .ref h0_open, .ref h0_wayOf, .int bestThen_, .ref h0_cure, .ref h0_left, .ref h0_satIn])), (h0_subjectOf, .inl (cyI, 17, .inl subjectOf_)), (h0_columnOf, .inl (cyI, 17, .inl columnOf_)), (h0_left, .inl (cyI, 17, .inl left_))] rr := by
  refine uMi.of (cc := cX6_firstFull) (maxL := 5) (by decide) rfl (Nat.le_of_ble_eq_true rfl) (fun p e s m args below meth c A ls Q hx hb hml hown hts hA hP hK hD hE hS hl hret => ?_)
  have hown : s.vm.findClass RX6 = some m.cls := hown
  have hl : lv_has ls 5 [(0, .ref h0), (1, .int v1)] := hl
  have hiX6 : ∀ w ∈ u_ws RX6 TX6 29, w ∈ wsX6_firstFull := fun _ h9 => List.mem_cons_of_mem _ (List.mem_append_right _ h9)
  have L2 : ∀ (n2 : Nat), ∀ (v2 : Int32), it1 (m_X6_firstFull_2 many_ subjectOf_ columnOf_ left_ v1) n2 v2 = some rr → ∀ (H : Heap) (locs : List Loc) (ls : Array Slot), va_P (dC, dI) vwCl [(h0, .inr (6, [.int thrown_, .int told_, .ref h0_row, .int columns_, .int rooms_, .int many_, .ref h0_subjectOf, .ref h0_teacherOf, .ref h0_seatsOf, .ref h0_columnOf, .ref h0_barsOf, .int pupils_, .ref h0_choices, .int kept_, .ref h0_tape, .int taped_, .int at_, .int to_, .int digit_, .int number_, .ref h0_was, .ref h0_readChoices, .int readMany_, .ref h0_open, .ref h0_wayOf, .int bestThen_, .ref h0_cure, .ref h0_left, .ref h0_satIn])), (h0_subjectOf, .inl (cyI, 17, .inl subjectOf_)), (h0_columnOf, .inl (cyI, 17, .inl columnOf_)), (h0_left, .inl (cyI, 17, .inl left_))] H → va_D A [(h0, .inr (6, [.int thrown_, .int told_, .ref h0_row, .int columns_, .int rooms_, .int many_, .ref h0_subjectOf, .ref h0_teacherOf, .ref h0_seatsOf, .ref h0_columnOf, .ref h0_barsOf, .int pupils_, .ref h0_choices, .int kept_, .ref h0_tape, .int taped_, .int at_, .int to_, .int digit_, .int number_, .ref h0_was, .ref h0_readChoices, .int readMany_, .ref h0_open, .ref h0_wayOf, .int bestThen_, .ref h0_cure, .ref h0_left, .ref h0_satIn])), (h0_subjectOf, .inl (cyI, 17, .inl subjectOf_)), (h0_columnOf, .inl (cyI, 17, .inl columnOf_)), (h0_left, .inl (cyI, 17, .inl left_))] → va_S A s.heap H locs → lv_has ls 5 [(0, .ref h0), (1, .int v1), (2, .int v2)] → W p l e rmX6_firstFull s m args below meth c H locs 0 0 Q (F0 m 2 ls []) := by
    intro n2
    induction n2 with
    | zero => intro v2 h; exact absurd h (fun z => it1_z z)
    | succ n2 ih2 =>
      have J75 : ∀ (v2 : Int32), ∀ (v3 : Int32), m_X6_firstFull_75 v2 v3 (it1 (m_X6_firstFull_2 many_ subjectOf_ columnOf_ left_ v1) n2) = some rr → ∀ (H : Heap) (locs : List Loc) (ls : Array Slot), va_P (dC, dI) vwCl [(h0, .inr (6, [.int thrown_, .int told_, .ref h0_row, .int columns_, .int rooms_, .int many_, .ref h0_subjectOf, .ref h0_teacherOf, .ref h0_seatsOf, .ref h0_columnOf, .ref h0_barsOf, .int pupils_, .ref h0_choices, .int kept_, .ref h0_tape, .int taped_, .int at_, .int to_, .int digit_, .int number_, .ref h0_was, .ref h0_readChoices, .int readMany_, .ref h0_open, .ref h0_wayOf, .int bestThen_, .ref h0_cure, .ref h0_left, .ref h0_satIn])), (h0_subjectOf, .inl (cyI, 17, .inl subjectOf_)), (h0_columnOf, .inl (cyI, 17, .inl columnOf_)), (h0_left, .inl (cyI, 17, .inl left_))] H → va_D A [(h0, .inr (6, [.int thrown_, .int told_, .ref h0_row, .int columns_, .int rooms_, .int many_, .ref h0_subjectOf, .ref h0_teacherOf, .ref h0_seatsOf, .ref h0_columnOf, .ref h0_barsOf, .int pupils_, .ref h0_choices, .int kept_, .ref h0_tape, .int taped_, .int at_, .int to_, .int digit_, .int number_, .ref h0_was, .ref h0_readChoices, .int readMany_, .ref h0_open, .ref h0_wayOf, .int bestThen_, .ref h0_cure, .ref h0_left, .ref h0_satIn])), (h0_subjectOf, .inl (cyI, 17, .inl subjectOf_)), (h0_columnOf, .inl (cyI, 17, .inl columnOf_)), (h0_left, .inl (cyI, 17, .inl left_))] → va_S A s.heap H locs → lv_has ls 5 [(0, .ref h0), (1, .int v1), (2, .int v2), (3, .int v3)] → W p l e rmX6_firstFull s m args below meth c H locs 0 0 Q (F0 m 75 ls []) := by
        intro v2 v3 h H locs ls hP hD hS hl
        unfold m_X6_firstFull_75 at h
        refine lv_iload_n hx hb dX6_firstFull_75 rfl (lv_at hl 3 rfl) ?_
        refine lv_if_eq (tgt := 81) hx hb dX6_firstFull_76 (by decide) (fun c_ => ?_) (fun c_ => ?_)
        · have h := (if_pos c_).symm.trans h
          obtain ⟨v2_1, e_v2_1⟩ : ∃ z : Int32, z = (v2 + 1) := ⟨_, rfl⟩
          have h := lt_use e_v2_1 h
          refine lv_iinc (v := v2_1) (lv' := [(2, .int v2_1), (0, .ref h0), (1, .int v1), (3, .int v3)]) hx hb dX6_firstFull_81 hl (k := 2) rfl (by rw [e_v2_1]; rfl) (by decide) rfl (fun ls hl => ?_)
          refine lv_goto (tgt := 2) hx hb dX6_firstFull_84 (by decide) ?_
          exact ih2 v2_1 h _ _ _ hP hD hS (lv_sub hl [1, 2, 0] rfl)
        · have h := (if_neg c_).symm.trans h
          refine lv_iload_n hx hb dX6_firstFull_79 rfl (lv_at hl 2 rfl) ?_
          have h : some v2 = some rr := h
          have z0 := Option.some.inj h
          obtain rfl := z0
          exact hret _ _ _ _ hP hS rfl dX6_firstFull_80
      have L17 : ∀ (v2 : Int32), ∀ (n17 : Nat), ∀ (v3 : Int32), ∀ (v4 : Int32), it2 (m_X6_firstFull_17 many_ subjectOf_ columnOf_ left_ v2 (it1 (m_X6_firstFull_2 many_ subjectOf_ columnOf_ left_ v1) n2)) n17 v3 v4 = some rr → ∀ (H : Heap) (locs : List Loc) (ls : Array Slot), va_P (dC, dI) vwCl [(h0, .inr (6, [.int thrown_, .int told_, .ref h0_row, .int columns_, .int rooms_, .int many_, .ref h0_subjectOf, .ref h0_teacherOf, .ref h0_seatsOf, .ref h0_columnOf, .ref h0_barsOf, .int pupils_, .ref h0_choices, .int kept_, .ref h0_tape, .int taped_, .int at_, .int to_, .int digit_, .int number_, .ref h0_was, .ref h0_readChoices, .int readMany_, .ref h0_open, .ref h0_wayOf, .int bestThen_, .ref h0_cure, .ref h0_left, .ref h0_satIn])), (h0_subjectOf, .inl (cyI, 17, .inl subjectOf_)), (h0_columnOf, .inl (cyI, 17, .inl columnOf_)), (h0_left, .inl (cyI, 17, .inl left_))] H → va_D A [(h0, .inr (6, [.int thrown_, .int told_, .ref h0_row, .int columns_, .int rooms_, .int many_, .ref h0_subjectOf, .ref h0_teacherOf, .ref h0_seatsOf, .ref h0_columnOf, .ref h0_barsOf, .int pupils_, .ref h0_choices, .int kept_, .ref h0_tape, .int taped_, .int at_, .int to_, .int digit_, .int number_, .ref h0_was, .ref h0_readChoices, .int readMany_, .ref h0_open, .ref h0_wayOf, .int bestThen_, .ref h0_cure, .ref h0_left, .ref h0_satIn])), (h0_subjectOf, .inl (cyI, 17, .inl subjectOf_)), (h0_columnOf, .inl (cyI, 17, .inl columnOf_)), (h0_left, .inl (cyI, 17, .inl left_))] → va_S A s.heap H locs → lv_has ls 5 [(0, .ref h0), (1, .int v1), (2, .int v2), (3, .int v3), (4, .int v4)] → W p l e rmX6_firstFull s m args below meth c H locs 0 0 Q (F0 m 17 ls []) := by
        intro v2 n17
        induction n17 with
        | zero => intro v3 v4 h; exact absurd h (fun z => it2_z z)
        | succ n17 ih17 =>
          intro v3 v4 h H locs ls hP hD hS hl
          have h : m_X6_firstFull_17 many_ subjectOf_ columnOf_ left_ v2 (it1 (m_X6_firstFull_2 many_ subjectOf_ columnOf_ left_ v1) n2) (it2 (m_X6_firstFull_17 many_ subjectOf_ columnOf_ left_ v2 (it1 (m_X6_firstFull_2 many_ subjectOf_ columnOf_ left_ v1) n2)) n17) v3 v4 = some rr := h
          unfold m_X6_firstFull_17 at h
          refine lv_iload hx hb dX6_firstFull_17 (lv_at hl 4 rfl) ?_
          refine lv_aload_n hx hb dX6_firstFull_19 rfl (lv_at hl 0 rfl) ?_
          refine va_get (D := (dC, dI)) (ci := 6) (v := .int many_) (C := RX6) (T := TX6) (N := 29) hx hb hts hiX6 hown hK hP 0 rfl rfl 5 (by decide) (hts (.fieldLink RX6 87 "OptionLatticeModel" "many" "I") (by decide +kernel)) (fun _ h9 => h9) rfl dX6_firstFull_20 ?_
          refine lv_icmp_ge (tgt := 75) hx hb dX6_firstFull_23 (by decide) (fun c_ => ?_) (fun c_ => ?_)
          · have h := (if_pos c_).symm.trans h
            exact J75 v2 v3 h _ _ _ hP hD hS (lv_sub hl [0, 1, 2, 3] rfl)
          · have h := (if_neg c_).symm.trans h
            refine lv_iload_n hx hb dX6_firstFull_26 rfl (lv_at hl 3 rfl) ?_
            refine lv_if_eq (tgt := 75) hx hb dX6_firstFull_27 (by decide) (fun c_ => ?_) (fun c_ => ?_)
            · have h := (if_pos c_).symm.trans h
              exact J75 v2 v3 h _ _ _ hP hD hS (lv_sub hl [0, 1, 2, 3] rfl)
            · have h := (if_neg c_).symm.trans h
              refine lv_aload_n hx hb dX6_firstFull_30 rfl (lv_at hl 0 rfl) ?_
              refine va_get (D := (dC, dI)) (ci := 6) (v := .ref h0_subjectOf) (C := RX6) (T := TX6) (N := 29) hx hb hts hiX6 hown hK hP 0 rfl rfl 6 (by decide) (hts (.fieldLink RX6 20 "OptionLatticeModel" "subjectOf" "[I") (by decide +kernel)) (fun _ h9 => h9) rfl dX6_firstFull_31 ?_
              refine lv_iload hx hb dX6_firstFull_34 (lv_at hl 4 rfl) ?_
              obtain ⟨g_, h⟩ := gd_some h
              refine va_iald hx hb hK hP 1 1 rfl rfl (inb_in g_) dX6_firstFull_36 ?_
              refine lv_iload_n hx hb dX6_firstFull_37 rfl (lv_at hl 2 rfl) ?_
              refine lv_icmp_ne (tgt := 63) hx hb dX6_firstFull_38 (by decide) (fun c_ => ?_) (fun c_ => ?_)
              · have h := (if_neg c_).symm.trans h
                refine lv_iconst (v := 1) hx hb dX6_firstFull_63 (by decide) ?_
                refine lv_goto (tgt := 68) hx hb dX6_firstFull_64 (by decide) ?_
                refine lv_istore_n (lv' := [(3, .int 1), (0, .ref h0), (1, .int v1), (2, .int v2), (4, .int v4)]) hx hb dX6_firstFull_68 rfl hl (by decide) rfl (fun ls hl => ?_)
                obtain ⟨v4_2, e_v4_2⟩ : ∃ z : Int32, z = (v4 + 1) := ⟨_, rfl⟩
                have h := lt_use e_v4_2 h
                refine lv_iinc (v := v4_2) (lv' := [(4, .int v4_2), (3, .int 1), (0, .ref h0), (1, .int v1), (2, .int v2)]) hx hb dX6_firstFull_69 hl (k := 4) rfl (by rw [e_v4_2]; rfl) (by decide) rfl (fun ls hl => ?_)
                refine lv_goto (tgt := 17) hx hb dX6_firstFull_72 (by decide) ?_
                exact ih17 1 v4_2 h _ _ _ hP hD hS (lv_sub hl [2, 3, 4, 1, 0] rfl)
              · have h := (if_pos c_).symm.trans h
                refine lv_aload_n hx hb dX6_firstFull_41 rfl (lv_at hl 0 rfl) ?_
                refine va_get (D := (dC, dI)) (ci := 6) (v := .ref h0_columnOf) (C := RX6) (T := TX6) (N := 29) hx hb hts hiX6 hown hK hP 0 rfl rfl 9 (by decide) (hts (.fieldLink RX6 29 "OptionLatticeModel" "columnOf" "[I") (by decide +kernel)) (fun _ h9 => h9) rfl dX6_firstFull_42 ?_
                refine lv_iload hx hb dX6_firstFull_45 (lv_at hl 4 rfl) ?_
                obtain ⟨g_, h⟩ := gd_some h
                refine va_iald hx hb hK hP 2 1 rfl rfl (inb_in g_) dX6_firstFull_47 ?_
                refine lv_bipush (v := (-2)) hx hb dX6_firstFull_48 (by decide) ?_
                refine lv_icmp_eq (tgt := 63) hx hb dX6_firstFull_50 (by decide) (fun c_ => ?_) (fun c_ => ?_)
                · have h := (if_pos c_).symm.trans h
                  refine lv_iconst (v := 1) hx hb dX6_firstFull_63 (by decide) ?_
                  refine lv_goto (tgt := 68) hx hb dX6_firstFull_64 (by decide) ?_
                  refine lv_istore_n (lv' := [(3, .int 1), (0, .ref h0), (1, .int v1), (2, .int v2), (4, .int v4)]) hx hb dX6_firstFull_68 rfl hl (by decide) rfl (fun ls hl => ?_)
                  obtain ⟨v4_3, e_v4_3⟩ : ∃ z : Int32, z = (v4 + 1) := ⟨_, rfl⟩
                  have h := lt_use e_v4_3 h
                  refine lv_iinc (v := v4_3) (lv' := [(4, .int v4_3), (3, .int 1), (0, .ref h0), (1, .int v1), (2, .int v2)]) hx hb dX6_firstFull_69 hl (k := 4) rfl (by rw [e_v4_3]; rfl) (by decide) rfl (fun ls hl => ?_)
                  refine lv_goto (tgt := 17) hx hb dX6_firstFull_72 (by decide) ?_
                  exact ih17 1 v4_3 h _ _ _ hP hD hS (lv_sub hl [2, 3, 4, 1, 0] rfl)
                · have h := (if_neg c_).symm.trans h
                  refine lv_aload_n hx hb dX6_firstFull_53 rfl (lv_at hl 0 rfl) ?_
                  refine va_get (D := (dC, dI)) (ci := 6) (v := .ref h0_left) (C := RX6) (T := TX6) (N := 29) hx hb hts hiX6 hown hK hP 0 rfl rfl 27 (by decide) (hts (.fieldLink RX6 56 "OptionLatticeModel" "left" "[I") (by decide +kernel)) (fun _ h9 => h9) rfl dX6_firstFull_54 ?_
                  refine lv_iload hx hb dX6_firstFull_57 (lv_at hl 4 rfl) ?_
                  obtain ⟨g_, h⟩ := gd_some h
                  refine va_iald hx hb hK hP 3 1 rfl rfl (inb_in g_) dX6_firstFull_59 ?_
                  refine lv_if_ne (tgt := 67) hx hb dX6_firstFull_60 (by decide) (fun c_ => ?_) (fun c_ => ?_)
                  · have h := (if_neg c_).symm.trans h
                    refine lv_iconst (v := 0) hx hb dX6_firstFull_67 (by decide) ?_
                    refine lv_istore_n (lv' := [(3, .int 0), (0, .ref h0), (1, .int v1), (2, .int v2), (4, .int v4)]) hx hb dX6_firstFull_68 rfl hl (by decide) rfl (fun ls hl => ?_)
                    obtain ⟨v4_4, e_v4_4⟩ : ∃ z : Int32, z = (v4 + 1) := ⟨_, rfl⟩
                    have h := lt_use e_v4_4 h
                    refine lv_iinc (v := v4_4) (lv' := [(4, .int v4_4), (3, .int 0), (0, .ref h0), (1, .int v1), (2, .int v2)]) hx hb dX6_firstFull_69 hl (k := 4) rfl (by rw [e_v4_4]; rfl) (by decide) rfl (fun ls hl => ?_)
                    refine lv_goto (tgt := 17) hx hb dX6_firstFull_72 (by decide) ?_
                    exact ih17 0 v4_4 h _ _ _ hP hD hS (lv_sub hl [2, 3, 4, 1, 0] rfl)
                  · have h := (if_pos c_).symm.trans h
                    refine lv_iconst (v := 1) hx hb dX6_firstFull_63 (by decide) ?_
                    refine lv_goto (tgt := 68) hx hb dX6_firstFull_64 (by decide) ?_
                    refine lv_istore_n (lv' := [(3, .int 1), (0, .ref h0), (1, .int v1), (2, .int v2), (4, .int v4)]) hx hb dX6_firstFull_68 rfl hl (by decide) rfl (fun ls hl => ?_)
                    obtain ⟨v4_5, e_v4_5⟩ : ∃ z : Int32, z = (v4 + 1) := ⟨_, rfl⟩
                    have h := lt_use e_v4_5 h
                    refine lv_iinc (v := v4_5) (lv' := [(4, .int v4_5), (3, .int 1), (0, .ref h0), (1, .int v1), (2, .int v2)]) hx hb dX6_firstFull_69 hl (k := 4) rfl (by rw [e_v4_5]; rfl) (by decide) rfl (fun ls hl => ?_)
                    refine lv_goto (tgt := 17) hx hb dX6_firstFull_72 (by decide) ?_
                    exact ih17 1 v4_5 h _ _ _ hP hD hS (lv_sub hl [2, 3, 4, 1, 0] rfl)
      intro v2 h H locs ls hP hD hS hl
      have h : m_X6_firstFull_2 many_ subjectOf_ columnOf_ left_ v1 (it1 (m_X6_firstFull_2 many_ subjectOf_ columnOf_ left_ v1) n2) v2 = some rr := h
      unfold m_X6_firstFull_2 at h
      refine lv_iload_n hx hb dX6_firstFull_2 rfl (lv_at hl 2 rfl) ?_
      refine lv_bipush (v := 10) hx hb dX6_firstFull_3 (by decide) ?_
      refine lv_icmp_ge (tgt := 87) hx hb dX6_firstFull_5 (by decide) (fun c_ => ?_) (fun c_ => ?_)
      · have h := (if_pos c_).symm.trans h
        refine lv_iconst (v := (-1)) hx hb dX6_firstFull_87 (by decide) ?_
        have h : some (-1) = some rr := h
        have z0 := Option.some.inj h
        obtain rfl := z0
        exact hret _ _ _ _ hP hS rfl dX6_firstFull_88
      · have h := (if_neg c_).symm.trans h
        refine lv_iload_n hx hb dX6_firstFull_8 rfl (lv_at hl 1 rfl) ?_
        refine lv_iload_n hx hb dX6_firstFull_9 rfl (lv_at hl 2 rfl) ?_
        obtain ⟨r_6, hq, h⟩ := bd1_some h
        refine uS_i (As := [.int v1, .int v2]) (rest := []) ⟨hx, hb, hml, hown, hts⟩ (c_X6_has l dC dI cyC cyI cyJ v1 v2 r_6 hq) (va_cwS 2 hts gX6_firstFull_X6_has rfl rfl rfl (by decide +kernel) ⟨Nat.le_of_ble_eq_true rfl, Nat.le_of_ble_eq_true rfl⟩) hK hE hA hP hD hS [] rfl rfl rfl rfl hl.1 rfl (Nat.le_of_ble_eq_true rfl) ⟨Nat.zero_le _, Nat.zero_le _⟩ dX6_firstFull_10 (fun H locs hP hD hS => ?_)
        have hP : va_P (dC, dI) vwCl [(h0, .inr (6, [.int thrown_, .int told_, .ref h0_row, .int columns_, .int rooms_, .int many_, .ref h0_subjectOf, .ref h0_teacherOf, .ref h0_seatsOf, .ref h0_columnOf, .ref h0_barsOf, .int pupils_, .ref h0_choices, .int kept_, .ref h0_tape, .int taped_, .int at_, .int to_, .int digit_, .int number_, .ref h0_was, .ref h0_readChoices, .int readMany_, .ref h0_open, .ref h0_wayOf, .int bestThen_, .ref h0_cure, .ref h0_left, .ref h0_satIn])), (h0_subjectOf, .inl (cyI, 17, .inl subjectOf_)), (h0_columnOf, .inl (cyI, 17, .inl columnOf_)), (h0_left, .inl (cyI, 17, .inl left_))] H := hP
        have hD : va_D A [(h0, .inr (6, [.int thrown_, .int told_, .ref h0_row, .int columns_, .int rooms_, .int many_, .ref h0_subjectOf, .ref h0_teacherOf, .ref h0_seatsOf, .ref h0_columnOf, .ref h0_barsOf, .int pupils_, .ref h0_choices, .int kept_, .ref h0_tape, .int taped_, .int at_, .int to_, .int digit_, .int number_, .ref h0_was, .ref h0_readChoices, .int readMany_, .ref h0_open, .ref h0_wayOf, .int bestThen_, .ref h0_cure, .ref h0_left, .ref h0_satIn])), (h0_subjectOf, .inl (cyI, 17, .inl subjectOf_)), (h0_columnOf, .inl (cyI, 17, .inl columnOf_)), (h0_left, .inl (cyI, 17, .inl left_))] := hD
        refine lv_istore_n (lv' := [(3, .int r_6), (0, .ref h0), (1, .int v1), (2, .int v2)]) hx hb dX6_firstFull_13 rfl hl (by decide) rfl (fun ls hl => ?_)
        refine lv_iconst (v := 0) hx hb dX6_firstFull_14 (by decide) ?_
        refine lv_istore (lv' := [(4, .int 0), (3, .int r_6), (0, .ref h0), (1, .int v1), (2, .int v2)]) hx hb dX6_firstFull_15 hl (by decide) rfl (fun ls hl => ?_)
        exact L17 v2 1100 r_6 0 h _ _ _ hP hD hS (lv_sub hl [2, 3, 4, 1, 0] rfl)
  unfold m_X6_firstFull at h
  refine lv_iconst (v := 0) hx hb dX6_firstFull_0 (by decide) ?_
  refine lv_istore_n (lv' := [(2, .int 0), (0, .ref h0), (1, .int v1)]) hx hb dX6_firstFull_1 rfl hl (by decide) rfl (fun ls hl => ?_)
  exact L2  1100 0 h _ _ _ hP hD hS (lv_sub hl [1, 2, 0] rfl)

def m_X6_lacking_52 (thrown_ : Int32) (told_ : Int32) (row_ : Nat → Int32) (open_ : Nat → Int32) (left_ : Nat → Int32) (satIn_ : Nat → Int32) (v1 : Int32) (t1 : Int32) (t2 : Int32) : Option (Int32 × Int32 × Int32 × (Nat → Int32) × (Nat → Int32) × (Nat → Int32) × (Nat → Int32)) :=
  bd2 (m_X6_notesTwo told_ row_ t1 t2) (fun told_1 row_2 => some (v1, thrown_, told_1, row_2, open_, left_, satIn_))
def m_X6_lacking_30 (thrown_ : Int32) (told_ : Int32) (many_ : Int32) (row_ : Nat → Int32) (subjectOf_ : Nat → Int32) (columnOf_ : Nat → Int32) (choices_ : Nat → Int32) (open_ : Nat → Int32) (left_ : Nat → Int32) (satIn_ : Nat → Int32) (v1 : Int32) (t0 : Int32) : Option (Int32 × Int32 × Int32 × (Nat → Int32) × (Nat → Int32) × (Nat → Int32) × (Nat → Int32)) :=
  (if t0 = (-1) then m_X6_lacking_52 thrown_ told_ row_ open_ left_ satIn_ v1 t0 (-1) else gd (inb t0 24) (bd1 (m_X6_firstFull many_ subjectOf_ columnOf_ left_ (choices_ t0.toNatClampNeg)) (fun r_3 => m_X6_lacking_52 thrown_ told_ row_ open_ left_ satIn_ v1 t0 r_3)))
def m_X6_lacking (thrown_ : Int32) (told_ : Int32) (columns_ : Int32) (many_ : Int32) (pupils_ : Int32) (row_ : Nat → Int32) (subjectOf_ : Nat → Int32) (seatsOf_ : Nat → Int32) (columnOf_ : Nat → Int32) (choices_ : Nat → Int32) (open_ : Nat → Int32) (left_ : Nat → Int32) (satIn_ : Nat → Int32) : Option (Int32 × Int32 × Int32 × (Nat → Int32) × (Nat → Int32) × (Nat → Int32) × (Nat → Int32)) :=
  bd2 (m_X6_fitting many_ pupils_ subjectOf_ columnOf_ choices_ open_) (fun r_4 open_5 => bd3 (m_X6_seatsAll columns_ many_ pupils_ subjectOf_ seatsOf_ columnOf_ choices_ left_ satIn_ 0) (fun r_6 left_7 satIn_8 => lt' (r_4 &&& (r_6 ^^^ (-1))) (fun v1_9 => (if v1_9 = 0 then m_X6_lacking_30 0 told_ many_ row_ subjectOf_ columnOf_ choices_ open_5 left_7 satIn_8 v1_9 (-1) else bd1 (m_J6_numberOfTrailingZeros_0f7a4 v1_9) (fun r_10 => m_X6_lacking_30 0 told_ many_ row_ subjectOf_ columnOf_ choices_ open_5 left_7 satIn_8 v1_9 r_10)))))
abbrev rmX6_lacking : Room := { frames := 11, cells := 0, slots := 0, locals := 283 }
set_option maxHeartbeats 4000000 in
set_option maxRecDepth 100000 in
theorem c_X6_lacking (l : Launch) (dC : Nat → ClassId) (dI : Nat → Nat → Nat) (cyC cyI cyJ : ClassId) (h0 h0_row h0_subjectOf h0_teacherOf h0_seatsOf h0_columnOf h0_barsOf h0_choices h0_tape h0_was h0_readChoices h0_open h0_wayOf h0_cure h0_left h0_satIn : Nat) (thrown_ : Int32) (told_ : Int32) (columns_ : Int32) (rooms_ : Int32) (many_ : Int32) (pupils_ : Int32) (kept_ : Int32) (taped_ : Int32) (at_ : Int32) (to_ : Int32) (digit_ : Int32) (number_ : Int32) (readMany_ : Int32) (bestThen_ : Int32) (row_ : Nat → Int32) (subjectOf_ : Nat → Int32) (seatsOf_ : Nat → Int32) (columnOf_ : Nat → Int32) (choices_ : Nat → Int32) (open_ : Nat → Int32) (left_ : Nat → Int32) (satIn_ : Nat → Int32) (rr : Int32) (o0 : Int32) (o1 : Int32) (o2 : Nat → Int32) (o3 : Nat → Int32) (o4 : Nat → Int32) (o5 : Nat → Int32) (h : m_X6_lacking thrown_ told_ columns_ many_ pupils_ row_ subjectOf_ seatsOf_ columnOf_ choices_ open_ left_ satIn_ = some (rr, o0, o1, o2, o3, o4, o5)) : uMi l yX6_lacking wsX6_lacking rmX6_lacking (dC, dI) [(cyC, .char), (cyI, .int), (cyJ, .long)] [.ref h0] [(h0, .inr (6, [.int thrown_, .int told_, .ref h0_row, .int columns_, .int rooms_, .int many_, .ref h0_subjectOf, .ref h0_teacherOf, .ref h0_seatsOf, .ref h0_columnOf, .ref h0_barsOf, .int pupils_, .ref h0_choices, .int kept_, .ref h0_tape, .int taped_, .int at_, .int to_, .int digit_, .int number_, .ref h0_was, .ref h0_readChoices, .int readMany_, .ref h0_open, .ref h0_wayOf, .int bestThen_, .ref h0_cure, .ref h0_left, .ref h0_satIn])), (h0_row, .inl (cyI, 32, .inl row_)), (h0_subjectOf, .inl (cyI, 17, .inl subjectOf_)), (h0_seatsOf, .inl (cyI, 17, .inl seatsOf_)), (h0_columnOf, .inl (cyI, 17, .inl columnOf_)), (h0_choices, .inl (cyI, 24, .inl choices_)), (h0_open, .inl (cyI, 10, .inl open_)), (h0_left, .inl (cyI, 17, .inl left_)), (h0_satIn, .inl (cyI, 24, .inl satIn_))] [(h0, .inr (6, [.int o0, .int o1, .ref h0_row, .int columns_, .int rooms_, .int many_, .ref h0_subjectOf, .ref h0_teacherOf, .ref h0_seatsOf, .ref h0_columnOf, .ref h0_barsOf, .int pupils_, .ref h0_choices, .int kept_, .ref h0_tape, .int taped_, .int at_, .int to_, .int digit_, .int number_, .ref h0_was, .ref h0_readChoices, .int readMany_, .ref h0_open, .ref h0_wayOf, .int bestThen_, .ref h0_cure, .ref h0_left, .ref h0_satIn])), (h0_row, .inl (cyI, 32, .inl o2)), (h0_subjectOf, .inl (cyI, 17, .inl subjectOf_)), (h0_seatsOf, .inl (cyI, 17, .inl seatsOf_)), (h0_columnOf, .inl (cyI, 17, .inl columnOf_)), (h0_choices, .inl (cyI, 24, .inl choices_)), (h0_open, .inl (cyI, 10, .inl o3)), (h0_left, .inl (cyI, 17, .inl o4)), (h0_satIn, .inl (cyI, 24, .inl o5))] rr := by
  refine uMi.of (cc := cX6_lacking) (maxL := 3) (by decide) rfl (Nat.le_of_ble_eq_true rfl) (fun p e s m args below meth c A ls Q hx hb hml hown hts hA hP hK hD hE hS hl hret => ?_)
  have hown : s.vm.findClass RX6 = some m.cls := hown
  have hl : lv_has ls 3 [(0, .ref h0)] := hl
  have hiX6 : ∀ w ∈ u_ws RX6 TX6 29, w ∈ wsX6_lacking := fun _ h9 => List.mem_cons_of_mem _ (List.mem_append_right _ h9)
  have J52 : ∀ (v1 : Int32), ∀ (t1 : Int32), ∀ (t2 : Int32), ∀ (thrown_ : Int32), ∀ (open_ : Nat → Int32), ∀ (left_ : Nat → Int32), ∀ (satIn_ : Nat → Int32), m_X6_lacking_52 thrown_ told_ row_ open_ left_ satIn_ v1 t1 t2 = some (rr, o0, o1, o2, o3, o4, o5) → ∀ (H : Heap) (locs : List Loc) (ls : Array Slot), va_P (dC, dI) vwCl [(h0, .inr (6, [.int thrown_, .int told_, .ref h0_row, .int columns_, .int rooms_, .int many_, .ref h0_subjectOf, .ref h0_teacherOf, .ref h0_seatsOf, .ref h0_columnOf, .ref h0_barsOf, .int pupils_, .ref h0_choices, .int kept_, .ref h0_tape, .int taped_, .int at_, .int to_, .int digit_, .int number_, .ref h0_was, .ref h0_readChoices, .int readMany_, .ref h0_open, .ref h0_wayOf, .int bestThen_, .ref h0_cure, .ref h0_left, .ref h0_satIn])), (h0_row, .inl (cyI, 32, .inl row_)), (h0_subjectOf, .inl (cyI, 17, .inl subjectOf_)), (h0_seatsOf, .inl (cyI, 17, .inl seatsOf_)), (h0_columnOf, .inl (cyI, 17, .inl columnOf_)), (h0_choices, .inl (cyI, 24, .inl choices_)), (h0_open, .inl (cyI, 10, .inl open_)), (h0_left, .inl (cyI, 17, .inl left_)), (h0_satIn, .inl (cyI, 24, .inl satIn_))] H → va_D A [(h0, .inr (6, [.int thrown_, .int told_, .ref h0_row, .int columns_, .int rooms_, .int many_, .ref h0_subjectOf, .ref h0_teacherOf, .ref h0_seatsOf, .ref h0_columnOf, .ref h0_barsOf, .int pupils_, .ref h0_choices, .int kept_, .ref h0_tape, .int taped_, .int at_, .int to_, .int digit_, .int number_, .ref h0_was, .ref h0_readChoices, .int readMany_, .ref h0_open, .ref h0_wayOf, .int bestThen_, .ref h0_cure, .ref h0_left, .ref h0_satIn])), (h0_row, .inl (cyI, 32, .inl row_)), (h0_subjectOf, .inl (cyI, 17, .inl subjectOf_)), (h0_seatsOf, .inl (cyI, 17, .inl seatsOf_)), (h0_columnOf, .inl (cyI, 17, .inl columnOf_)), (h0_choices, .inl (cyI, 24, .inl choices_)), (h0_open, .inl (cyI, 10, .inl open_)), (h0_left, .inl (cyI, 17, .inl left_)), (h0_satIn, .inl (cyI, 24, .inl satIn_))] → va_S A s.heap H locs → lv_has ls 3 [(1, .int v1)] → W p l e rmX6_lacking s m args below meth c H locs 0 0 Q (F0 m 52 ls [.int t2, .int t1, .ref h0]) := by
    intro v1 t1 t2 thrown_ open_ left_ satIn_ h H locs ls hP hD hS hl
    unfold m_X6_lacking_52 at h
    obtain ⟨told_1, row_2, hq, h⟩ := bd2_some h
    refine uV_v (b := h0) (As := [.int t1, .int t2]) (rest := []) ⟨hx, hb, hml, hown, hts⟩ (c_X6_notesTwo l dC dI cyC cyI cyJ h0 h0_row h0_subjectOf h0_teacherOf h0_seatsOf h0_columnOf h0_barsOf h0_choices h0_tape h0_was h0_readChoices h0_open h0_wayOf h0_cure h0_left h0_satIn thrown_ told_ columns_ rooms_ many_ pupils_ kept_ taped_ at_ to_ digit_ number_ readMany_ bestThen_ row_ t1 t2 told_1 row_2 hq) (cwV 2 hts gX6_lacking_X6_notesTwo rfl rfl rfl (by decide +kernel) ⟨Nat.le_of_ble_eq_true rfl, Nat.le_of_ble_eq_true rfl⟩) hK hE hA hP hD hS [0, 1] rfl rfl rfl 6 0 rfl rfl rfl hl.1 rfl (Nat.le_of_ble_eq_true rfl) ⟨Nat.zero_le _, Nat.zero_le _⟩ dX6_lacking_52 (fun H locs hP hD hS => ?_)
    have hP : va_P (dC, dI) vwCl [(h0, .inr (6, [.int thrown_, .int told_1, .ref h0_row, .int columns_, .int rooms_, .int many_, .ref h0_subjectOf, .ref h0_teacherOf, .ref h0_seatsOf, .ref h0_columnOf, .ref h0_barsOf, .int pupils_, .ref h0_choices, .int kept_, .ref h0_tape, .int taped_, .int at_, .int to_, .int digit_, .int number_, .ref h0_was, .ref h0_readChoices, .int readMany_, .ref h0_open, .ref h0_wayOf, .int bestThen_, .ref h0_cure, .ref h0_left, .ref h0_satIn])), (h0_row, .inl (cyI, 32, .inl row_2)), (h0_subjectOf, .inl (cyI, 17, .inl subjectOf_)), (h0_seatsOf, .inl (cyI, 17, .inl seatsOf_)), (h0_columnOf, .inl (cyI, 17, .inl columnOf_)), (h0_choices, .inl (cyI, 24, .inl choices_)), (h0_open, .inl (cyI, 10, .inl open_)), (h0_left, .inl (cyI, 17, .inl left_)), (h0_satIn, .inl (cyI, 24, .inl satIn_))] H := hP
    have hD : va_D A [(h0, .inr (6, [.int thrown_, .int told_1, .ref h0_row, .int columns_, .int rooms_, .int many_, .ref h0_subjectOf, .ref h0_teacherOf, .ref h0_seatsOf, .ref h0_columnOf, .ref h0_barsOf, .int pupils_, .ref h0_choices, .int kept_, .ref h0_tape, .int taped_, .int at_, .int to_, .int digit_, .int number_, .ref h0_was, .ref h0_readChoices, .int readMany_, .ref h0_open, .ref h0_wayOf, .int bestThen_, .ref h0_cure, .ref h0_left, .ref h0_satIn])), (h0_row, .inl (cyI, 32, .inl row_2)), (h0_subjectOf, .inl (cyI, 17, .inl subjectOf_)), (h0_seatsOf, .inl (cyI, 17, .inl seatsOf_)), (h0_columnOf, .inl (cyI, 17, .inl columnOf_)), (h0_choices, .inl (cyI, 24, .inl choices_)), (h0_open, .inl (cyI, 10, .inl open_)), (h0_left, .inl (cyI, 17, .inl left_)), (h0_satIn, .inl (cyI, 24, .inl satIn_))] := hD
    refine lv_iload_n hx hb dX6_lacking_55 rfl (lv_at hl 0 rfl) ?_
    have h : some (v1, thrown_, told_1, row_2, open_, left_, satIn_) = some (rr, o0, o1, o2, o3, o4, o5) := h
    have z0 := Option.some.inj h
    obtain ⟨rfl, z1⟩ := Prod.mk.inj z0
    obtain ⟨rfl, z2⟩ := Prod.mk.inj z1
    obtain ⟨rfl, z3⟩ := Prod.mk.inj z2
    obtain ⟨rfl, z4⟩ := Prod.mk.inj z3
    obtain ⟨rfl, z5⟩ := Prod.mk.inj z4
    obtain ⟨rfl, z6⟩ := Prod.mk.inj z5
    obtain rfl := z6
    exact hret _ _ _ _ hP hS rfl dX6_lacking_56
  have J30 : ∀ (v1 : Int32), ∀ (t0 : Int32), ∀ (thrown_ : Int32), ∀ (open_ : Nat → Int32), ∀ (left_ : Nat → Int32), ∀ (satIn_ : Nat → Int32), m_X6_lacking_30 thrown_ told_ many_ row_ subjectOf_ columnOf_ choices_ open_ left_ satIn_ v1 t0 = some (rr, o0, o1, o2, o3, o4, o5) → ∀ (H : Heap) (locs : List Loc) (ls : Array Slot), va_P (dC, dI) vwCl [(h0, .inr (6, [.int thrown_, .int told_, .ref h0_row, .int columns_, .int rooms_, .int many_, .ref h0_subjectOf, .ref h0_teacherOf, .ref h0_seatsOf, .ref h0_columnOf, .ref h0_barsOf, .int pupils_, .ref h0_choices, .int kept_, .ref h0_tape, .int taped_, .int at_, .int to_, .int digit_, .int number_, .ref h0_was, .ref h0_readChoices, .int readMany_, .ref h0_open, .ref h0_wayOf, .int bestThen_, .ref h0_cure, .ref h0_left, .ref h0_satIn])), (h0_row, .inl (cyI, 32, .inl row_)), (h0_subjectOf, .inl (cyI, 17, .inl subjectOf_)), (h0_seatsOf, .inl (cyI, 17, .inl seatsOf_)), (h0_columnOf, .inl (cyI, 17, .inl columnOf_)), (h0_choices, .inl (cyI, 24, .inl choices_)), (h0_open, .inl (cyI, 10, .inl open_)), (h0_left, .inl (cyI, 17, .inl left_)), (h0_satIn, .inl (cyI, 24, .inl satIn_))] H → va_D A [(h0, .inr (6, [.int thrown_, .int told_, .ref h0_row, .int columns_, .int rooms_, .int many_, .ref h0_subjectOf, .ref h0_teacherOf, .ref h0_seatsOf, .ref h0_columnOf, .ref h0_barsOf, .int pupils_, .ref h0_choices, .int kept_, .ref h0_tape, .int taped_, .int at_, .int to_, .int digit_, .int number_, .ref h0_was, .ref h0_readChoices, .int readMany_, .ref h0_open, .ref h0_wayOf, .int bestThen_, .ref h0_cure, .ref h0_left, .ref h0_satIn])), (h0_row, .inl (cyI, 32, .inl row_)), (h0_subjectOf, .inl (cyI, 17, .inl subjectOf_)), (h0_seatsOf, .inl (cyI, 17, .inl seatsOf_)), (h0_columnOf, .inl (cyI, 17, .inl columnOf_)), (h0_choices, .inl (cyI, 24, .inl choices_)), (h0_open, .inl (cyI, 10, .inl open_)), (h0_left, .inl (cyI, 17, .inl left_)), (h0_satIn, .inl (cyI, 24, .inl satIn_))] → va_S A s.heap H locs → lv_has ls 3 [(0, .ref h0), (1, .int v1)] → W p l e rmX6_lacking s m args below meth c H locs 0 0 Q (F0 m 30 ls [.int t0]) := by
    intro v1 t0 thrown_ open_ left_ satIn_ h H locs ls hP hD hS hl
    unfold m_X6_lacking_30 at h
    refine lv_istore_n (lv' := [(2, .int t0), (0, .ref h0), (1, .int v1)]) hx hb dX6_lacking_30 rfl hl (by decide) rfl (fun ls hl => ?_)
    refine lv_aload_n hx hb dX6_lacking_31 rfl (lv_at hl 1 rfl) ?_
    refine lv_iload_n hx hb dX6_lacking_32 rfl (lv_at hl 0 rfl) ?_
    refine lv_iload_n hx hb dX6_lacking_33 rfl (lv_at hl 0 rfl) ?_
    refine lv_iconst (v := (-1)) hx hb dX6_lacking_34 (by decide) ?_
    refine lv_icmp_ne (tgt := 42) hx hb dX6_lacking_35 (by decide) (fun c_ => ?_) (fun c_ => ?_)
    · have h := (if_neg c_).symm.trans h
      refine lv_aload_n hx hb dX6_lacking_42 rfl (lv_at hl 1 rfl) ?_
      refine lv_aload_n hx hb dX6_lacking_43 rfl (lv_at hl 1 rfl) ?_
      refine va_get (D := (dC, dI)) (ci := 6) (v := .ref h0_choices) (C := RX6) (T := TX6) (N := 29) hx hb hts hiX6 hown hK hP 0 rfl rfl 12 (by decide) (hts (.fieldLink RX6 35 "OptionLatticeModel" "choices" "[I") (by decide +kernel)) (fun _ h9 => h9) rfl dX6_lacking_44 ?_
      refine lv_iload_n hx hb dX6_lacking_47 rfl (lv_at hl 0 rfl) ?_
      obtain ⟨g_, h⟩ := gd_some h
      refine va_iald hx hb hK hP 5 1 rfl rfl (inb_in g_) dX6_lacking_48 ?_
      obtain ⟨r_3, hq, h⟩ := bd1_some h
      refine uV_i (b := h0) (As := [.int (choices_ t0.toNatClampNeg)]) (rest := [.int t0, .ref h0]) ⟨hx, hb, hml, hown, hts⟩ (c_X6_firstFull l dC dI cyC cyI cyJ h0 h0_row h0_subjectOf h0_teacherOf h0_seatsOf h0_columnOf h0_barsOf h0_choices h0_tape h0_was h0_readChoices h0_open h0_wayOf h0_cure h0_left h0_satIn thrown_ told_ columns_ rooms_ many_ pupils_ kept_ taped_ at_ to_ digit_ number_ readMany_ bestThen_ subjectOf_ columnOf_ left_ (choices_ t0.toNatClampNeg) r_3 hq) (cwV 1 hts gX6_lacking_X6_firstFull rfl rfl rfl (by decide +kernel) ⟨Nat.le_of_ble_eq_true rfl, Nat.le_of_ble_eq_true rfl⟩) hK hE hA hP hD hS [0, 2, 4, 7] rfl rfl rfl 6 0 rfl rfl rfl hl.1 rfl (Nat.le_of_ble_eq_true rfl) ⟨Nat.zero_le _, Nat.zero_le _⟩ dX6_lacking_49 (fun H locs hP hD hS => ?_)
      have hP : va_P (dC, dI) vwCl [(h0, .inr (6, [.int thrown_, .int told_, .ref h0_row, .int columns_, .int rooms_, .int many_, .ref h0_subjectOf, .ref h0_teacherOf, .ref h0_seatsOf, .ref h0_columnOf, .ref h0_barsOf, .int pupils_, .ref h0_choices, .int kept_, .ref h0_tape, .int taped_, .int at_, .int to_, .int digit_, .int number_, .ref h0_was, .ref h0_readChoices, .int readMany_, .ref h0_open, .ref h0_wayOf, .int bestThen_, .ref h0_cure, .ref h0_left, .ref h0_satIn])), (h0_row, .inl (cyI, 32, .inl row_)), (h0_subjectOf, .inl (cyI, 17, .inl subjectOf_)), (h0_seatsOf, .inl (cyI, 17, .inl seatsOf_)), (h0_columnOf, .inl (cyI, 17, .inl columnOf_)), (h0_choices, .inl (cyI, 24, .inl choices_)), (h0_open, .inl (cyI, 10, .inl open_)), (h0_left, .inl (cyI, 17, .inl left_)), (h0_satIn, .inl (cyI, 24, .inl satIn_))] H := hP
      have hD : va_D A [(h0, .inr (6, [.int thrown_, .int told_, .ref h0_row, .int columns_, .int rooms_, .int many_, .ref h0_subjectOf, .ref h0_teacherOf, .ref h0_seatsOf, .ref h0_columnOf, .ref h0_barsOf, .int pupils_, .ref h0_choices, .int kept_, .ref h0_tape, .int taped_, .int at_, .int to_, .int digit_, .int number_, .ref h0_was, .ref h0_readChoices, .int readMany_, .ref h0_open, .ref h0_wayOf, .int bestThen_, .ref h0_cure, .ref h0_left, .ref h0_satIn])), (h0_row, .inl (cyI, 32, .inl row_)), (h0_subjectOf, .inl (cyI, 17, .inl subjectOf_)), (h0_seatsOf, .inl (cyI, 17, .inl seatsOf_)), (h0_columnOf, .inl (cyI, 17, .inl columnOf_)), (h0_choices, .inl (cyI, 24, .inl choices_)), (h0_open, .inl (cyI, 10, .inl open_)), (h0_left, .inl (cyI, 17, .inl left_)), (h0_satIn, .inl (cyI, 24, .inl satIn_))] := hD
      exact J52 v1 t0 r_3 thrown_ open_ left_ satIn_ h _ _ _ hP hD hS (lv_sub hl [2] rfl)
    · have h := (if_pos c_).symm.trans h
      refine lv_iconst (v := (-1)) hx hb dX6_lacking_38 (by decide) ?_
      refine lv_goto (tgt := 52) hx hb dX6_lacking_39 (by decide) ?_
      exact J52 v1 t0 (-1) thrown_ open_ left_ satIn_ h _ _ _ hP hD hS (lv_sub hl [2] rfl)
  unfold m_X6_lacking at h
  refine lv_aload_n hx hb dX6_lacking_0 rfl (lv_at hl 0 rfl) ?_
  refine lv_iconst (v := 0) hx hb dX6_lacking_1 (by decide) ?_
  refine va_put (D := (dC, dI)) (ci := 6) (v := .int 0) (ty := .int) (C := RX6) (T := TX6) (N := 29) hx hb hts hiX6 tyX6 tyX6_ok nmX6 hown hK hP hD hS 0 rfl rfl 0 (by decide) (hts (.fieldLink RX6 62 "OptionLatticeModel" "thrown" "I") (by decide +kernel)) (fun _ h9 => h9) rfl (by decide +kernel) rfl rfl (Nat.le_of_ble_eq_true rfl) dX6_lacking_2 (fun H locs hP hD hS => ?_)
  have hP : va_P (dC, dI) vwCl [(h0, .inr (6, [.int 0, .int told_, .ref h0_row, .int columns_, .int rooms_, .int many_, .ref h0_subjectOf, .ref h0_teacherOf, .ref h0_seatsOf, .ref h0_columnOf, .ref h0_barsOf, .int pupils_, .ref h0_choices, .int kept_, .ref h0_tape, .int taped_, .int at_, .int to_, .int digit_, .int number_, .ref h0_was, .ref h0_readChoices, .int readMany_, .ref h0_open, .ref h0_wayOf, .int bestThen_, .ref h0_cure, .ref h0_left, .ref h0_satIn])), (h0_row, .inl (cyI, 32, .inl row_)), (h0_subjectOf, .inl (cyI, 17, .inl subjectOf_)), (h0_seatsOf, .inl (cyI, 17, .inl seatsOf_)), (h0_columnOf, .inl (cyI, 17, .inl columnOf_)), (h0_choices, .inl (cyI, 24, .inl choices_)), (h0_open, .inl (cyI, 10, .inl open_)), (h0_left, .inl (cyI, 17, .inl left_)), (h0_satIn, .inl (cyI, 24, .inl satIn_))] H := hP
  have hD : va_D A [(h0, .inr (6, [.int 0, .int told_, .ref h0_row, .int columns_, .int rooms_, .int many_, .ref h0_subjectOf, .ref h0_teacherOf, .ref h0_seatsOf, .ref h0_columnOf, .ref h0_barsOf, .int pupils_, .ref h0_choices, .int kept_, .ref h0_tape, .int taped_, .int at_, .int to_, .int digit_, .int number_, .ref h0_was, .ref h0_readChoices, .int readMany_, .ref h0_open, .ref h0_wayOf, .int bestThen_, .ref h0_cure, .ref h0_left, .ref h0_satIn])), (h0_row, .inl (cyI, 32, .inl row_)), (h0_subjectOf, .inl (cyI, 17, .inl subjectOf_)), (h0_seatsOf, .inl (cyI, 17, .inl seatsOf_)), (h0_columnOf, .inl (cyI, 17, .inl columnOf_)), (h0_choices, .inl (cyI, 24, .inl choices_)), (h0_open, .inl (cyI, 10, .inl open_)), (h0_left, .inl (cyI, 17, .inl left_)), (h0_satIn, .inl (cyI, 24, .inl satIn_))] := hD
  refine lv_aload_n hx hb dX6_lacking_5 rfl (lv_at hl 0 rfl) ?_
  obtain ⟨r_4, open_5, hq, h⟩ := bd2_some h
  refine uV_i (b := h0) (As := []) (rest := []) ⟨hx, hb, hml, hown, hts⟩ (c_X6_fitting l dC dI cyC cyI cyJ h0 h0_row h0_subjectOf h0_teacherOf h0_seatsOf h0_columnOf h0_barsOf h0_choices h0_tape h0_was h0_readChoices h0_open h0_wayOf h0_cure h0_left h0_satIn 0 told_ columns_ rooms_ many_ pupils_ kept_ taped_ at_ to_ digit_ number_ readMany_ bestThen_ subjectOf_ columnOf_ choices_ open_ r_4 open_5 hq) (cwV 0 hts gX6_lacking_X6_fitting rfl rfl rfl (by decide +kernel) ⟨Nat.le_of_ble_eq_true rfl, Nat.le_of_ble_eq_true rfl⟩) hK hE hA hP hD hS [0, 2, 4, 5, 6] rfl rfl rfl 6 0 rfl rfl rfl hl.1 rfl (Nat.le_of_ble_eq_true rfl) ⟨Nat.zero_le _, Nat.zero_le _⟩ dX6_lacking_6 (fun H locs hP hD hS => ?_)
  have hP : va_P (dC, dI) vwCl [(h0, .inr (6, [.int 0, .int told_, .ref h0_row, .int columns_, .int rooms_, .int many_, .ref h0_subjectOf, .ref h0_teacherOf, .ref h0_seatsOf, .ref h0_columnOf, .ref h0_barsOf, .int pupils_, .ref h0_choices, .int kept_, .ref h0_tape, .int taped_, .int at_, .int to_, .int digit_, .int number_, .ref h0_was, .ref h0_readChoices, .int readMany_, .ref h0_open, .ref h0_wayOf, .int bestThen_, .ref h0_cure, .ref h0_left, .ref h0_satIn])), (h0_row, .inl (cyI, 32, .inl row_)), (h0_subjectOf, .inl (cyI, 17, .inl subjectOf_)), (h0_seatsOf, .inl (cyI, 17, .inl seatsOf_)), (h0_columnOf, .inl (cyI, 17, .inl columnOf_)), (h0_choices, .inl (cyI, 24, .inl choices_)), (h0_open, .inl (cyI, 10, .inl open_5)), (h0_left, .inl (cyI, 17, .inl left_)), (h0_satIn, .inl (cyI, 24, .inl satIn_))] H := hP
  have hD : va_D A [(h0, .inr (6, [.int 0, .int told_, .ref h0_row, .int columns_, .int rooms_, .int many_, .ref h0_subjectOf, .ref h0_teacherOf, .ref h0_seatsOf, .ref h0_columnOf, .ref h0_barsOf, .int pupils_, .ref h0_choices, .int kept_, .ref h0_tape, .int taped_, .int at_, .int to_, .int digit_, .int number_, .ref h0_was, .ref h0_readChoices, .int readMany_, .ref h0_open, .ref h0_wayOf, .int bestThen_, .ref h0_cure, .ref h0_left, .ref h0_satIn])), (h0_row, .inl (cyI, 32, .inl row_)), (h0_subjectOf, .inl (cyI, 17, .inl subjectOf_)), (h0_seatsOf, .inl (cyI, 17, .inl seatsOf_)), (h0_columnOf, .inl (cyI, 17, .inl columnOf_)), (h0_choices, .inl (cyI, 24, .inl choices_)), (h0_open, .inl (cyI, 10, .inl open_5)), (h0_left, .inl (cyI, 17, .inl left_)), (h0_satIn, .inl (cyI, 24, .inl satIn_))] := hD
  refine lv_aload_n hx hb dX6_lacking_9 rfl (lv_at hl 0 rfl) ?_
  refine lv_iconst (v := 0) hx hb dX6_lacking_10 (by decide) ?_
  obtain ⟨r_6, left_7, satIn_8, hq, h⟩ := bd3_some h
  refine uV_i (b := h0) (As := [.int 0]) (rest := [.int r_4]) ⟨hx, hb, hml, hown, hts⟩ (c_X6_seatsAll l dC dI cyC cyI cyJ h0 h0_row h0_subjectOf h0_teacherOf h0_seatsOf h0_columnOf h0_barsOf h0_choices h0_tape h0_was h0_readChoices h0_open h0_wayOf h0_cure h0_left h0_satIn 0 told_ columns_ rooms_ many_ pupils_ kept_ taped_ at_ to_ digit_ number_ readMany_ bestThen_ subjectOf_ seatsOf_ columnOf_ choices_ left_ satIn_ 0 r_6 left_7 satIn_8 hq) (cwV 1 hts gX6_lacking_X6_seatsAll rfl rfl rfl (by decide +kernel) ⟨Nat.le_of_ble_eq_true rfl, Nat.le_of_ble_eq_true rfl⟩) hK hE hA hP hD hS [0, 2, 3, 4, 5, 7, 8] rfl rfl rfl 6 0 rfl rfl rfl hl.1 rfl (Nat.le_of_ble_eq_true rfl) ⟨Nat.zero_le _, Nat.zero_le _⟩ dX6_lacking_11 (fun H locs hP hD hS => ?_)
  have hP : va_P (dC, dI) vwCl [(h0, .inr (6, [.int 0, .int told_, .ref h0_row, .int columns_, .int rooms_, .int many_, .ref h0_subjectOf, .ref h0_teacherOf, .ref h0_seatsOf, .ref h0_columnOf, .ref h0_barsOf, .int pupils_, .ref h0_choices, .int kept_, .ref h0_tape, .int taped_, .int at_, .int to_, .int digit_, .int number_, .ref h0_was, .ref h0_readChoices, .int readMany_, .ref h0_open, .ref h0_wayOf, .int bestThen_, .ref h0_cure, .ref h0_left, .ref h0_satIn])), (h0_row, .inl (cyI, 32, .inl row_)), (h0_subjectOf, .inl (cyI, 17, .inl subjectOf_)), (h0_seatsOf, .inl (cyI, 17, .inl seatsOf_)), (h0_columnOf, .inl (cyI, 17, .inl columnOf_)), (h0_choices, .inl (cyI, 24, .inl choices_)), (h0_open, .inl (cyI, 10, .inl open_5)), (h0_left, .inl (cyI, 17, .inl left_7)), (h0_satIn, .inl (cyI, 24, .inl satIn_8))] H := hP
  have hD : va_D A [(h0, .inr (6, [.int 0, .int told_, .ref h0_row, .int columns_, .int rooms_, .int many_, .ref h0_subjectOf, .ref h0_teacherOf, .ref h0_seatsOf, .ref h0_columnOf, .ref h0_barsOf, .int pupils_, .ref h0_choices, .int kept_, .ref h0_tape, .int taped_, .int at_, .int to_, .int digit_, .int number_, .ref h0_was, .ref h0_readChoices, .int readMany_, .ref h0_open, .ref h0_wayOf, .int bestThen_, .ref h0_cure, .ref h0_left, .ref h0_satIn])), (h0_row, .inl (cyI, 32, .inl row_)), (h0_subjectOf, .inl (cyI, 17, .inl subjectOf_)), (h0_seatsOf, .inl (cyI, 17, .inl seatsOf_)), (h0_columnOf, .inl (cyI, 17, .inl columnOf_)), (h0_choices, .inl (cyI, 24, .inl choices_)), (h0_open, .inl (cyI, 10, .inl open_5)), (h0_left, .inl (cyI, 17, .inl left_7)), (h0_satIn, .inl (cyI, 24, .inl satIn_8))] := hD
  refine lv_iconst (v := (-1)) hx hb dX6_lacking_14 (by decide) ?_
  refine lv_ixor hx hb dX6_lacking_15 ?_
  refine lv_iand hx hb dX6_lacking_16 ?_
  refine lv_topi (fun v1_9 e_v1_9 => ?_)
  have h := lt_use e_v1_9 h
  refine lv_istore_n (lv' := [(1, .int v1_9), (0, .ref h0)]) hx hb dX6_lacking_17 rfl hl (by decide) rfl (fun ls hl => ?_)
  refine lv_iload_n hx hb dX6_lacking_18 rfl (lv_at hl 0 rfl) ?_
  refine lv_if_ne (tgt := 26) hx hb dX6_lacking_19 (by decide) (fun c_ => ?_) (fun c_ => ?_)
  · have h := (if_neg c_).symm.trans h
    refine lv_iload_n hx hb dX6_lacking_26 rfl (lv_at hl 0 rfl) ?_
    obtain ⟨r_10, hq, h⟩ := bd1_some h
    refine uS_i (As := [.int v1_9]) (rest := []) ⟨hx, hb, hml, hown, hts⟩ (c_J6_numberOfTrailingZeros_0f7a4 l dC dI cyC cyI cyJ v1_9 r_10 hq) (va_cwS 1 hts gX6_lacking_J6_numberOfTrailingZeros_0f7a4 rfl rfl rfl (by decide +kernel) ⟨Nat.le_of_ble_eq_true rfl, Nat.le_of_ble_eq_true rfl⟩) hK hE hA hP hD hS [] rfl rfl rfl rfl hl.1 rfl (Nat.le_of_ble_eq_true rfl) ⟨Nat.zero_le _, Nat.zero_le _⟩ dX6_lacking_27 (fun H locs hP hD hS => ?_)
    have hP : va_P (dC, dI) vwCl [(h0, .inr (6, [.int 0, .int told_, .ref h0_row, .int columns_, .int rooms_, .int many_, .ref h0_subjectOf, .ref h0_teacherOf, .ref h0_seatsOf, .ref h0_columnOf, .ref h0_barsOf, .int pupils_, .ref h0_choices, .int kept_, .ref h0_tape, .int taped_, .int at_, .int to_, .int digit_, .int number_, .ref h0_was, .ref h0_readChoices, .int readMany_, .ref h0_open, .ref h0_wayOf, .int bestThen_, .ref h0_cure, .ref h0_left, .ref h0_satIn])), (h0_row, .inl (cyI, 32, .inl row_)), (h0_subjectOf, .inl (cyI, 17, .inl subjectOf_)), (h0_seatsOf, .inl (cyI, 17, .inl seatsOf_)), (h0_columnOf, .inl (cyI, 17, .inl columnOf_)), (h0_choices, .inl (cyI, 24, .inl choices_)), (h0_open, .inl (cyI, 10, .inl open_5)), (h0_left, .inl (cyI, 17, .inl left_7)), (h0_satIn, .inl (cyI, 24, .inl satIn_8))] H := hP
    have hD : va_D A [(h0, .inr (6, [.int 0, .int told_, .ref h0_row, .int columns_, .int rooms_, .int many_, .ref h0_subjectOf, .ref h0_teacherOf, .ref h0_seatsOf, .ref h0_columnOf, .ref h0_barsOf, .int pupils_, .ref h0_choices, .int kept_, .ref h0_tape, .int taped_, .int at_, .int to_, .int digit_, .int number_, .ref h0_was, .ref h0_readChoices, .int readMany_, .ref h0_open, .ref h0_wayOf, .int bestThen_, .ref h0_cure, .ref h0_left, .ref h0_satIn])), (h0_row, .inl (cyI, 32, .inl row_)), (h0_subjectOf, .inl (cyI, 17, .inl subjectOf_)), (h0_seatsOf, .inl (cyI, 17, .inl seatsOf_)), (h0_columnOf, .inl (cyI, 17, .inl columnOf_)), (h0_choices, .inl (cyI, 24, .inl choices_)), (h0_open, .inl (cyI, 10, .inl open_5)), (h0_left, .inl (cyI, 17, .inl left_7)), (h0_satIn, .inl (cyI, 24, .inl satIn_8))] := hD
    exact J30 v1_9 r_10 0 open_5 left_7 satIn_8 h _ _ _ hP hD hS (lv_sub hl [1, 0] rfl)
  · have h := (if_pos c_).symm.trans h
    refine lv_iconst (v := (-1)) hx hb dX6_lacking_22 (by decide) ?_
    refine lv_goto (tgt := 30) hx hb dX6_lacking_23 (by decide) ?_
    exact J30 v1_9 (-1) 0 open_5 left_7 satIn_8 h _ _ _ hP hD hS (lv_sub hl [1, 0] rfl)

def m_X6_wants_86 (thrown_ : Int32) (seatsOf_ : Nat → Int32) (open_ : Nat → Int32) (left_ : Nat → Int32) (satIn_ : Nat → Int32) (v1 : Int32) (v3 : Int32) (v4 : Int32) : Option (Int32 × Int32 × (Nat → Int32) × (Nat → Int32) × (Nat → Int32) × (Nat → Int32)) :=
  gd (inb v1 17) (some (v4, thrown_, (upd seatsOf_ v1.toNatClampNeg v3), open_, left_, satIn_))
def m_X6_wants_37 (thrown_ : Int32) (columns_ : Int32) (many_ : Int32) (pupils_ : Int32) (subjectOf_ : Nat → Int32) (columnOf_ : Nat → Int32) (choices_ : Nat → Int32) (open_ : Nat → Int32) (v1 : Int32) (v2 : Int32) (v3 : Int32) (rec37 : Int32 → Int32 → (Nat → Int32) → (Nat → Int32) → (Nat → Int32) → Option (Int32 × Int32 × (Nat → Int32) × (Nat → Int32) × (Nat → Int32) × (Nat → Int32))) : Int32 → Int32 → (Nat → Int32) → (Nat → Int32) → (Nat → Int32) → Option (Int32 × Int32 × (Nat → Int32) × (Nat → Int32) × (Nat → Int32) × (Nat → Int32)) := fun v4 v5 seatsOf_ left_ satIn_ =>
  (if 30 < v5 then m_X6_wants_86 thrown_ seatsOf_ open_ left_ satIn_ v1 v3 v4 else (if 0 ≤ v4 then m_X6_wants_86 thrown_ seatsOf_ open_ left_ satIn_ v1 v3 v4 else gd (inb v1 17) (bd3 (m_X6_seatsAll columns_ many_ pupils_ subjectOf_ (upd seatsOf_ v1.toNatClampNeg (v3 + v5)) columnOf_ choices_ left_ satIn_ 0) (fun r_1 left_2 satIn_3 => bd1 (m_X6_bits r_1) (fun r_4 => (if r_4 = v2 then lt' (v5 + 1) (fun v5_6 => rec37 v5 v5_6 (upd seatsOf_ v1.toNatClampNeg (v3 + v5)) left_2 satIn_3) else lt' (v5 + 1) (fun v5_5 => rec37 v4 v5_5 (upd seatsOf_ v1.toNatClampNeg (v3 + v5)) left_2 satIn_3)))))))
def m_X6_wants (thrown_ : Int32) (columns_ : Int32) (many_ : Int32) (pupils_ : Int32) (subjectOf_ : Nat → Int32) (seatsOf_ : Nat → Int32) (columnOf_ : Nat → Int32) (choices_ : Nat → Int32) (open_ : Nat → Int32) (left_ : Nat → Int32) (satIn_ : Nat → Int32) (v1 : Int32) : Option (Int32 × Int32 × (Nat → Int32) × (Nat → Int32) × (Nat → Int32) × (Nat → Int32)) :=
  bd1 (m_X6_isSection many_ v1) (fun r_7 => (if r_7 = 0 then some ((-1), 0, seatsOf_, open_, left_, satIn_) else bd2 (m_X6_fitting many_ pupils_ subjectOf_ columnOf_ choices_ open_) (fun r_8 open_9 => bd1 (m_X6_bits r_8) (fun r_10 => gd (inb v1 17) (lt' (seatsOf_ v1.toNatClampNeg) (fun v3_11 => it5 (m_X6_wants_37 0 columns_ many_ pupils_ subjectOf_ columnOf_ choices_ open_9 v1 r_10 v3_11) 1100 (-2) 0 seatsOf_ left_ satIn_))))))
abbrev rmX6_wants : Room := { frames := 11, cells := 0, slots := 0, locals := 283 }
set_option maxHeartbeats 4000000 in
set_option maxRecDepth 100000 in
theorem c_X6_wants (l : Launch) (dC : Nat → ClassId) (dI : Nat → Nat → Nat) (cyC cyI cyJ : ClassId) (h0 h0_row h0_subjectOf h0_teacherOf h0_seatsOf h0_columnOf h0_barsOf h0_choices h0_tape h0_was h0_readChoices h0_open h0_wayOf h0_cure h0_left h0_satIn : Nat) (thrown_ : Int32) (told_ : Int32) (columns_ : Int32) (rooms_ : Int32) (many_ : Int32) (pupils_ : Int32) (kept_ : Int32) (taped_ : Int32) (at_ : Int32) (to_ : Int32) (digit_ : Int32) (number_ : Int32) (readMany_ : Int32) (bestThen_ : Int32) (subjectOf_ : Nat → Int32) (seatsOf_ : Nat → Int32) (columnOf_ : Nat → Int32) (choices_ : Nat → Int32) (open_ : Nat → Int32) (left_ : Nat → Int32) (satIn_ : Nat → Int32) (v1 : Int32) (rr : Int32) (o0 : Int32) (o1 : Nat → Int32) (o2 : Nat → Int32) (o3 : Nat → Int32) (o4 : Nat → Int32) (h : m_X6_wants thrown_ columns_ many_ pupils_ subjectOf_ seatsOf_ columnOf_ choices_ open_ left_ satIn_ v1 = some (rr, o0, o1, o2, o3, o4)) : uMi l yX6_wants wsX6_wants rmX6_wants (dC, dI) [(cyC, .char), (cyI, .int), (cyJ, .long)] [.ref h0, .int v1] [(h0, .inr (6, [.int thrown_, .int told_, .ref h0_row, .int columns_, .int rooms_, .int many_, .ref h0_subjectOf, .ref h0_teacherOf, .ref h0_seatsOf, .ref h0_columnOf, .ref h0_barsOf, .int pupils_, .ref h0_choices, .int kept_, .ref h0_tape, .int taped_, .int at_, .int to_, .int digit_, .int number_, .ref h0_was, .ref h0_readChoices, .int readMany_, .ref h0_open, .ref h0_wayOf, .int bestThen_, .ref h0_cure, .ref h0_left, .ref h0_satIn])), (h0_subjectOf, .inl (cyI, 17, .inl subjectOf_)), (h0_seatsOf, .inl (cyI, 17, .inl seatsOf_)), (h0_columnOf, .inl (cyI, 17, .inl columnOf_)), (h0_choices, .inl (cyI, 24, .inl choices_)), (h0_open, .inl (cyI, 10, .inl open_)), (h0_left, .inl (cyI, 17, .inl left_)), (h0_satIn, .inl (cyI, 24, .inl satIn_))] [(h0, .inr (6, [.int o0, .int told_, .ref h0_row, .int columns_, .int rooms_, .int many_, .ref h0_subjectOf, .ref h0_teacherOf, .ref h0_seatsOf, .ref h0_columnOf, .ref h0_barsOf, .int pupils_, .ref h0_choices, .int kept_, .ref h0_tape, .int taped_, .int at_, .int to_, .int digit_, .int number_, .ref h0_was, .ref h0_readChoices, .int readMany_, .ref h0_open, .ref h0_wayOf, .int bestThen_, .ref h0_cure, .ref h0_left, .ref h0_satIn])), (h0_subjectOf, .inl (cyI, 17, .inl subjectOf_)), (h0_seatsOf, .inl (cyI, 17, .inl o1)), (h0_columnOf, .inl (cyI, 17, .inl columnOf_)), (h0_choices, .inl (cyI, 24, .inl choices_)), (h0_open, .inl (cyI, 10, .inl o2)), (h0_left, .inl (cyI, 17, .inl o3)), (h0_satIn, .inl (cyI, 24, .inl o4))] rr := by
  refine uMi.of (cc := cX6_wants) (maxL := 6) (by decide) rfl (Nat.le_of_ble_eq_true rfl) (fun p e s m args below meth c A ls Q hx hb hml hown hts hA hP hK hD hE hS hl hret => ?_)
  have hown : s.vm.findClass RX6 = some m.cls := hown
  have hl : lv_has ls 6 [(0, .ref h0), (1, .int v1)] := hl
  have hiX6 : ∀ w ∈ u_ws RX6 TX6 29, w ∈ wsX6_wants := fun _ h9 => List.mem_cons_of_mem _ (List.mem_append_right _ h9)
  have J86 : ∀ (v3 : Int32), ∀ (v4 : Int32), ∀ (thrown_ : Int32), ∀ (seatsOf_ : Nat → Int32), ∀ (open_ : Nat → Int32), ∀ (left_ : Nat → Int32), ∀ (satIn_ : Nat → Int32), m_X6_wants_86 thrown_ seatsOf_ open_ left_ satIn_ v1 v3 v4 = some (rr, o0, o1, o2, o3, o4) → ∀ (H : Heap) (locs : List Loc) (ls : Array Slot), va_P (dC, dI) vwCl [(h0, .inr (6, [.int thrown_, .int told_, .ref h0_row, .int columns_, .int rooms_, .int many_, .ref h0_subjectOf, .ref h0_teacherOf, .ref h0_seatsOf, .ref h0_columnOf, .ref h0_barsOf, .int pupils_, .ref h0_choices, .int kept_, .ref h0_tape, .int taped_, .int at_, .int to_, .int digit_, .int number_, .ref h0_was, .ref h0_readChoices, .int readMany_, .ref h0_open, .ref h0_wayOf, .int bestThen_, .ref h0_cure, .ref h0_left, .ref h0_satIn])), (h0_subjectOf, .inl (cyI, 17, .inl subjectOf_)), (h0_seatsOf, .inl (cyI, 17, .inl seatsOf_)), (h0_columnOf, .inl (cyI, 17, .inl columnOf_)), (h0_choices, .inl (cyI, 24, .inl choices_)), (h0_open, .inl (cyI, 10, .inl open_)), (h0_left, .inl (cyI, 17, .inl left_)), (h0_satIn, .inl (cyI, 24, .inl satIn_))] H → va_D A [(h0, .inr (6, [.int thrown_, .int told_, .ref h0_row, .int columns_, .int rooms_, .int many_, .ref h0_subjectOf, .ref h0_teacherOf, .ref h0_seatsOf, .ref h0_columnOf, .ref h0_barsOf, .int pupils_, .ref h0_choices, .int kept_, .ref h0_tape, .int taped_, .int at_, .int to_, .int digit_, .int number_, .ref h0_was, .ref h0_readChoices, .int readMany_, .ref h0_open, .ref h0_wayOf, .int bestThen_, .ref h0_cure, .ref h0_left, .ref h0_satIn])), (h0_subjectOf, .inl (cyI, 17, .inl subjectOf_)), (h0_seatsOf, .inl (cyI, 17, .inl seatsOf_)), (h0_columnOf, .inl (cyI, 17, .inl columnOf_)), (h0_choices, .inl (cyI, 24, .inl choices_)), (h0_open, .inl (cyI, 10, .inl open_)), (h0_left, .inl (cyI, 17, .inl left_)), (h0_satIn, .inl (cyI, 24, .inl satIn_))] → va_S A s.heap H locs → lv_has ls 6 [(0, .ref h0), (1, .int v1), (3, .int v3), (4, .int v4)] → W p l e rmX6_wants s m args below meth c H locs 0 0 Q (F0 m 86 ls []) := by
    intro v3 v4 thrown_ seatsOf_ open_ left_ satIn_ h H locs ls hP hD hS hl
    unfold m_X6_wants_86 at h
    refine lv_aload_n hx hb dX6_wants_86 rfl (lv_at hl 0 rfl) ?_
    refine va_get (D := (dC, dI)) (ci := 6) (v := .ref h0_seatsOf) (C := RX6) (T := TX6) (N := 29) hx hb hts hiX6 hown hK hP 0 rfl rfl 8 (by decide) (hts (.fieldLink RX6 26 "OptionLatticeModel" "seatsOf" "[I") (by decide +kernel)) (fun _ h9 => h9) rfl dX6_wants_87 ?_
    refine lv_iload_n hx hb dX6_wants_90 rfl (lv_at hl 1 rfl) ?_
    refine lv_iload_n hx hb dX6_wants_91 rfl (lv_at hl 2 rfl) ?_
    obtain ⟨g_, h⟩ := gd_some h
    refine va_iast hx hb hK hP hD hS 2 1 rfl rfl (inb_in g_) dX6_wants_92 (fun H locs hP hD hS => ?_)
    have hP : va_P (dC, dI) vwCl [(h0, .inr (6, [.int thrown_, .int told_, .ref h0_row, .int columns_, .int rooms_, .int many_, .ref h0_subjectOf, .ref h0_teacherOf, .ref h0_seatsOf, .ref h0_columnOf, .ref h0_barsOf, .int pupils_, .ref h0_choices, .int kept_, .ref h0_tape, .int taped_, .int at_, .int to_, .int digit_, .int number_, .ref h0_was, .ref h0_readChoices, .int readMany_, .ref h0_open, .ref h0_wayOf, .int bestThen_, .ref h0_cure, .ref h0_left, .ref h0_satIn])), (h0_subjectOf, .inl (cyI, 17, .inl subjectOf_)), (h0_seatsOf, .inl (cyI, 17, .inl (upd seatsOf_ v1.toNatClampNeg v3))), (h0_columnOf, .inl (cyI, 17, .inl columnOf_)), (h0_choices, .inl (cyI, 24, .inl choices_)), (h0_open, .inl (cyI, 10, .inl open_)), (h0_left, .inl (cyI, 17, .inl left_)), (h0_satIn, .inl (cyI, 24, .inl satIn_))] H := hP
    have hD : va_D A [(h0, .inr (6, [.int thrown_, .int told_, .ref h0_row, .int columns_, .int rooms_, .int many_, .ref h0_subjectOf, .ref h0_teacherOf, .ref h0_seatsOf, .ref h0_columnOf, .ref h0_barsOf, .int pupils_, .ref h0_choices, .int kept_, .ref h0_tape, .int taped_, .int at_, .int to_, .int digit_, .int number_, .ref h0_was, .ref h0_readChoices, .int readMany_, .ref h0_open, .ref h0_wayOf, .int bestThen_, .ref h0_cure, .ref h0_left, .ref h0_satIn])), (h0_subjectOf, .inl (cyI, 17, .inl subjectOf_)), (h0_seatsOf, .inl (cyI, 17, .inl (upd seatsOf_ v1.toNatClampNeg v3))), (h0_columnOf, .inl (cyI, 17, .inl columnOf_)), (h0_choices, .inl (cyI, 24, .inl choices_)), (h0_open, .inl (cyI, 10, .inl open_)), (h0_left, .inl (cyI, 17, .inl left_)), (h0_satIn, .inl (cyI, 24, .inl satIn_))] := hD
    refine lv_iload hx hb dX6_wants_93 (lv_at hl 3 rfl) ?_
    have h : some (v4, thrown_, (upd seatsOf_ v1.toNatClampNeg v3), open_, left_, satIn_) = some (rr, o0, o1, o2, o3, o4) := h
    have z0 := Option.some.inj h
    obtain ⟨rfl, z1⟩ := Prod.mk.inj z0
    obtain ⟨rfl, z2⟩ := Prod.mk.inj z1
    obtain ⟨rfl, z3⟩ := Prod.mk.inj z2
    obtain ⟨rfl, z4⟩ := Prod.mk.inj z3
    obtain ⟨rfl, z5⟩ := Prod.mk.inj z4
    obtain rfl := z5
    exact hret _ _ _ _ hP hS rfl dX6_wants_95
  have L37 : ∀ (v2 : Int32), ∀ (v3 : Int32), ∀ (thrown_ : Int32), ∀ (open_ : Nat → Int32), ∀ (n37 : Nat), ∀ (v4 : Int32), ∀ (v5 : Int32), ∀ (seatsOf_ : Nat → Int32), ∀ (left_ : Nat → Int32), ∀ (satIn_ : Nat → Int32), it5 (m_X6_wants_37 thrown_ columns_ many_ pupils_ subjectOf_ columnOf_ choices_ open_ v1 v2 v3) n37 v4 v5 seatsOf_ left_ satIn_ = some (rr, o0, o1, o2, o3, o4) → ∀ (H : Heap) (locs : List Loc) (ls : Array Slot), va_P (dC, dI) vwCl [(h0, .inr (6, [.int thrown_, .int told_, .ref h0_row, .int columns_, .int rooms_, .int many_, .ref h0_subjectOf, .ref h0_teacherOf, .ref h0_seatsOf, .ref h0_columnOf, .ref h0_barsOf, .int pupils_, .ref h0_choices, .int kept_, .ref h0_tape, .int taped_, .int at_, .int to_, .int digit_, .int number_, .ref h0_was, .ref h0_readChoices, .int readMany_, .ref h0_open, .ref h0_wayOf, .int bestThen_, .ref h0_cure, .ref h0_left, .ref h0_satIn])), (h0_subjectOf, .inl (cyI, 17, .inl subjectOf_)), (h0_seatsOf, .inl (cyI, 17, .inl seatsOf_)), (h0_columnOf, .inl (cyI, 17, .inl columnOf_)), (h0_choices, .inl (cyI, 24, .inl choices_)), (h0_open, .inl (cyI, 10, .inl open_)), (h0_left, .inl (cyI, 17, .inl left_)), (h0_satIn, .inl (cyI, 24, .inl satIn_))] H → va_D A [(h0, .inr (6, [.int thrown_, .int told_, .ref h0_row, .int columns_, .int rooms_, .int many_, .ref h0_subjectOf, .ref h0_teacherOf, .ref h0_seatsOf, .ref h0_columnOf, .ref h0_barsOf, .int pupils_, .ref h0_choices, .int kept_, .ref h0_tape, .int taped_, .int at_, .int to_, .int digit_, .int number_, .ref h0_was, .ref h0_readChoices, .int readMany_, .ref h0_open, .ref h0_wayOf, .int bestThen_, .ref h0_cure, .ref h0_left, .ref h0_satIn])), (h0_subjectOf, .inl (cyI, 17, .inl subjectOf_)), (h0_seatsOf, .inl (cyI, 17, .inl seatsOf_)), (h0_columnOf, .inl (cyI, 17, .inl columnOf_)), (h0_choices, .inl (cyI, 24, .inl choices_)), (h0_open, .inl (cyI, 10, .inl open_)), (h0_left, .inl (cyI, 17, .inl left_)), (h0_satIn, .inl (cyI, 24, .inl satIn_))] → va_S A s.heap H locs → lv_has ls 6 [(0, .ref h0), (1, .int v1), (2, .int v2), (3, .int v3), (4, .int v4), (5, .int v5)] → W p l e rmX6_wants s m args below meth c H locs 0 0 Q (F0 m 37 ls []) := by
    intro v2 v3 thrown_ open_ n37
    induction n37 with
    | zero => intro v4 v5 seatsOf_ left_ satIn_ h; exact absurd h (fun z => it5_z z)
    | succ n37 ih37 =>
      intro v4 v5 seatsOf_ left_ satIn_ h H locs ls hP hD hS hl
      have h : m_X6_wants_37 thrown_ columns_ many_ pupils_ subjectOf_ columnOf_ choices_ open_ v1 v2 v3 (it5 (m_X6_wants_37 thrown_ columns_ many_ pupils_ subjectOf_ columnOf_ choices_ open_ v1 v2 v3) n37) v4 v5 seatsOf_ left_ satIn_ = some (rr, o0, o1, o2, o3, o4) := h
      unfold m_X6_wants_37 at h
      refine lv_iload hx hb dX6_wants_37 (lv_at hl 5 rfl) ?_
      refine lv_bipush (v := 30) hx hb dX6_wants_39 (by decide) ?_
      refine lv_icmp_gt (tgt := 86) hx hb dX6_wants_41 (by decide) (fun c_ => ?_) (fun c_ => ?_)
      · have h := (if_pos c_).symm.trans h
        exact J86 v3 v4 thrown_ seatsOf_ open_ left_ satIn_ h _ _ _ hP hD hS (lv_sub hl [0, 1, 3, 4] rfl)
      · have h := (if_neg c_).symm.trans h
        refine lv_iload hx hb dX6_wants_44 (lv_at hl 4 rfl) ?_
        refine lv_if_ge (tgt := 86) hx hb dX6_wants_46 (by decide) (fun c_ => ?_) (fun c_ => ?_)
        · have h := (if_pos c_).symm.trans h
          exact J86 v3 v4 thrown_ seatsOf_ open_ left_ satIn_ h _ _ _ hP hD hS (lv_sub hl [0, 1, 3, 4] rfl)
        · have h := (if_neg c_).symm.trans h
          refine lv_aload_n hx hb dX6_wants_49 rfl (lv_at hl 0 rfl) ?_
          refine va_get (D := (dC, dI)) (ci := 6) (v := .ref h0_seatsOf) (C := RX6) (T := TX6) (N := 29) hx hb hts hiX6 hown hK hP 0 rfl rfl 8 (by decide) (hts (.fieldLink RX6 26 "OptionLatticeModel" "seatsOf" "[I") (by decide +kernel)) (fun _ h9 => h9) rfl dX6_wants_50 ?_
          refine lv_iload_n hx hb dX6_wants_53 rfl (lv_at hl 1 rfl) ?_
          refine lv_iload_n hx hb dX6_wants_54 rfl (lv_at hl 3 rfl) ?_
          refine lv_iload hx hb dX6_wants_55 (lv_at hl 5 rfl) ?_
          refine lv_iadd hx hb dX6_wants_57 ?_
          obtain ⟨g_, h⟩ := gd_some h
          refine va_iast hx hb hK hP hD hS 2 1 rfl rfl (inb_in g_) dX6_wants_58 (fun H locs hP hD hS => ?_)
          have hP : va_P (dC, dI) vwCl [(h0, .inr (6, [.int thrown_, .int told_, .ref h0_row, .int columns_, .int rooms_, .int many_, .ref h0_subjectOf, .ref h0_teacherOf, .ref h0_seatsOf, .ref h0_columnOf, .ref h0_barsOf, .int pupils_, .ref h0_choices, .int kept_, .ref h0_tape, .int taped_, .int at_, .int to_, .int digit_, .int number_, .ref h0_was, .ref h0_readChoices, .int readMany_, .ref h0_open, .ref h0_wayOf, .int bestThen_, .ref h0_cure, .ref h0_left, .ref h0_satIn])), (h0_subjectOf, .inl (cyI, 17, .inl subjectOf_)), (h0_seatsOf, .inl (cyI, 17, .inl (upd seatsOf_ v1.toNatClampNeg (v3 + v5)))), (h0_columnOf, .inl (cyI, 17, .inl columnOf_)), (h0_choices, .inl (cyI, 24, .inl choices_)), (h0_open, .inl (cyI, 10, .inl open_)), (h0_left, .inl (cyI, 17, .inl left_)), (h0_satIn, .inl (cyI, 24, .inl satIn_))] H := hP
          have hD : va_D A [(h0, .inr (6, [.int thrown_, .int told_, .ref h0_row, .int columns_, .int rooms_, .int many_, .ref h0_subjectOf, .ref h0_teacherOf, .ref h0_seatsOf, .ref h0_columnOf, .ref h0_barsOf, .int pupils_, .ref h0_choices, .int kept_, .ref h0_tape, .int taped_, .int at_, .int to_, .int digit_, .int number_, .ref h0_was, .ref h0_readChoices, .int readMany_, .ref h0_open, .ref h0_wayOf, .int bestThen_, .ref h0_cure, .ref h0_left, .ref h0_satIn])), (h0_subjectOf, .inl (cyI, 17, .inl subjectOf_)), (h0_seatsOf, .inl (cyI, 17, .inl (upd seatsOf_ v1.toNatClampNeg (v3 + v5)))), (h0_columnOf, .inl (cyI, 17, .inl columnOf_)), (h0_choices, .inl (cyI, 24, .inl choices_)), (h0_open, .inl (cyI, 10, .inl open_)), (h0_left, .inl (cyI, 17, .inl left_)), (h0_satIn, .inl (cyI, 24, .inl satIn_))] := hD
          refine lv_aload_n hx hb dX6_wants_59 rfl (lv_at hl 0 rfl) ?_
          refine lv_iconst (v := 0) hx hb dX6_wants_60 (by decide) ?_
          obtain ⟨r_1, left_2, satIn_3, hq, h⟩ := bd3_some h
          refine uV_i (b := h0) (As := [.int 0]) (rest := []) ⟨hx, hb, hml, hown, hts⟩ (c_X6_seatsAll l dC dI cyC cyI cyJ h0 h0_row h0_subjectOf h0_teacherOf h0_seatsOf h0_columnOf h0_barsOf h0_choices h0_tape h0_was h0_readChoices h0_open h0_wayOf h0_cure h0_left h0_satIn thrown_ told_ columns_ rooms_ many_ pupils_ kept_ taped_ at_ to_ digit_ number_ readMany_ bestThen_ subjectOf_ (upd seatsOf_ v1.toNatClampNeg (v3 + v5)) columnOf_ choices_ left_ satIn_ 0 r_1 left_2 satIn_3 hq) (cwV 1 hts gX6_wants_X6_seatsAll rfl rfl rfl (by decide +kernel) ⟨Nat.le_of_ble_eq_true rfl, Nat.le_of_ble_eq_true rfl⟩) hK hE hA hP hD hS [0, 1, 2, 3, 4, 6, 7] rfl rfl rfl 6 0 rfl rfl rfl hl.1 rfl (Nat.le_of_ble_eq_true rfl) ⟨Nat.zero_le _, Nat.zero_le _⟩ dX6_wants_61 (fun H locs hP hD hS => ?_)
          have hP : va_P (dC, dI) vwCl [(h0, .inr (6, [.int thrown_, .int told_, .ref h0_row, .int columns_, .int rooms_, .int many_, .ref h0_subjectOf, .ref h0_teacherOf, .ref h0_seatsOf, .ref h0_columnOf, .ref h0_barsOf, .int pupils_, .ref h0_choices, .int kept_, .ref h0_tape, .int taped_, .int at_, .int to_, .int digit_, .int number_, .ref h0_was, .ref h0_readChoices, .int readMany_, .ref h0_open, .ref h0_wayOf, .int bestThen_, .ref h0_cure, .ref h0_left, .ref h0_satIn])), (h0_subjectOf, .inl (cyI, 17, .inl subjectOf_)), (h0_seatsOf, .inl (cyI, 17, .inl (upd seatsOf_ v1.toNatClampNeg (v3 + v5)))), (h0_columnOf, .inl (cyI, 17, .inl columnOf_)), (h0_choices, .inl (cyI, 24, .inl choices_)), (h0_open, .inl (cyI, 10, .inl open_)), (h0_left, .inl (cyI, 17, .inl left_2)), (h0_satIn, .inl (cyI, 24, .inl satIn_3))] H := hP
          have hD : va_D A [(h0, .inr (6, [.int thrown_, .int told_, .ref h0_row, .int columns_, .int rooms_, .int many_, .ref h0_subjectOf, .ref h0_teacherOf, .ref h0_seatsOf, .ref h0_columnOf, .ref h0_barsOf, .int pupils_, .ref h0_choices, .int kept_, .ref h0_tape, .int taped_, .int at_, .int to_, .int digit_, .int number_, .ref h0_was, .ref h0_readChoices, .int readMany_, .ref h0_open, .ref h0_wayOf, .int bestThen_, .ref h0_cure, .ref h0_left, .ref h0_satIn])), (h0_subjectOf, .inl (cyI, 17, .inl subjectOf_)), (h0_seatsOf, .inl (cyI, 17, .inl (upd seatsOf_ v1.toNatClampNeg (v3 + v5)))), (h0_columnOf, .inl (cyI, 17, .inl columnOf_)), (h0_choices, .inl (cyI, 24, .inl choices_)), (h0_open, .inl (cyI, 10, .inl open_)), (h0_left, .inl (cyI, 17, .inl left_2)), (h0_satIn, .inl (cyI, 24, .inl satIn_3))] := hD
          obtain ⟨r_4, hq, h⟩ := bd1_some h
          refine uS_i (As := [.int r_1]) (rest := []) ⟨hx, hb, hml, hown, hts⟩ (c_X6_bits l dC dI cyC cyI cyJ r_1 r_4 hq) (va_cwS 1 hts gX6_wants_X6_bits rfl rfl rfl (by decide +kernel) ⟨Nat.le_of_ble_eq_true rfl, Nat.le_of_ble_eq_true rfl⟩) hK hE hA hP hD hS [] rfl rfl rfl rfl hl.1 rfl (Nat.le_of_ble_eq_true rfl) ⟨Nat.zero_le _, Nat.zero_le _⟩ dX6_wants_64 (fun H locs hP hD hS => ?_)
          have hP : va_P (dC, dI) vwCl [(h0, .inr (6, [.int thrown_, .int told_, .ref h0_row, .int columns_, .int rooms_, .int many_, .ref h0_subjectOf, .ref h0_teacherOf, .ref h0_seatsOf, .ref h0_columnOf, .ref h0_barsOf, .int pupils_, .ref h0_choices, .int kept_, .ref h0_tape, .int taped_, .int at_, .int to_, .int digit_, .int number_, .ref h0_was, .ref h0_readChoices, .int readMany_, .ref h0_open, .ref h0_wayOf, .int bestThen_, .ref h0_cure, .ref h0_left, .ref h0_satIn])), (h0_subjectOf, .inl (cyI, 17, .inl subjectOf_)), (h0_seatsOf, .inl (cyI, 17, .inl (upd seatsOf_ v1.toNatClampNeg (v3 + v5)))), (h0_columnOf, .inl (cyI, 17, .inl columnOf_)), (h0_choices, .inl (cyI, 24, .inl choices_)), (h0_open, .inl (cyI, 10, .inl open_)), (h0_left, .inl (cyI, 17, .inl left_2)), (h0_satIn, .inl (cyI, 24, .inl satIn_3))] H := hP
          have hD : va_D A [(h0, .inr (6, [.int thrown_, .int told_, .ref h0_row, .int columns_, .int rooms_, .int many_, .ref h0_subjectOf, .ref h0_teacherOf, .ref h0_seatsOf, .ref h0_columnOf, .ref h0_barsOf, .int pupils_, .ref h0_choices, .int kept_, .ref h0_tape, .int taped_, .int at_, .int to_, .int digit_, .int number_, .ref h0_was, .ref h0_readChoices, .int readMany_, .ref h0_open, .ref h0_wayOf, .int bestThen_, .ref h0_cure, .ref h0_left, .ref h0_satIn])), (h0_subjectOf, .inl (cyI, 17, .inl subjectOf_)), (h0_seatsOf, .inl (cyI, 17, .inl (upd seatsOf_ v1.toNatClampNeg (v3 + v5)))), (h0_columnOf, .inl (cyI, 17, .inl columnOf_)), (h0_choices, .inl (cyI, 24, .inl choices_)), (h0_open, .inl (cyI, 10, .inl open_)), (h0_left, .inl (cyI, 17, .inl left_2)), (h0_satIn, .inl (cyI, 24, .inl satIn_3))] := hD
          refine lv_iload_n hx hb dX6_wants_67 rfl (lv_at hl 2 rfl) ?_
          refine lv_icmp_ne (tgt := 76) hx hb dX6_wants_68 (by decide) (fun c_ => ?_) (fun c_ => ?_)
          · have h := (if_neg c_).symm.trans h
            refine lv_iload hx hb dX6_wants_76 (lv_at hl 4 rfl) ?_
            refine lv_istore (lv' := [(4, .int v4), (0, .ref h0), (1, .int v1), (2, .int v2), (3, .int v3), (5, .int v5)]) hx hb dX6_wants_78 hl (by decide) rfl (fun ls hl => ?_)
            obtain ⟨v5_5, e_v5_5⟩ : ∃ z : Int32, z = (v5 + 1) := ⟨_, rfl⟩
            have h := lt_use e_v5_5 h
            refine lv_iinc (v := v5_5) (lv' := [(5, .int v5_5), (4, .int v4), (0, .ref h0), (1, .int v1), (2, .int v2), (3, .int v3)]) hx hb dX6_wants_80 hl (k := 5) rfl (by rw [e_v5_5]; rfl) (by decide) rfl (fun ls hl => ?_)
            refine lv_goto (tgt := 37) hx hb dX6_wants_83 (by decide) ?_
            exact ih37 v4 v5_5 (upd seatsOf_ v1.toNatClampNeg (v3 + v5)) left_2 satIn_3 h _ _ _ hP hD hS (lv_sub hl [2, 3, 4, 5, 1, 0] rfl)
          · have h := (if_pos c_).symm.trans h
            refine lv_iload hx hb dX6_wants_71 (lv_at hl 5 rfl) ?_
            refine lv_goto (tgt := 78) hx hb dX6_wants_73 (by decide) ?_
            refine lv_istore (lv' := [(4, .int v5), (0, .ref h0), (1, .int v1), (2, .int v2), (3, .int v3), (5, .int v5)]) hx hb dX6_wants_78 hl (by decide) rfl (fun ls hl => ?_)
            obtain ⟨v5_6, e_v5_6⟩ : ∃ z : Int32, z = (v5 + 1) := ⟨_, rfl⟩
            have h := lt_use e_v5_6 h
            refine lv_iinc (v := v5_6) (lv' := [(5, .int v5_6), (4, .int v5), (0, .ref h0), (1, .int v1), (2, .int v2), (3, .int v3)]) hx hb dX6_wants_80 hl (k := 5) rfl (by rw [e_v5_6]; rfl) (by decide) rfl (fun ls hl => ?_)
            refine lv_goto (tgt := 37) hx hb dX6_wants_83 (by decide) ?_
            exact ih37 v5 v5_6 (upd seatsOf_ v1.toNatClampNeg (v3 + v5)) left_2 satIn_3 h _ _ _ hP hD hS (lv_sub hl [2, 3, 4, 5, 1, 0] rfl)
  unfold m_X6_wants at h
  refine lv_aload_n hx hb dX6_wants_0 rfl (lv_at hl 0 rfl) ?_
  refine lv_iconst (v := 0) hx hb dX6_wants_1 (by decide) ?_
  refine va_put (D := (dC, dI)) (ci := 6) (v := .int 0) (ty := .int) (C := RX6) (T := TX6) (N := 29) hx hb hts hiX6 tyX6 tyX6_ok nmX6 hown hK hP hD hS 0 rfl rfl 0 (by decide) (hts (.fieldLink RX6 62 "OptionLatticeModel" "thrown" "I") (by decide +kernel)) (fun _ h9 => h9) rfl (by decide +kernel) rfl rfl (Nat.le_of_ble_eq_true rfl) dX6_wants_2 (fun H locs hP hD hS => ?_)
  have hP : va_P (dC, dI) vwCl [(h0, .inr (6, [.int 0, .int told_, .ref h0_row, .int columns_, .int rooms_, .int many_, .ref h0_subjectOf, .ref h0_teacherOf, .ref h0_seatsOf, .ref h0_columnOf, .ref h0_barsOf, .int pupils_, .ref h0_choices, .int kept_, .ref h0_tape, .int taped_, .int at_, .int to_, .int digit_, .int number_, .ref h0_was, .ref h0_readChoices, .int readMany_, .ref h0_open, .ref h0_wayOf, .int bestThen_, .ref h0_cure, .ref h0_left, .ref h0_satIn])), (h0_subjectOf, .inl (cyI, 17, .inl subjectOf_)), (h0_seatsOf, .inl (cyI, 17, .inl seatsOf_)), (h0_columnOf, .inl (cyI, 17, .inl columnOf_)), (h0_choices, .inl (cyI, 24, .inl choices_)), (h0_open, .inl (cyI, 10, .inl open_)), (h0_left, .inl (cyI, 17, .inl left_)), (h0_satIn, .inl (cyI, 24, .inl satIn_))] H := hP
  have hD : va_D A [(h0, .inr (6, [.int 0, .int told_, .ref h0_row, .int columns_, .int rooms_, .int many_, .ref h0_subjectOf, .ref h0_teacherOf, .ref h0_seatsOf, .ref h0_columnOf, .ref h0_barsOf, .int pupils_, .ref h0_choices, .int kept_, .ref h0_tape, .int taped_, .int at_, .int to_, .int digit_, .int number_, .ref h0_was, .ref h0_readChoices, .int readMany_, .ref h0_open, .ref h0_wayOf, .int bestThen_, .ref h0_cure, .ref h0_left, .ref h0_satIn])), (h0_subjectOf, .inl (cyI, 17, .inl subjectOf_)), (h0_seatsOf, .inl (cyI, 17, .inl seatsOf_)), (h0_columnOf, .inl (cyI, 17, .inl columnOf_)), (h0_choices, .inl (cyI, 24, .inl choices_)), (h0_open, .inl (cyI, 10, .inl open_)), (h0_left, .inl (cyI, 17, .inl left_)), (h0_satIn, .inl (cyI, 24, .inl satIn_))] := hD
  refine lv_aload_n hx hb dX6_wants_5 rfl (lv_at hl 0 rfl) ?_
  refine lv_iload_n hx hb dX6_wants_6 rfl (lv_at hl 1 rfl) ?_
  obtain ⟨r_7, hq, h⟩ := bd1_some h
  refine uV_i (b := h0) (As := [.int v1]) (rest := []) ⟨hx, hb, hml, hown, hts⟩ (c_X6_isSection l dC dI cyC cyI cyJ h0 h0_row h0_subjectOf h0_teacherOf h0_seatsOf h0_columnOf h0_barsOf h0_choices h0_tape h0_was h0_readChoices h0_open h0_wayOf h0_cure h0_left h0_satIn 0 told_ columns_ rooms_ many_ pupils_ kept_ taped_ at_ to_ digit_ number_ readMany_ bestThen_ v1 r_7 hq) (cwV 1 hts gX6_wants_X6_isSection rfl rfl rfl (by decide +kernel) ⟨Nat.le_of_ble_eq_true rfl, Nat.le_of_ble_eq_true rfl⟩) hK hE hA hP hD hS [0] rfl rfl rfl 6 0 rfl rfl rfl hl.1 rfl (Nat.le_of_ble_eq_true rfl) ⟨Nat.zero_le _, Nat.zero_le _⟩ dX6_wants_7 (fun H locs hP hD hS => ?_)
  have hP : va_P (dC, dI) vwCl [(h0, .inr (6, [.int 0, .int told_, .ref h0_row, .int columns_, .int rooms_, .int many_, .ref h0_subjectOf, .ref h0_teacherOf, .ref h0_seatsOf, .ref h0_columnOf, .ref h0_barsOf, .int pupils_, .ref h0_choices, .int kept_, .ref h0_tape, .int taped_, .int at_, .int to_, .int digit_, .int number_, .ref h0_was, .ref h0_readChoices, .int readMany_, .ref h0_open, .ref h0_wayOf, .int bestThen_, .ref h0_cure, .ref h0_left, .ref h0_satIn])), (h0_subjectOf, .inl (cyI, 17, .inl subjectOf_)), (h0_seatsOf, .inl (cyI, 17, .inl seatsOf_)), (h0_columnOf, .inl (cyI, 17, .inl columnOf_)), (h0_choices, .inl (cyI, 24, .inl choices_)), (h0_open, .inl (cyI, 10, .inl open_)), (h0_left, .inl (cyI, 17, .inl left_)), (h0_satIn, .inl (cyI, 24, .inl satIn_))] H := hP
  have hD : va_D A [(h0, .inr (6, [.int 0, .int told_, .ref h0_row, .int columns_, .int rooms_, .int many_, .ref h0_subjectOf, .ref h0_teacherOf, .ref h0_seatsOf, .ref h0_columnOf, .ref h0_barsOf, .int pupils_, .ref h0_choices, .int kept_, .ref h0_tape, .int taped_, .int at_, .int to_, .int digit_, .int number_, .ref h0_was, .ref h0_readChoices, .int readMany_, .ref h0_open, .ref h0_wayOf, .int bestThen_, .ref h0_cure, .ref h0_left, .ref h0_satIn])), (h0_subjectOf, .inl (cyI, 17, .inl subjectOf_)), (h0_seatsOf, .inl (cyI, 17, .inl seatsOf_)), (h0_columnOf, .inl (cyI, 17, .inl columnOf_)), (h0_choices, .inl (cyI, 24, .inl choices_)), (h0_open, .inl (cyI, 10, .inl open_)), (h0_left, .inl (cyI, 17, .inl left_)), (h0_satIn, .inl (cyI, 24, .inl satIn_))] := hD
  refine lv_if_ne (tgt := 15) hx hb dX6_wants_10 (by decide) (fun c_ => ?_) (fun c_ => ?_)
  · have h := (if_neg c_).symm.trans h
    refine lv_aload_n hx hb dX6_wants_15 rfl (lv_at hl 0 rfl) ?_
    obtain ⟨r_8, open_9, hq, h⟩ := bd2_some h
    refine uV_i (b := h0) (As := []) (rest := []) ⟨hx, hb, hml, hown, hts⟩ (c_X6_fitting l dC dI cyC cyI cyJ h0 h0_row h0_subjectOf h0_teacherOf h0_seatsOf h0_columnOf h0_barsOf h0_choices h0_tape h0_was h0_readChoices h0_open h0_wayOf h0_cure h0_left h0_satIn 0 told_ columns_ rooms_ many_ pupils_ kept_ taped_ at_ to_ digit_ number_ readMany_ bestThen_ subjectOf_ columnOf_ choices_ open_ r_8 open_9 hq) (cwV 0 hts gX6_wants_X6_fitting rfl rfl rfl (by decide +kernel) ⟨Nat.le_of_ble_eq_true rfl, Nat.le_of_ble_eq_true rfl⟩) hK hE hA hP hD hS [0, 1, 3, 4, 5] rfl rfl rfl 6 0 rfl rfl rfl hl.1 rfl (Nat.le_of_ble_eq_true rfl) ⟨Nat.zero_le _, Nat.zero_le _⟩ dX6_wants_16 (fun H locs hP hD hS => ?_)
    have hP : va_P (dC, dI) vwCl [(h0, .inr (6, [.int 0, .int told_, .ref h0_row, .int columns_, .int rooms_, .int many_, .ref h0_subjectOf, .ref h0_teacherOf, .ref h0_seatsOf, .ref h0_columnOf, .ref h0_barsOf, .int pupils_, .ref h0_choices, .int kept_, .ref h0_tape, .int taped_, .int at_, .int to_, .int digit_, .int number_, .ref h0_was, .ref h0_readChoices, .int readMany_, .ref h0_open, .ref h0_wayOf, .int bestThen_, .ref h0_cure, .ref h0_left, .ref h0_satIn])), (h0_subjectOf, .inl (cyI, 17, .inl subjectOf_)), (h0_seatsOf, .inl (cyI, 17, .inl seatsOf_)), (h0_columnOf, .inl (cyI, 17, .inl columnOf_)), (h0_choices, .inl (cyI, 24, .inl choices_)), (h0_open, .inl (cyI, 10, .inl open_9)), (h0_left, .inl (cyI, 17, .inl left_)), (h0_satIn, .inl (cyI, 24, .inl satIn_))] H := hP
    have hD : va_D A [(h0, .inr (6, [.int 0, .int told_, .ref h0_row, .int columns_, .int rooms_, .int many_, .ref h0_subjectOf, .ref h0_teacherOf, .ref h0_seatsOf, .ref h0_columnOf, .ref h0_barsOf, .int pupils_, .ref h0_choices, .int kept_, .ref h0_tape, .int taped_, .int at_, .int to_, .int digit_, .int number_, .ref h0_was, .ref h0_readChoices, .int readMany_, .ref h0_open, .ref h0_wayOf, .int bestThen_, .ref h0_cure, .ref h0_left, .ref h0_satIn])), (h0_subjectOf, .inl (cyI, 17, .inl subjectOf_)), (h0_seatsOf, .inl (cyI, 17, .inl seatsOf_)), (h0_columnOf, .inl (cyI, 17, .inl columnOf_)), (h0_choices, .inl (cyI, 24, .inl choices_)), (h0_open, .inl (cyI, 10, .inl open_9)), (h0_left, .inl (cyI, 17, .inl left_)), (h0_satIn, .inl (cyI, 24, .inl satIn_))] := hD
    obtain ⟨r_10, hq, h⟩ := bd1_some h
    refine uS_i (As := [.int r_8]) (rest := []) ⟨hx, hb, hml, hown, hts⟩ (c_X6_bits l dC dI cyC cyI cyJ r_8 r_10 hq) (va_cwS 1 hts gX6_wants_X6_bits rfl rfl rfl (by decide +kernel) ⟨Nat.le_of_ble_eq_true rfl, Nat.le_of_ble_eq_true rfl⟩) hK hE hA hP hD hS [] rfl rfl rfl rfl hl.1 rfl (Nat.le_of_ble_eq_true rfl) ⟨Nat.zero_le _, Nat.zero_le _⟩ dX6_wants_19 (fun H locs hP hD hS => ?_)
    have hP : va_P (dC, dI) vwCl [(h0, .inr (6, [.int 0, .int told_, .ref h0_row, .int columns_, .int rooms_, .int many_, .ref h0_subjectOf, .ref h0_teacherOf, .ref h0_seatsOf, .ref h0_columnOf, .ref h0_barsOf, .int pupils_, .ref h0_choices, .int kept_, .ref h0_tape, .int taped_, .int at_, .int to_, .int digit_, .int number_, .ref h0_was, .ref h0_readChoices, .int readMany_, .ref h0_open, .ref h0_wayOf, .int bestThen_, .ref h0_cure, .ref h0_left, .ref h0_satIn])), (h0_subjectOf, .inl (cyI, 17, .inl subjectOf_)), (h0_seatsOf, .inl (cyI, 17, .inl seatsOf_)), (h0_columnOf, .inl (cyI, 17, .inl columnOf_)), (h0_choices, .inl (cyI, 24, .inl choices_)), (h0_open, .inl (cyI, 10, .inl open_9)), (h0_left, .inl (cyI, 17, .inl left_)), (h0_satIn, .inl (cyI, 24, .inl satIn_))] H := hP
    have hD : va_D A [(h0, .inr (6, [.int 0, .int told_, .ref h0_row, .int columns_, .int rooms_, .int many_, .ref h0_subjectOf, .ref h0_teacherOf, .ref h0_seatsOf, .ref h0_columnOf, .ref h0_barsOf, .int pupils_, .ref h0_choices, .int kept_, .ref h0_tape, .int taped_, .int at_, .int to_, .int digit_, .int number_, .ref h0_was, .ref h0_readChoices, .int readMany_, .ref h0_open, .ref h0_wayOf, .int bestThen_, .ref h0_cure, .ref h0_left, .ref h0_satIn])), (h0_subjectOf, .inl (cyI, 17, .inl subjectOf_)), (h0_seatsOf, .inl (cyI, 17, .inl seatsOf_)), (h0_columnOf, .inl (cyI, 17, .inl columnOf_)), (h0_choices, .inl (cyI, 24, .inl choices_)), (h0_open, .inl (cyI, 10, .inl open_9)), (h0_left, .inl (cyI, 17, .inl left_)), (h0_satIn, .inl (cyI, 24, .inl satIn_))] := hD
    refine lv_istore_n (lv' := [(2, .int r_10), (0, .ref h0), (1, .int v1)]) hx hb dX6_wants_22 rfl hl (by decide) rfl (fun ls hl => ?_)
    refine lv_aload_n hx hb dX6_wants_23 rfl (lv_at hl 1 rfl) ?_
    refine va_get (D := (dC, dI)) (ci := 6) (v := .ref h0_seatsOf) (C := RX6) (T := TX6) (N := 29) hx hb hts hiX6 hown hK hP 0 rfl rfl 8 (by decide) (hts (.fieldLink RX6 26 "OptionLatticeModel" "seatsOf" "[I") (by decide +kernel)) (fun _ h9 => h9) rfl dX6_wants_24 ?_
    refine lv_iload_n hx hb dX6_wants_27 rfl (lv_at hl 2 rfl) ?_
    obtain ⟨g_, h⟩ := gd_some h
    refine va_iald hx hb hK hP 2 1 rfl rfl (inb_in g_) dX6_wants_28 ?_
    refine lv_topi (fun v3_11 e_v3_11 => ?_)
    have h := lt_use e_v3_11 h
    refine lv_istore_n (lv' := [(3, .int v3_11), (2, .int r_10), (0, .ref h0), (1, .int v1)]) hx hb dX6_wants_29 rfl hl (by decide) rfl (fun ls hl => ?_)
    refine lv_bipush (v := (-2)) hx hb dX6_wants_30 (by decide) ?_
    refine lv_istore (lv' := [(4, .int (-2)), (3, .int v3_11), (2, .int r_10), (0, .ref h0), (1, .int v1)]) hx hb dX6_wants_32 hl (by decide) rfl (fun ls hl => ?_)
    refine lv_iconst (v := 0) hx hb dX6_wants_34 (by decide) ?_
    refine lv_istore (lv' := [(5, .int 0), (4, .int (-2)), (3, .int v3_11), (2, .int r_10), (0, .ref h0), (1, .int v1)]) hx hb dX6_wants_35 hl (by decide) rfl (fun ls hl => ?_)
    exact L37 r_10 v3_11 0 open_9 1100 (-2) 0 seatsOf_ left_ satIn_ h _ _ _ hP hD hS (lv_sub hl [4, 5, 3, 2, 1, 0] rfl)
  · have h := (if_pos c_).symm.trans h
    refine lv_iconst (v := (-1)) hx hb dX6_wants_13 (by decide) ?_
    have h : some ((-1), 0, seatsOf_, open_, left_, satIn_) = some (rr, o0, o1, o2, o3, o4) := h
    have z0 := Option.some.inj h
    obtain ⟨rfl, z1⟩ := Prod.mk.inj z0
    obtain ⟨rfl, z2⟩ := Prod.mk.inj z1
    obtain ⟨rfl, z3⟩ := Prod.mk.inj z2
    obtain ⟨rfl, z4⟩ := Prod.mk.inj z3
    obtain ⟨rfl, z5⟩ := Prod.mk.inj z4
    obtain rfl := z5
    exact hret _ _ _ _ hP hS rfl dX6_wants_14

def m_X6_outs_4 (many_ : Int32) (columnOf_ : Nat → Int32) (rec4 : Int32 → Int32 → Option (Int32)) : Int32 → Int32 → Option (Int32) := fun v1 v2 =>
  (if many_ ≤ v2 then some v1 else gd (inb v2 17) ((if (columnOf_ v2.toNatClampNeg) = (-2) then lt' (v1 ||| ((1 : Int32) <<< (v2 &&& 31))) (fun v1_3 => lt' (v2 + 1) (fun v2_4 => rec4 v1_3 v2_4)) else lt' (v1 ||| 0) (fun v1_1 => lt' (v2 + 1) (fun v2_2 => rec4 v1_1 v2_2)))))
def m_X6_outs (many_ : Int32) (columnOf_ : Nat → Int32) : Option (Int32) :=
  it2 (m_X6_outs_4 many_ columnOf_) 1100 0 0
abbrev rmX6_outs : Room := { frames := 0, cells := 0, slots := 0, locals := 0 }
set_option maxHeartbeats 4000000 in
set_option maxRecDepth 100000 in
theorem c_X6_outs (l : Launch) (dC : Nat → ClassId) (dI : Nat → Nat → Nat) (cyC cyI cyJ : ClassId) (h0 h0_row h0_subjectOf h0_teacherOf h0_seatsOf h0_columnOf h0_barsOf h0_choices h0_tape h0_was h0_readChoices h0_open h0_wayOf h0_cure h0_left h0_satIn : Nat) (thrown_ : Int32) (told_ : Int32) (columns_ : Int32) (rooms_ : Int32) (many_ : Int32) (pupils_ : Int32) (kept_ : Int32) (taped_ : Int32) (at_ : Int32) (to_ : Int32) (digit_ : Int32) (number_ : Int32) (readMany_ : Int32) (bestThen_ : Int32) (columnOf_ : Nat → Int32) (rr : Int32) (h : m_X6_outs many_ columnOf_ = some rr) : uMi l yX6_outs wsX6_outs rmX6_outs (dC, dI) [(cyC, .char), (cyI, .int), (cyJ, .long)] [.ref h0] [(h0, .inr (6, [.int thrown_, .int told_, .ref h0_row, .int columns_, .int rooms_, .int many_, .ref h0_subjectOf, .ref h0_teacherOf, .ref h0_seatsOf, .ref h0_columnOf, .ref h0_barsOf, .int pupils_, .ref h0_choices, .int kept_, .ref h0_tape, .int taped_, .int at_, .int to_, .int digit_, .int number_, .ref h0_was, .ref h0_readChoices, .int readMany_, .ref h0_open, .ref h0_wayOf, .int bestThen_, .ref h0_cure, .ref h0_left, .ref h0_satIn])), (h0_columnOf, .inl (cyI, 17, .inl columnOf_))] [(h0, .inr (6, [.int thrown_, .int told_, .ref h0_row, .int columns_, .int rooms_, .int many_, .ref h0_subjectOf, .ref h0_teacherOf, .ref h0_seatsOf, .ref h0_columnOf, .ref h0_barsOf, .int pupils_, .ref h0_choices, .int kept_, .ref h0_tape, .int taped_, .int at_, .int to_, .int digit_, .int number_, .ref h0_was, .ref h0_readChoices, .int readMany_, .ref h0_open, .ref h0_wayOf, .int bestThen_, .ref h0_cure, .ref h0_left, .ref h0_satIn])), (h0_columnOf, .inl (cyI, 17, .inl columnOf_))] rr := by
  refine uMi.of (cc := cX6_outs) (maxL := 3) (by decide) rfl (Nat.le_of_ble_eq_true rfl) (fun p e s m args below meth c A ls Q hx hb hml hown hts hA hP hK hD hE hS hl hret => ?_)
  have hown : s.vm.findClass RX6 = some m.cls := hown
  have hl : lv_has ls 3 [(0, .ref h0)] := hl
  have hiX6 : ∀ w ∈ u_ws RX6 TX6 29, w ∈ wsX6_outs := fun _ h9 => List.mem_cons_of_mem _ (List.mem_append_right _ h9)
  have L4 : ∀ (n4 : Nat), ∀ (v1 : Int32), ∀ (v2 : Int32), it2 (m_X6_outs_4 many_ columnOf_) n4 v1 v2 = some rr → ∀ (H : Heap) (locs : List Loc) (ls : Array Slot), va_P (dC, dI) vwCl [(h0, .inr (6, [.int thrown_, .int told_, .ref h0_row, .int columns_, .int rooms_, .int many_, .ref h0_subjectOf, .ref h0_teacherOf, .ref h0_seatsOf, .ref h0_columnOf, .ref h0_barsOf, .int pupils_, .ref h0_choices, .int kept_, .ref h0_tape, .int taped_, .int at_, .int to_, .int digit_, .int number_, .ref h0_was, .ref h0_readChoices, .int readMany_, .ref h0_open, .ref h0_wayOf, .int bestThen_, .ref h0_cure, .ref h0_left, .ref h0_satIn])), (h0_columnOf, .inl (cyI, 17, .inl columnOf_))] H → va_D A [(h0, .inr (6, [.int thrown_, .int told_, .ref h0_row, .int columns_, .int rooms_, .int many_, .ref h0_subjectOf, .ref h0_teacherOf, .ref h0_seatsOf, .ref h0_columnOf, .ref h0_barsOf, .int pupils_, .ref h0_choices, .int kept_, .ref h0_tape, .int taped_, .int at_, .int to_, .int digit_, .int number_, .ref h0_was, .ref h0_readChoices, .int readMany_, .ref h0_open, .ref h0_wayOf, .int bestThen_, .ref h0_cure, .ref h0_left, .ref h0_satIn])), (h0_columnOf, .inl (cyI, 17, .inl columnOf_))] → va_S A s.heap H locs → lv_has ls 3 [(0, .ref h0), (1, .int v1), (2, .int v2)] → W p l e rmX6_outs s m args below meth c H locs 0 0 Q (F0 m 4 ls []) := by
    intro n4
    induction n4 with
    | zero => intro v1 v2 h; exact absurd h (fun z => it2_z z)
    | succ n4 ih4 =>
      intro v1 v2 h H locs ls hP hD hS hl
      have h : m_X6_outs_4 many_ columnOf_ (it2 (m_X6_outs_4 many_ columnOf_) n4) v1 v2 = some rr := h
      unfold m_X6_outs_4 at h
      refine lv_iload_n hx hb dX6_outs_4 rfl (lv_at hl 2 rfl) ?_
      refine lv_aload_n hx hb dX6_outs_5 rfl (lv_at hl 0 rfl) ?_
      refine va_get (D := (dC, dI)) (ci := 6) (v := .int many_) (C := RX6) (T := TX6) (N := 29) hx hb hts hiX6 hown hK hP 0 rfl rfl 5 (by decide) (hts (.fieldLink RX6 87 "OptionLatticeModel" "many" "I") (by decide +kernel)) (fun _ h9 => h9) rfl dX6_outs_6 ?_
      refine lv_icmp_ge (tgt := 39) hx hb dX6_outs_9 (by decide) (fun c_ => ?_) (fun c_ => ?_)
      · have h := (if_pos c_).symm.trans h
        refine lv_iload_n hx hb dX6_outs_39 rfl (lv_at hl 1 rfl) ?_
        have h : some v1 = some rr := h
        have z0 := Option.some.inj h
        obtain rfl := z0
        exact hret _ _ _ _ hP hS rfl dX6_outs_40
      · have h := (if_neg c_).symm.trans h
        refine lv_iload_n hx hb dX6_outs_12 rfl (lv_at hl 1 rfl) ?_
        refine lv_aload_n hx hb dX6_outs_13 rfl (lv_at hl 0 rfl) ?_
        refine va_get (D := (dC, dI)) (ci := 6) (v := .ref h0_columnOf) (C := RX6) (T := TX6) (N := 29) hx hb hts hiX6 hown hK hP 0 rfl rfl 9 (by decide) (hts (.fieldLink RX6 29 "OptionLatticeModel" "columnOf" "[I") (by decide +kernel)) (fun _ h9 => h9) rfl dX6_outs_14 ?_
        refine lv_iload_n hx hb dX6_outs_17 rfl (lv_at hl 2 rfl) ?_
        obtain ⟨g_, h⟩ := gd_some h
        refine va_iald hx hb hK hP 1 1 rfl rfl (inb_in g_) dX6_outs_18 ?_
        refine lv_bipush (v := (-2)) hx hb dX6_outs_19 (by decide) ?_
        refine lv_icmp_ne (tgt := 30) hx hb dX6_outs_21 (by decide) (fun c_ => ?_) (fun c_ => ?_)
        · have h := (if_neg c_).symm.trans h
          refine lv_iconst (v := 0) hx hb dX6_outs_30 (by decide) ?_
          refine lv_ior hx hb dX6_outs_31 ?_
          refine lv_topi (fun v1_1 e_v1_1 => ?_)
          have h := lt_use e_v1_1 h
          refine lv_istore_n (lv' := [(1, .int v1_1), (0, .ref h0), (2, .int v2)]) hx hb dX6_outs_32 rfl hl (by decide) rfl (fun ls hl => ?_)
          obtain ⟨v2_2, e_v2_2⟩ : ∃ z : Int32, z = (v2 + 1) := ⟨_, rfl⟩
          have h := lt_use e_v2_2 h
          refine lv_iinc (v := v2_2) (lv' := [(2, .int v2_2), (1, .int v1_1), (0, .ref h0)]) hx hb dX6_outs_33 hl (k := 2) rfl (by rw [e_v2_2]; rfl) (by decide) rfl (fun ls hl => ?_)
          refine lv_goto (tgt := 4) hx hb dX6_outs_36 (by decide) ?_
          exact ih4 v1_1 v2_2 h _ _ _ hP hD hS (lv_sub hl [2, 1, 0] rfl)
        · have h := (if_pos c_).symm.trans h
          refine lv_iconst (v := 1) hx hb dX6_outs_24 (by decide) ?_
          refine lv_iload_n hx hb dX6_outs_25 rfl (lv_at hl 2 rfl) ?_
          refine lv_ishl hx hb dX6_outs_26 ?_
          refine lv_goto (tgt := 31) hx hb dX6_outs_27 (by decide) ?_
          refine lv_ior hx hb dX6_outs_31 ?_
          refine lv_topi (fun v1_3 e_v1_3 => ?_)
          have h := lt_use e_v1_3 h
          refine lv_istore_n (lv' := [(1, .int v1_3), (0, .ref h0), (2, .int v2)]) hx hb dX6_outs_32 rfl hl (by decide) rfl (fun ls hl => ?_)
          obtain ⟨v2_4, e_v2_4⟩ : ∃ z : Int32, z = (v2 + 1) := ⟨_, rfl⟩
          have h := lt_use e_v2_4 h
          refine lv_iinc (v := v2_4) (lv' := [(2, .int v2_4), (1, .int v1_3), (0, .ref h0)]) hx hb dX6_outs_33 hl (k := 2) rfl (by rw [e_v2_4]; rfl) (by decide) rfl (fun ls hl => ?_)
          refine lv_goto (tgt := 4) hx hb dX6_outs_36 (by decide) ?_
          exact ih4 v1_3 v2_4 h _ _ _ hP hD hS (lv_sub hl [2, 1, 0] rfl)
  unfold m_X6_outs at h
  refine lv_iconst (v := 0) hx hb dX6_outs_0 (by decide) ?_
  refine lv_istore_n (lv' := [(1, .int 0), (0, .ref h0)]) hx hb dX6_outs_1 rfl hl (by decide) rfl (fun ls hl => ?_)
  refine lv_iconst (v := 0) hx hb dX6_outs_2 (by decide) ?_
  refine lv_istore_n (lv' := [(2, .int 0), (1, .int 0), (0, .ref h0)]) hx hb dX6_outs_3 rfl hl (by decide) rfl (fun ls hl => ?_)
  exact L4  1100 0 0 h _ _ _ hP hD hS (lv_sub hl [2, 1, 0] rfl)

def m_X6_fulls_4 (columns_ : Int32) (rooms_ : Int32) (many_ : Int32) (columnOf_ : Nat → Int32) (rec4 : Int32 → Int32 → Option (Int32)) : Int32 → Int32 → Option (Int32) := fun v1 v2 =>
  (if columns_ ≤ v2 then some v1 else bd1 (m_X6_inColumn many_ columnOf_ v2) (fun r_1 => bd1 (m_X6_bits r_1) (fun r_2 => (if r_2 = rooms_ then lt' (v1 ||| ((1 : Int32) <<< (v2 &&& 31))) (fun v1_5 => lt' (v2 + 1) (fun v2_6 => rec4 v1_5 v2_6)) else lt' (v1 ||| 0) (fun v1_3 => lt' (v2 + 1) (fun v2_4 => rec4 v1_3 v2_4))))))
def m_X6_fulls (columns_ : Int32) (rooms_ : Int32) (many_ : Int32) (columnOf_ : Nat → Int32) : Option (Int32) :=
  it2 (m_X6_fulls_4 columns_ rooms_ many_ columnOf_) 1100 0 0
abbrev rmX6_fulls : Room := { frames := 2, cells := 0, slots := 0, locals := 40 }
set_option maxHeartbeats 4000000 in
set_option maxRecDepth 100000 in
theorem c_X6_fulls (l : Launch) (dC : Nat → ClassId) (dI : Nat → Nat → Nat) (cyC cyI cyJ : ClassId) (h0 h0_row h0_subjectOf h0_teacherOf h0_seatsOf h0_columnOf h0_barsOf h0_choices h0_tape h0_was h0_readChoices h0_open h0_wayOf h0_cure h0_left h0_satIn : Nat) (thrown_ : Int32) (told_ : Int32) (columns_ : Int32) (rooms_ : Int32) (many_ : Int32) (pupils_ : Int32) (kept_ : Int32) (taped_ : Int32) (at_ : Int32) (to_ : Int32) (digit_ : Int32) (number_ : Int32) (readMany_ : Int32) (bestThen_ : Int32) (columnOf_ : Nat → Int32) (rr : Int32) (h : m_X6_fulls columns_ rooms_ many_ columnOf_ = some rr) : uMi l yX6_fulls wsX6_fulls rmX6_fulls (dC, dI) [(cyC, .char), (cyI, .int), (cyJ, .long)] [.ref h0] [(h0, .inr (6, [.int thrown_, .int told_, .ref h0_row, .int columns_, .int rooms_, .int many_, .ref h0_subjectOf, .ref h0_teacherOf, .ref h0_seatsOf, .ref h0_columnOf, .ref h0_barsOf, .int pupils_, .ref h0_choices, .int kept_, .ref h0_tape, .int taped_, .int at_, .int to_, .int digit_, .int number_, .ref h0_was, .ref h0_readChoices, .int readMany_, .ref h0_open, .ref h0_wayOf, .int bestThen_, .ref h0_cure, .ref h0_left, .ref h0_satIn])), (h0_columnOf, .inl (cyI, 17, .inl columnOf_))] [(h0, .inr (6, [.int thrown_, .int told_, .ref h0_row, .int columns_, .int rooms_, .int many_, .ref h0_subjectOf, .ref h0_teacherOf, .ref h0_seatsOf, .ref h0_columnOf, .ref h0_barsOf, .int pupils_, .ref h0_choices, .int kept_, .ref h0_tape, .int taped_, .int at_, .int to_, .int digit_, .int number_, .ref h0_was, .ref h0_readChoices, .int readMany_, .ref h0_open, .ref h0_wayOf, .int bestThen_, .ref h0_cure, .ref h0_left, .ref h0_satIn])), (h0_columnOf, .inl (cyI, 17, .inl columnOf_))] rr := by
  refine uMi.of (cc := cX6_fulls) (maxL := 3) (by decide) rfl (Nat.le_of_ble_eq_true rfl) (fun p e s m args below meth c A ls Q hx hb hml hown hts hA hP hK hD hE hS hl hret => ?_)
  have hown : s.vm.findClass RX6 = some m.cls := hown
  have hl : lv_has ls 3 [(0, .ref h0)] := hl
  have hiX6 : ∀ w ∈ u_ws RX6 TX6 29, w ∈ wsX6_fulls := fun _ h9 => List.mem_cons_of_mem _ (List.mem_append_right _ h9)
  have L4 : ∀ (n4 : Nat), ∀ (v1 : Int32), ∀ (v2 : Int32), it2 (m_X6_fulls_4 columns_ rooms_ many_ columnOf_) n4 v1 v2 = some rr → ∀ (H : Heap) (locs : List Loc) (ls : Array Slot), va_P (dC, dI) vwCl [(h0, .inr (6, [.int thrown_, .int told_, .ref h0_row, .int columns_, .int rooms_, .int many_, .ref h0_subjectOf, .ref h0_teacherOf, .ref h0_seatsOf, .ref h0_columnOf, .ref h0_barsOf, .int pupils_, .ref h0_choices, .int kept_, .ref h0_tape, .int taped_, .int at_, .int to_, .int digit_, .int number_, .ref h0_was, .ref h0_readChoices, .int readMany_, .ref h0_open, .ref h0_wayOf, .int bestThen_, .ref h0_cure, .ref h0_left, .ref h0_satIn])), (h0_columnOf, .inl (cyI, 17, .inl columnOf_))] H → va_D A [(h0, .inr (6, [.int thrown_, .int told_, .ref h0_row, .int columns_, .int rooms_, .int many_, .ref h0_subjectOf, .ref h0_teacherOf, .ref h0_seatsOf, .ref h0_columnOf, .ref h0_barsOf, .int pupils_, .ref h0_choices, .int kept_, .ref h0_tape, .int taped_, .int at_, .int to_, .int digit_, .int number_, .ref h0_was, .ref h0_readChoices, .int readMany_, .ref h0_open, .ref h0_wayOf, .int bestThen_, .ref h0_cure, .ref h0_left, .ref h0_satIn])), (h0_columnOf, .inl (cyI, 17, .inl columnOf_))] → va_S A s.heap H locs → lv_has ls 3 [(0, .ref h0), (1, .int v1), (2, .int v2)] → W p l e rmX6_fulls s m args below meth c H locs 0 0 Q (F0 m 4 ls []) := by
    intro n4
    induction n4 with
    | zero => intro v1 v2 h; exact absurd h (fun z => it2_z z)
    | succ n4 ih4 =>
      intro v1 v2 h H locs ls hP hD hS hl
      have h : m_X6_fulls_4 columns_ rooms_ many_ columnOf_ (it2 (m_X6_fulls_4 columns_ rooms_ many_ columnOf_) n4) v1 v2 = some rr := h
      unfold m_X6_fulls_4 at h
      refine lv_iload_n hx hb dX6_fulls_4 rfl (lv_at hl 2 rfl) ?_
      refine lv_aload_n hx hb dX6_fulls_5 rfl (lv_at hl 0 rfl) ?_
      refine va_get (D := (dC, dI)) (ci := 6) (v := .int columns_) (C := RX6) (T := TX6) (N := 29) hx hb hts hiX6 hown hK hP 0 rfl rfl 3 (by decide) (hts (.fieldLink RX6 13 "OptionLatticeModel" "columns" "I") (by decide +kernel)) (fun _ h9 => h9) rfl dX6_fulls_6 ?_
      refine lv_icmp_ge (tgt := 43) hx hb dX6_fulls_9 (by decide) (fun c_ => ?_) (fun c_ => ?_)
      · have h := (if_pos c_).symm.trans h
        refine lv_iload_n hx hb dX6_fulls_43 rfl (lv_at hl 1 rfl) ?_
        have h : some v1 = some rr := h
        have z0 := Option.some.inj h
        obtain rfl := z0
        exact hret _ _ _ _ hP hS rfl dX6_fulls_44
      · have h := (if_neg c_).symm.trans h
        refine lv_iload_n hx hb dX6_fulls_12 rfl (lv_at hl 1 rfl) ?_
        refine lv_aload_n hx hb dX6_fulls_13 rfl (lv_at hl 0 rfl) ?_
        refine lv_iload_n hx hb dX6_fulls_14 rfl (lv_at hl 2 rfl) ?_
        obtain ⟨r_1, hq, h⟩ := bd1_some h
        refine uV_i (b := h0) (As := [.int v2]) (rest := [.int v1]) ⟨hx, hb, hml, hown, hts⟩ (c_X6_inColumn l dC dI cyC cyI cyJ h0 h0_row h0_subjectOf h0_teacherOf h0_seatsOf h0_columnOf h0_barsOf h0_choices h0_tape h0_was h0_readChoices h0_open h0_wayOf h0_cure h0_left h0_satIn thrown_ told_ columns_ rooms_ many_ pupils_ kept_ taped_ at_ to_ digit_ number_ readMany_ bestThen_ columnOf_ v2 r_1 hq) (cwV 1 hts gX6_fulls_X6_inColumn rfl rfl rfl (by decide +kernel) ⟨Nat.le_of_ble_eq_true rfl, Nat.le_of_ble_eq_true rfl⟩) hK hE hA hP hD hS [0, 1] rfl rfl rfl 6 0 rfl rfl rfl hl.1 rfl (Nat.le_of_ble_eq_true rfl) ⟨Nat.zero_le _, Nat.zero_le _⟩ dX6_fulls_15 (fun H locs hP hD hS => ?_)
        have hP : va_P (dC, dI) vwCl [(h0, .inr (6, [.int thrown_, .int told_, .ref h0_row, .int columns_, .int rooms_, .int many_, .ref h0_subjectOf, .ref h0_teacherOf, .ref h0_seatsOf, .ref h0_columnOf, .ref h0_barsOf, .int pupils_, .ref h0_choices, .int kept_, .ref h0_tape, .int taped_, .int at_, .int to_, .int digit_, .int number_, .ref h0_was, .ref h0_readChoices, .int readMany_, .ref h0_open, .ref h0_wayOf, .int bestThen_, .ref h0_cure, .ref h0_left, .ref h0_satIn])), (h0_columnOf, .inl (cyI, 17, .inl columnOf_))] H := hP
        have hD : va_D A [(h0, .inr (6, [.int thrown_, .int told_, .ref h0_row, .int columns_, .int rooms_, .int many_, .ref h0_subjectOf, .ref h0_teacherOf, .ref h0_seatsOf, .ref h0_columnOf, .ref h0_barsOf, .int pupils_, .ref h0_choices, .int kept_, .ref h0_tape, .int taped_, .int at_, .int to_, .int digit_, .int number_, .ref h0_was, .ref h0_readChoices, .int readMany_, .ref h0_open, .ref h0_wayOf, .int bestThen_, .ref h0_cure, .ref h0_left, .ref h0_satIn])), (h0_columnOf, .inl (cyI, 17, .inl columnOf_))] := hD
        obtain ⟨r_2, hq, h⟩ := bd1_some h
        refine uS_i (As := [.int r_1]) (rest := [.int v1]) ⟨hx, hb, hml, hown, hts⟩ (c_X6_bits l dC dI cyC cyI cyJ r_1 r_2 hq) (va_cwS 1 hts gX6_fulls_X6_bits rfl rfl rfl (by decide +kernel) ⟨Nat.le_of_ble_eq_true rfl, Nat.le_of_ble_eq_true rfl⟩) hK hE hA hP hD hS [] rfl rfl rfl rfl hl.1 rfl (Nat.le_of_ble_eq_true rfl) ⟨Nat.zero_le _, Nat.zero_le _⟩ dX6_fulls_18 (fun H locs hP hD hS => ?_)
        have hP : va_P (dC, dI) vwCl [(h0, .inr (6, [.int thrown_, .int told_, .ref h0_row, .int columns_, .int rooms_, .int many_, .ref h0_subjectOf, .ref h0_teacherOf, .ref h0_seatsOf, .ref h0_columnOf, .ref h0_barsOf, .int pupils_, .ref h0_choices, .int kept_, .ref h0_tape, .int taped_, .int at_, .int to_, .int digit_, .int number_, .ref h0_was, .ref h0_readChoices, .int readMany_, .ref h0_open, .ref h0_wayOf, .int bestThen_, .ref h0_cure, .ref h0_left, .ref h0_satIn])), (h0_columnOf, .inl (cyI, 17, .inl columnOf_))] H := hP
        have hD : va_D A [(h0, .inr (6, [.int thrown_, .int told_, .ref h0_row, .int columns_, .int rooms_, .int many_, .ref h0_subjectOf, .ref h0_teacherOf, .ref h0_seatsOf, .ref h0_columnOf, .ref h0_barsOf, .int pupils_, .ref h0_choices, .int kept_, .ref h0_tape, .int taped_, .int at_, .int to_, .int digit_, .int number_, .ref h0_was, .ref h0_readChoices, .int readMany_, .ref h0_open, .ref h0_wayOf, .int bestThen_, .ref h0_cure, .ref h0_left, .ref h0_satIn])), (h0_columnOf, .inl (cyI, 17, .inl columnOf_))] := hD
        refine lv_aload_n hx hb dX6_fulls_21 rfl (lv_at hl 0 rfl) ?_
        refine va_get (D := (dC, dI)) (ci := 6) (v := .int rooms_) (C := RX6) (T := TX6) (N := 29) hx hb hts hiX6 hown hK hP 0 rfl rfl 4 (by decide) (hts (.fieldLink RX6 17 "OptionLatticeModel" "rooms" "I") (by decide +kernel)) (fun _ h9 => h9) rfl dX6_fulls_22 ?_
        refine lv_icmp_ne (tgt := 34) hx hb dX6_fulls_25 (by decide) (fun c_ => ?_) (fun c_ => ?_)
        · have h := (if_neg c_).symm.trans h
          refine lv_iconst (v := 0) hx hb dX6_fulls_34 (by decide) ?_
          refine lv_ior hx hb dX6_fulls_35 ?_
          refine lv_topi (fun v1_3 e_v1_3 => ?_)
          have h := lt_use e_v1_3 h
          refine lv_istore_n (lv' := [(1, .int v1_3), (0, .ref h0), (2, .int v2)]) hx hb dX6_fulls_36 rfl hl (by decide) rfl (fun ls hl => ?_)
          obtain ⟨v2_4, e_v2_4⟩ : ∃ z : Int32, z = (v2 + 1) := ⟨_, rfl⟩
          have h := lt_use e_v2_4 h
          refine lv_iinc (v := v2_4) (lv' := [(2, .int v2_4), (1, .int v1_3), (0, .ref h0)]) hx hb dX6_fulls_37 hl (k := 2) rfl (by rw [e_v2_4]; rfl) (by decide) rfl (fun ls hl => ?_)
          refine lv_goto (tgt := 4) hx hb dX6_fulls_40 (by decide) ?_
          exact ih4 v1_3 v2_4 h _ _ _ hP hD hS (lv_sub hl [2, 1, 0] rfl)
        · have h := (if_pos c_).symm.trans h
          refine lv_iconst (v := 1) hx hb dX6_fulls_28 (by decide) ?_
          refine lv_iload_n hx hb dX6_fulls_29 rfl (lv_at hl 2 rfl) ?_
          refine lv_ishl hx hb dX6_fulls_30 ?_
          refine lv_goto (tgt := 35) hx hb dX6_fulls_31 (by decide) ?_
          refine lv_ior hx hb dX6_fulls_35 ?_
          refine lv_topi (fun v1_5 e_v1_5 => ?_)
          have h := lt_use e_v1_5 h
          refine lv_istore_n (lv' := [(1, .int v1_5), (0, .ref h0), (2, .int v2)]) hx hb dX6_fulls_36 rfl hl (by decide) rfl (fun ls hl => ?_)
          obtain ⟨v2_6, e_v2_6⟩ : ∃ z : Int32, z = (v2 + 1) := ⟨_, rfl⟩
          have h := lt_use e_v2_6 h
          refine lv_iinc (v := v2_6) (lv' := [(2, .int v2_6), (1, .int v1_5), (0, .ref h0)]) hx hb dX6_fulls_37 hl (k := 2) rfl (by rw [e_v2_6]; rfl) (by decide) rfl (fun ls hl => ?_)
          refine lv_goto (tgt := 4) hx hb dX6_fulls_40 (by decide) ?_
          exact ih4 v1_5 v2_6 h _ _ _ hP hD hS (lv_sub hl [2, 1, 0] rfl)
  unfold m_X6_fulls at h
  refine lv_iconst (v := 0) hx hb dX6_fulls_0 (by decide) ?_
  refine lv_istore_n (lv' := [(1, .int 0), (0, .ref h0)]) hx hb dX6_fulls_1 rfl hl (by decide) rfl (fun ls hl => ?_)
  refine lv_iconst (v := 0) hx hb dX6_fulls_2 (by decide) ?_
  refine lv_istore_n (lv' := [(2, .int 0), (1, .int 0), (0, .ref h0)]) hx hb dX6_fulls_3 rfl hl (by decide) rfl (fun ls hl => ?_)
  exact L4  1100 0 0 h _ _ _ hP hD hS (lv_sub hl [2, 1, 0] rfl)

def m_X6_busyTeachers_6 (many_ : Int32) (teacherOf_ : Nat → Int32) (rec6 : Int32 → Int32 → Int32 → Option (Int32)) : Int32 → Int32 → Int32 → Option (Int32) := fun v1 v2 v3 =>
  (if many_ ≤ v3 then some v2 else gd (inb v3 17) (lt' (v2 ||| (v1 &&& ((1 : Int32) <<< ((teacherOf_ v3.toNatClampNeg) &&& 31)))) (fun v2_1 => gd (inb v3 17) (lt' (v1 ||| ((1 : Int32) <<< ((teacherOf_ v3.toNatClampNeg) &&& 31))) (fun v1_2 => lt' (v3 + 1) (fun v3_3 => rec6 v1_2 v2_1 v3_3))))))
def m_X6_busyTeachers (many_ : Int32) (teacherOf_ : Nat → Int32) : Option (Int32) :=
  it3 (m_X6_busyTeachers_6 many_ teacherOf_) 1100 0 0 0
abbrev rmX6_busyTeachers : Room := { frames := 0, cells := 0, slots := 0, locals := 0 }
set_option maxHeartbeats 4000000 in
set_option maxRecDepth 100000 in
theorem c_X6_busyTeachers (l : Launch) (dC : Nat → ClassId) (dI : Nat → Nat → Nat) (cyC cyI cyJ : ClassId) (h0 h0_row h0_subjectOf h0_teacherOf h0_seatsOf h0_columnOf h0_barsOf h0_choices h0_tape h0_was h0_readChoices h0_open h0_wayOf h0_cure h0_left h0_satIn : Nat) (thrown_ : Int32) (told_ : Int32) (columns_ : Int32) (rooms_ : Int32) (many_ : Int32) (pupils_ : Int32) (kept_ : Int32) (taped_ : Int32) (at_ : Int32) (to_ : Int32) (digit_ : Int32) (number_ : Int32) (readMany_ : Int32) (bestThen_ : Int32) (teacherOf_ : Nat → Int32) (rr : Int32) (h : m_X6_busyTeachers many_ teacherOf_ = some rr) : uMi l yX6_busyTeachers wsX6_busyTeachers rmX6_busyTeachers (dC, dI) [(cyC, .char), (cyI, .int), (cyJ, .long)] [.ref h0] [(h0, .inr (6, [.int thrown_, .int told_, .ref h0_row, .int columns_, .int rooms_, .int many_, .ref h0_subjectOf, .ref h0_teacherOf, .ref h0_seatsOf, .ref h0_columnOf, .ref h0_barsOf, .int pupils_, .ref h0_choices, .int kept_, .ref h0_tape, .int taped_, .int at_, .int to_, .int digit_, .int number_, .ref h0_was, .ref h0_readChoices, .int readMany_, .ref h0_open, .ref h0_wayOf, .int bestThen_, .ref h0_cure, .ref h0_left, .ref h0_satIn])), (h0_teacherOf, .inl (cyI, 17, .inl teacherOf_))] [(h0, .inr (6, [.int thrown_, .int told_, .ref h0_row, .int columns_, .int rooms_, .int many_, .ref h0_subjectOf, .ref h0_teacherOf, .ref h0_seatsOf, .ref h0_columnOf, .ref h0_barsOf, .int pupils_, .ref h0_choices, .int kept_, .ref h0_tape, .int taped_, .int at_, .int to_, .int digit_, .int number_, .ref h0_was, .ref h0_readChoices, .int readMany_, .ref h0_open, .ref h0_wayOf, .int bestThen_, .ref h0_cure, .ref h0_left, .ref h0_satIn])), (h0_teacherOf, .inl (cyI, 17, .inl teacherOf_))] rr := by
  refine uMi.of (cc := cX6_busyTeachers) (maxL := 4) (by decide) rfl (Nat.le_of_ble_eq_true rfl) (fun p e s m args below meth c A ls Q hx hb hml hown hts hA hP hK hD hE hS hl hret => ?_)
  have hown : s.vm.findClass RX6 = some m.cls := hown
  have hl : lv_has ls 4 [(0, .ref h0)] := hl
  have hiX6 : ∀ w ∈ u_ws RX6 TX6 29, w ∈ wsX6_busyTeachers := fun _ h9 => List.mem_cons_of_mem _ (List.mem_append_right _ h9)
  have L6 : ∀ (n6 : Nat), ∀ (v1 : Int32), ∀ (v2 : Int32), ∀ (v3 : Int32), it3 (m_X6_busyTeachers_6 many_ teacherOf_) n6 v1 v2 v3 = some rr → ∀ (H : Heap) (locs : List Loc) (ls : Array Slot), va_P (dC, dI) vwCl [(h0, .inr (6, [.int thrown_, .int told_, .ref h0_row, .int columns_, .int rooms_, .int many_, .ref h0_subjectOf, .ref h0_teacherOf, .ref h0_seatsOf, .ref h0_columnOf, .ref h0_barsOf, .int pupils_, .ref h0_choices, .int kept_, .ref h0_tape, .int taped_, .int at_, .int to_, .int digit_, .int number_, .ref h0_was, .ref h0_readChoices, .int readMany_, .ref h0_open, .ref h0_wayOf, .int bestThen_, .ref h0_cure, .ref h0_left, .ref h0_satIn])), (h0_teacherOf, .inl (cyI, 17, .inl teacherOf_))] H → va_D A [(h0, .inr (6, [.int thrown_, .int told_, .ref h0_row, .int columns_, .int rooms_, .int many_, .ref h0_subjectOf, .ref h0_teacherOf, .ref h0_seatsOf, .ref h0_columnOf, .ref h0_barsOf, .int pupils_, .ref h0_choices, .int kept_, .ref h0_tape, .int taped_, .int at_, .int to_, .int digit_, .int number_, .ref h0_was, .ref h0_readChoices, .int readMany_, .ref h0_open, .ref h0_wayOf, .int bestThen_, .ref h0_cure, .ref h0_left, .ref h0_satIn])), (h0_teacherOf, .inl (cyI, 17, .inl teacherOf_))] → va_S A s.heap H locs → lv_has ls 4 [(0, .ref h0), (1, .int v1), (2, .int v2), (3, .int v3)] → W p l e rmX6_busyTeachers s m args below meth c H locs 0 0 Q (F0 m 6 ls []) := by
    intro n6
    induction n6 with
    | zero => intro v1 v2 v3 h; exact absurd h (fun z => it3_z z)
    | succ n6 ih6 =>
      intro v1 v2 v3 h H locs ls hP hD hS hl
      have h : m_X6_busyTeachers_6 many_ teacherOf_ (it3 (m_X6_busyTeachers_6 many_ teacherOf_) n6) v1 v2 v3 = some rr := h
      unfold m_X6_busyTeachers_6 at h
      refine lv_iload_n hx hb dX6_busyTeachers_6 rfl (lv_at hl 3 rfl) ?_
      refine lv_aload_n hx hb dX6_busyTeachers_7 rfl (lv_at hl 0 rfl) ?_
      refine va_get (D := (dC, dI)) (ci := 6) (v := .int many_) (C := RX6) (T := TX6) (N := 29) hx hb hts hiX6 hown hK hP 0 rfl rfl 5 (by decide) (hts (.fieldLink RX6 87 "OptionLatticeModel" "many" "I") (by decide +kernel)) (fun _ h9 => h9) rfl dX6_busyTeachers_8 ?_
      refine lv_icmp_ge (tgt := 44) hx hb dX6_busyTeachers_11 (by decide) (fun c_ => ?_) (fun c_ => ?_)
      · have h := (if_pos c_).symm.trans h
        refine lv_iload_n hx hb dX6_busyTeachers_44 rfl (lv_at hl 2 rfl) ?_
        have h : some v2 = some rr := h
        have z0 := Option.some.inj h
        obtain rfl := z0
        exact hret _ _ _ _ hP hS rfl dX6_busyTeachers_45
      · have h := (if_neg c_).symm.trans h
        refine lv_iload_n hx hb dX6_busyTeachers_14 rfl (lv_at hl 2 rfl) ?_
        refine lv_iload_n hx hb dX6_busyTeachers_15 rfl (lv_at hl 1 rfl) ?_
        refine lv_iconst (v := 1) hx hb dX6_busyTeachers_16 (by decide) ?_
        refine lv_aload_n hx hb dX6_busyTeachers_17 rfl (lv_at hl 0 rfl) ?_
        refine va_get (D := (dC, dI)) (ci := 6) (v := .ref h0_teacherOf) (C := RX6) (T := TX6) (N := 29) hx hb hts hiX6 hown hK hP 0 rfl rfl 7 (by decide) (hts (.fieldLink RX6 23 "OptionLatticeModel" "teacherOf" "[I") (by decide +kernel)) (fun _ h9 => h9) rfl dX6_busyTeachers_18 ?_
        refine lv_iload_n hx hb dX6_busyTeachers_21 rfl (lv_at hl 3 rfl) ?_
        obtain ⟨g_, h⟩ := gd_some h
        refine va_iald hx hb hK hP 1 1 rfl rfl (inb_in g_) dX6_busyTeachers_22 ?_
        refine lv_ishl hx hb dX6_busyTeachers_23 ?_
        refine lv_iand hx hb dX6_busyTeachers_24 ?_
        refine lv_ior hx hb dX6_busyTeachers_25 ?_
        refine lv_topi (fun v2_1 e_v2_1 => ?_)
        have h := lt_use e_v2_1 h
        refine lv_istore_n (lv' := [(2, .int v2_1), (0, .ref h0), (1, .int v1), (3, .int v3)]) hx hb dX6_busyTeachers_26 rfl hl (by decide) rfl (fun ls hl => ?_)
        refine lv_iload_n hx hb dX6_busyTeachers_27 rfl (lv_at hl 2 rfl) ?_
        refine lv_iconst (v := 1) hx hb dX6_busyTeachers_28 (by decide) ?_
        refine lv_aload_n hx hb dX6_busyTeachers_29 rfl (lv_at hl 1 rfl) ?_
        refine va_get (D := (dC, dI)) (ci := 6) (v := .ref h0_teacherOf) (C := RX6) (T := TX6) (N := 29) hx hb hts hiX6 hown hK hP 0 rfl rfl 7 (by decide) (hts (.fieldLink RX6 23 "OptionLatticeModel" "teacherOf" "[I") (by decide +kernel)) (fun _ h9 => h9) rfl dX6_busyTeachers_30 ?_
        refine lv_iload_n hx hb dX6_busyTeachers_33 rfl (lv_at hl 3 rfl) ?_
        obtain ⟨g_, h⟩ := gd_some h
        refine va_iald hx hb hK hP 1 1 rfl rfl (inb_in g_) dX6_busyTeachers_34 ?_
        refine lv_ishl hx hb dX6_busyTeachers_35 ?_
        refine lv_ior hx hb dX6_busyTeachers_36 ?_
        refine lv_topi (fun v1_2 e_v1_2 => ?_)
        have h := lt_use e_v1_2 h
        refine lv_istore_n (lv' := [(1, .int v1_2), (2, .int v2_1), (0, .ref h0), (3, .int v3)]) hx hb dX6_busyTeachers_37 rfl hl (by decide) rfl (fun ls hl => ?_)
        obtain ⟨v3_3, e_v3_3⟩ : ∃ z : Int32, z = (v3 + 1) := ⟨_, rfl⟩
        have h := lt_use e_v3_3 h
        refine lv_iinc (v := v3_3) (lv' := [(3, .int v3_3), (1, .int v1_2), (2, .int v2_1), (0, .ref h0)]) hx hb dX6_busyTeachers_38 hl (k := 3) rfl (by rw [e_v3_3]; rfl) (by decide) rfl (fun ls hl => ?_)
        refine lv_goto (tgt := 6) hx hb dX6_busyTeachers_41 (by decide) ?_
        exact ih6 v1_2 v2_1 v3_3 h _ _ _ hP hD hS (lv_sub hl [3, 1, 2, 0] rfl)
  unfold m_X6_busyTeachers at h
  refine lv_iconst (v := 0) hx hb dX6_busyTeachers_0 (by decide) ?_
  refine lv_istore_n (lv' := [(1, .int 0), (0, .ref h0)]) hx hb dX6_busyTeachers_1 rfl hl (by decide) rfl (fun ls hl => ?_)
  refine lv_iconst (v := 0) hx hb dX6_busyTeachers_2 (by decide) ?_
  refine lv_istore_n (lv' := [(2, .int 0), (1, .int 0), (0, .ref h0)]) hx hb dX6_busyTeachers_3 rfl hl (by decide) rfl (fun ls hl => ?_)
  refine lv_iconst (v := 0) hx hb dX6_busyTeachers_4 (by decide) ?_
  refine lv_istore_n (lv' := [(3, .int 0), (2, .int 0), (1, .int 0), (0, .ref h0)]) hx hb dX6_busyTeachers_5 rfl hl (by decide) rfl (fun ls hl => ?_)
  exact L6  1100 0 0 0 h _ _ _ hP hD hS (lv_sub hl [3, 2, 1, 0] rfl)
