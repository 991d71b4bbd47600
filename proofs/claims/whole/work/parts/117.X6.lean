def m_X6_columnsOf_4 (many_ : Int32) (subjectOf_ : Nat → Int32) (columnOf_ : Nat → Int32) (v1 : Int32) (rec4 : Int32 → Int32 → Option (Int32)) : Int32 → Int32 → Option (Int32) := fun v2 v3 =>
  (if many_ ≤ v3 then some v2 else gd (inb v3 17) ((if (subjectOf_ v3.toNatClampNeg) = v1 then gd (inb v3 17) ((if (columnOf_ v3.toNatClampNeg) < 0 then lt' (v2 ||| 0) (fun v2_3 => lt' (v3 + 1) (fun v3_4 => rec4 v2_3 v3_4)) else gd (inb v3 17) (lt' (v2 ||| ((1 : Int32) <<< ((columnOf_ v3.toNatClampNeg) &&& 31))) (fun v2_5 => lt' (v3 + 1) (fun v3_6 => rec4 v2_5 v3_6))))) else lt' (v2 ||| 0) (fun v2_1 => lt' (v3 + 1) (fun v3_2 => rec4 v2_1 v3_2)))))
def m_X6_columnsOf (many_ : Int32) (subjectOf_ : Nat → Int32) (columnOf_ : Nat → Int32) (v1 : Int32) : Option (Int32) :=
  it2 (m_X6_columnsOf_4 many_ subjectOf_ columnOf_ v1) 1100 0 0
abbrev rmX6_columnsOf : Room := { frames := 0, cells := 0, slots := 0, locals := 0 }
set_option maxHeartbeats 4000000 in
set_option maxRecDepth 100000 in
theorem c_X6_columnsOf (l : Launch) (dC : Nat → ClassId) (dI : Nat → Nat → Nat) (cyC cyI cyJ : ClassId) (h0 h0_row h0_subjectOf h0_teacherOf h0_seatsOf h0_columnOf h0_barsOf h0_choices h0_tape h0_was h0_readChoices h0_open h0_wayOf h0_cure h0_left h0_satIn : Nat) (thrown_ : Int32) (told_ : Int32) (columns_ : Int32) (rooms_ : Int32) (many_ : Int32) (pupils_ : Int32) (kept_ : Int32) (taped_ : Int32) (at_ : Int32) (to_ : Int32) (digit_ : Int32) (number_ : Int32) (readMany_ : Int32) (bestThen_ : Int32) (subjectOf_ : Nat → Int32) (columnOf_ : Nat → Int32) (v1 : Int32) (rr : Int32) (h : m_X6_columnsOf many_ subjectOf_ columnOf_ v1 = some rr) : uMi l yX6_columnsOf wsX6_columnsOf rmX6_columnsOf (dC, dI) [(cyC, .char), (cyI, .int), (cyJ, .long)] [.ref h0, .int v1] [(h0, .inr (6, [.int thrown_, .int told_, .ref h0_row, .int columns_, .int rooms_, .int many_, .ref h0_subjectOf, .ref h0_teacherOf, .ref h0_seatsOf, .ref h0_columnOf, .ref h0_barsOf, .int pupils_, .ref h0_choices, .int kept_, .ref h0_tape, .int taped_, .int at_, .int to_, .int digit_, .int number_, .ref h0_was, .ref h0_readChoices, .int readMany_, .ref h0_open, .ref h0_wayOf, .int bestThen_, .ref h0_cure, .ref h0_left, .ref h0_satIn])), (h0_subjectOf, .inl (cyI, 17, .inl subjectOf_)), (h0_columnOf, .inl (cyI, 17, .inl columnOf_))] [(h0, .inr (6, [.int thrown_, .int told_, .ref h0_row, .int columns_, .int rooms_, .int many_, .ref h0_subjectOf, .ref h0_teacherOf, .ref h0_seatsOf, .ref h0_columnOf, .ref h0_barsOf, .int pupils_, .ref h0_choices, .int kept_, .ref h0_tape, .int taped_, .int at_, .int to_, .int digit_, .int number_, .ref h0_was, .ref h0_readChoices, .int readMany_, .ref h0_open, .ref h0_wayOf, .int bestThen_, .ref h0_cure, .ref h0_left, .ref h0_satIn])), (h0_subjectOf, .inl (cyI, 17, .inl subjectOf_)), (h0_columnOf, .inl (cyI, 17, .inl columnOf_))] rr := by
  refine uMi.of (cc := cX6_columnsOf) (maxL := 4) (by decide) rfl (Nat.le_of_ble_eq_true rfl) (fun p e s m args below meth c A ls Q hx hb hml hown hts hA hP hK hD hE hS hl hret => ?_)
  have hown : s.vm.findClass RX6 = some m.cls := hown
  have hl : lv_has ls 4 [(0, .ref h0), (1, .int v1)] := hl
  have hiX6 : ∀ w ∈ u_ws RX6 TX6 29, w ∈ wsX6_columnsOf := fun _ h9 => List.mem_cons_of_mem _ (List.mem_append_right _ h9)
  have L4 : ∀ (n4 : Nat), ∀ (v2 : Int32), ∀ (v3 : Int32), it2 (m_X6_columnsOf_4 many_ subjectOf_ columnOf_ v1) n4 v2 v3 = some rr → ∀ (H : Heap) (locs : List Loc) (ls : Array Slot), va_P (dC, dI) vwCl [(h0, .inr (6, [.int thrown_, .int told_, .ref h0_row, .int columns_, .int rooms_, .int many_, .ref h0_subjectOf, .ref h0_teacherOf, .ref h0_seatsOf, .ref h0_columnOf, .ref h0_barsOf, .int pupils_, .ref h0_choices, .int kept_, .ref h0_tape, .int taped_, .int at_, .int to_, .int digit_, .int number_, .ref h0_was, .ref h0_readChoices, .int readMany_, .ref h0_open, .ref h0_wayOf, .int bestThen_, .ref h0_cure, .ref h0_left, .ref h0_satIn])), (h0_subjectOf, .inl (cyI, 17, .inl subjectOf_)), (h0_columnOf, .inl (cyI, 17, .inl columnOf_))] H → va_D A [(h0, .inr (6, [.int thrown_, .int told_, .ref h0_row, .int columns_, .int rooms_, .int many_, .ref h0_subjectOf, .ref h0_teacherOf, .ref h0_seatsOf, .ref h0_columnOf, .ref h0_barsOf, .int pupils_, .ref h0_choices, .int kept_, .ref h0_tape, .int taped_, .int at_, .int to_, .int digit_, .int number_, .ref h0_was, .ref h0_readChoices, .int readMany_, .ref h0_open, .ref h0_wayOf, .int bestThen_, .ref h0_cure, .ref h0_left, .ref h0_satIn])), (h0_subjectOf, .inl (cyI, 17, .inl subjectOf_)), (h0_columnOf, .inl (cyI, 17, .inl columnOf_))] → va_S A s.heap H locs → lv_has ls 4 [(0, .ref h0), (1, .int v1), (2, .int v2), (3, .int v3)] → W p l e rmX6_columnsOf s m args below meth c H locs 0 0 Q (F0 m 4 ls []) := by
    intro n4
    induction n4 with
    | zero => intro v2 v3 h; exact absurd h (fun z => it2_z z)
    | succ n4 ih4 =>
      intro v2 v3 h H locs ls hP hD hS hl
      have h : m_X6_columnsOf_4 many_ subjectOf_ columnOf_ v1 (it2 (m_X6_columnsOf_4 many_ subjectOf_ columnOf_ v1) n4) v2 v3 = some rr := h
      unfold m_X6_columnsOf_4 at h
      refine lv_iload_n hx hb dX6_columnsOf_4 rfl (lv_at hl 3 rfl) ?_
      refine lv_aload_n hx hb dX6_columnsOf_5 rfl (lv_at hl 0 rfl) ?_
      refine va_get (D := (dC, dI)) (ci := 6) (v := .int many_) (C := RX6) (T := TX6) (N := 29) hx hb hts hiX6 hown hK hP 0 rfl rfl 5 (by decide) (hts (.fieldLink RX6 87 "OptionLatticeModel" "many" "I") (by decide +kernel)) (fun _ h9 => h9) rfl dX6_columnsOf_6 ?_
      refine lv_icmp_ge (tgt := 52) hx hb dX6_columnsOf_9 (by decide) (fun c_ => ?_) (fun c_ => ?_)
      · have h := (if_pos c_).symm.trans h
        refine lv_iload_n hx hb dX6_columnsOf_52 rfl (lv_at hl 2 rfl) ?_
        have h : some v2 = some rr := h
        have z0 := Option.some.inj h
        obtain rfl := z0
        exact hret _ _ _ _ hP hS rfl dX6_columnsOf_53
      · have h := (if_neg c_).symm.trans h
        refine lv_iload_n hx hb dX6_columnsOf_12 rfl (lv_at hl 2 rfl) ?_
        refine lv_aload_n hx hb dX6_columnsOf_13 rfl (lv_at hl 0 rfl) ?_
        refine va_get (D := (dC, dI)) (ci := 6) (v := .ref h0_subjectOf) (C := RX6) (T := TX6) (N := 29) hx hb hts hiX6 hown hK hP 0 rfl rfl 6 (by decide) (hts (.fieldLink RX6 20 "OptionLatticeModel" "subjectOf" "[I") (by decide +kernel)) (fun _ h9 => h9) rfl dX6_columnsOf_14 ?_
        refine lv_iload_n hx hb dX6_columnsOf_17 rfl (lv_at hl 3 rfl) ?_
        obtain ⟨g_, h⟩ := gd_some h
        refine va_iald hx hb hK hP 1 1 rfl rfl (inb_in g_) dX6_columnsOf_18 ?_
        refine lv_iload_n hx hb dX6_columnsOf_19 rfl (lv_at hl 1 rfl) ?_
        refine lv_icmp_ne (tgt := 43) hx hb dX6_columnsOf_20 (by decide) (fun c_ => ?_) (fun c_ => ?_)
        · have h := (if_neg c_).symm.trans h
          refine lv_iconst (v := 0) hx hb dX6_columnsOf_43 (by decide) ?_
          refine lv_ior hx hb dX6_columnsOf_44 ?_
          refine lv_topi (fun v2_1 e_v2_1 => ?_)
          have h := lt_use e_v2_1 h
          refine lv_istore_n (lv' := [(2, .int v2_1), (0, .ref h0), (1, .int v1), (3, .int v3)]) hx hb dX6_columnsOf_45 rfl hl (by decide) rfl (fun ls hl => ?_)
          obtain ⟨v3_2, e_v3_2⟩ : ∃ z : Int32, z = (v3 + 1) := ⟨_, rfl⟩
          have h := lt_use e_v3_2 h
          refine lv_iinc (v := v3_2) (lv' := [(3, .int v3_2), (2, .int v2_1), (0, .ref h0), (1, .int v1)]) hx hb dX6_columnsOf_46 hl (k := 3) rfl (by rw [e_v3_2]; rfl) (by decide) rfl (fun ls hl => ?_)
          refine lv_goto (tgt := 4) hx hb dX6_columnsOf_49 (by decide) ?_
          exact ih4 v2_1 v3_2 h _ _ _ hP hD hS (lv_sub hl [2, 3, 1, 0] rfl)
        · have h := (if_pos c_).symm.trans h
          refine lv_aload_n hx hb dX6_columnsOf_23 rfl (lv_at hl 0 rfl) ?_
          refine va_get (D := (dC, dI)) (ci := 6) (v := .ref h0_columnOf) (C := RX6) (T := TX6) (N := 29) hx hb hts hiX6 hown hK hP 0 rfl rfl 9 (by decide) (hts (.fieldLink RX6 29 "OptionLatticeModel" "columnOf" "[I") (by decide +kernel)) (fun _ h9 => h9) rfl dX6_columnsOf_24 ?_
          refine lv_iload_n hx hb dX6_columnsOf_27 rfl (lv_at hl 3 rfl) ?_
          obtain ⟨g_, h⟩ := gd_some h
          refine va_iald hx hb hK hP 2 1 rfl rfl (inb_in g_) dX6_columnsOf_28 ?_
          refine lv_if_lt (tgt := 43) hx hb dX6_columnsOf_29 (by decide) (fun c_ => ?_) (fun c_ => ?_)
          · have h := (if_pos c_).symm.trans h
            refine lv_iconst (v := 0) hx hb dX6_columnsOf_43 (by decide) ?_
            refine lv_ior hx hb dX6_columnsOf_44 ?_
            refine lv_topi (fun v2_3 e_v2_3 => ?_)
            have h := lt_use e_v2_3 h
            refine lv_istore_n (lv' := [(2, .int v2_3), (0, .ref h0), (1, .int v1), (3, .int v3)]) hx hb dX6_columnsOf_45 rfl hl (by decide) rfl (fun ls hl => ?_)
            obtain ⟨v3_4, e_v3_4⟩ : ∃ z : Int32, z = (v3 + 1) := ⟨_, rfl⟩
            have h := lt_use e_v3_4 h
            refine lv_iinc (v := v3_4) (lv' := [(3, .int v3_4), (2, .int v2_3), (0, .ref h0), (1, .int v1)]) hx hb dX6_columnsOf_46 hl (k := 3) rfl (by rw [e_v3_4]; rfl) (by decide) rfl (fun ls hl => ?_)
            refine lv_goto (tgt := 4) hx hb dX6_columnsOf_49 (by decide) ?_
            exact ih4 v2_3 v3_4 h _ _ _ hP hD hS (lv_sub hl [2, 3, 1, 0] rfl)
          · have h := (if_neg c_).symm.trans h
            refine lv_iconst (v := 1) hx hb dX6_columnsOf_32 (by decide) ?_
            refine lv_aload_n hx hb dX6_columnsOf_33 rfl (lv_at hl 0 rfl) ?_
            refine va_get (D := (dC, dI)) (ci := 6) (v := .ref h0_columnOf) (C := RX6) (T := TX6) (N := 29) hx hb hts hiX6 hown hK hP 0 rfl rfl 9 (by decide) (hts (.fieldLink RX6 29 "OptionLatticeModel" "columnOf" "[I") (by decide +kernel)) (fun _ h9 => h9) rfl dX6_columnsOf_34 ?_
            refine lv_iload_n hx hb dX6_columnsOf_37 rfl (lv_at hl 3 rfl) ?_
            obtain ⟨g_, h⟩ := gd_some h
            refine va_iald hx hb hK hP 2 1 rfl rfl (inb_in g_) dX6_columnsOf_38 ?_
            refine lv_ishl hx hb dX6_columnsOf_39 ?_
            refine lv_goto (tgt := 44) hx hb dX6_columnsOf_40 (by decide) ?_
            refine lv_ior hx hb dX6_columnsOf_44 ?_
            refine lv_topi (fun v2_5 e_v2_5 => ?_)
            have h := lt_use e_v2_5 h
            refine lv_istore_n (lv' := [(2, .int v2_5), (0, .ref h0), (1, .int v1), (3, .int v3)]) hx hb dX6_columnsOf_45 rfl hl (by decide) rfl (fun ls hl => ?_)
            obtain ⟨v3_6, e_v3_6⟩ : ∃ z : Int32, z = (v3 + 1) := ⟨_, rfl⟩
            have h := lt_use e_v3_6 h
            refine lv_iinc (v := v3_6) (lv' := [(3, .int v3_6), (2, .int v2_5), (0, .ref h0), (1, .int v1)]) hx hb dX6_columnsOf_46 hl (k := 3) rfl (by rw [e_v3_6]; rfl) (by decide) rfl (fun ls hl => ?_)
            refine lv_goto (tgt := 4) hx hb dX6_columnsOf_49 (by decide) ?_
            exact ih4 v2_5 v3_6 h _ _ _ hP hD hS (lv_sub hl [2, 3, 1, 0] rfl)
  unfold m_X6_columnsOf at h
  refine lv_iconst (v := 0) hx hb dX6_columnsOf_0 (by decide) ?_
  refine lv_istore_n (lv' := [(2, .int 0), (0, .ref h0), (1, .int v1)]) hx hb dX6_columnsOf_1 rfl hl (by decide) rfl (fun ls hl => ?_)
  refine lv_iconst (v := 0) hx hb dX6_columnsOf_2 (by decide) ?_
  refine lv_istore_n (lv' := [(3, .int 0), (2, .int 0), (0, .ref h0), (1, .int v1)]) hx hb dX6_columnsOf_3 rfl hl (by decide) rfl (fun ls hl => ?_)
  exact L4  1100 0 0 h _ _ _ hP hD hS (lv_sub hl [2, 3, 1, 0] rfl)

def m_X6_laysOpen_64 (open_ : Nat → Int32) (v1 : Int32) (t1 : Int32) (t2 : Int32) (t3 : Int32) (rec23 : Int32 → (Nat → Int32) → Option ((Nat → Int32))) : Option ((Nat → Int32)) :=
  gd (inb t1 10) (lt' (v1 + 1) (fun v1_1 => rec23 v1_1 (upd open_ t1.toNatClampNeg (t2 ||| t3))))
def m_X6_laysOpen_23 (many_ : Int32) (subjectOf_ : Nat → Int32) (columnOf_ : Nat → Int32) (rec23 : Int32 → (Nat → Int32) → Option ((Nat → Int32))) : Int32 → (Nat → Int32) → Option ((Nat → Int32)) := fun v1 open_ =>
  (if many_ ≤ v1 then some open_ else gd (inb v1 17) (gd (inb (subjectOf_ v1.toNatClampNeg) 10) (gd (inb v1 17) ((if (columnOf_ v1.toNatClampNeg) < 0 then m_X6_laysOpen_64 open_ v1 (subjectOf_ v1.toNatClampNeg) (open_ ((subjectOf_ v1.toNatClampNeg)).toNatClampNeg) 0 rec23 else gd (inb v1 17) (m_X6_laysOpen_64 open_ v1 (subjectOf_ v1.toNatClampNeg) (open_ ((subjectOf_ v1.toNatClampNeg)).toNatClampNeg) ((1 : Int32) <<< ((columnOf_ v1.toNatClampNeg) &&& 31)) rec23))))))
def m_X6_laysOpen_2 (many_ : Int32) (subjectOf_ : Nat → Int32) (columnOf_ : Nat → Int32) (rec2 : Int32 → (Nat → Int32) → Option ((Nat → Int32))) : Int32 → (Nat → Int32) → Option ((Nat → Int32)) := fun v1 open_ =>
  (if 10 ≤ v1 then it2 (m_X6_laysOpen_23 many_ subjectOf_ columnOf_) 1100 0 open_ else gd (inb v1 10) (lt' (v1 + 1) (fun v1_2 => rec2 v1_2 (upd open_ v1.toNatClampNeg 0))))
def m_X6_laysOpen (many_ : Int32) (subjectOf_ : Nat → Int32) (columnOf_ : Nat → Int32) (open_ : Nat → Int32) : Option ((Nat → Int32)) :=
  it2 (m_X6_laysOpen_2 many_ subjectOf_ columnOf_) 1100 0 open_
abbrev rmX6_laysOpen : Room := { frames := 0, cells := 0, slots := 0, locals := 0 }
set_option maxHeartbeats 4000000 in
set_option maxRecDepth 100000 in
theorem c_X6_laysOpen (l : Launch) (dC : Nat → ClassId) (dI : Nat → Nat → Nat) (cyC cyI cyJ : ClassId) (h0 h0_row h0_subjectOf h0_teacherOf h0_seatsOf h0_columnOf h0_barsOf h0_choices h0_tape h0_was h0_readChoices h0_open h0_wayOf h0_cure h0_left h0_satIn : Nat) (thrown_ : Int32) (told_ : Int32) (columns_ : Int32) (rooms_ : Int32) (many_ : Int32) (pupils_ : Int32) (kept_ : Int32) (taped_ : Int32) (at_ : Int32) (to_ : Int32) (digit_ : Int32) (number_ : Int32) (readMany_ : Int32) (bestThen_ : Int32) (subjectOf_ : Nat → Int32) (columnOf_ : Nat → Int32) (open_ : Nat → Int32) (o0 : Nat → Int32) (h : m_X6_laysOpen many_ subjectOf_ columnOf_ open_ = some o0) : uMv l yX6_laysOpen wsX6_laysOpen rmX6_laysOpen (dC, dI) [(cyC, .char), (cyI, .int), (cyJ, .long)] [.ref h0] [(h0, .inr (6, [.int thrown_, .int told_, .ref h0_row, .int columns_, .int rooms_, .int many_, .ref h0_subjectOf, .ref h0_teacherOf, .ref h0_seatsOf, .ref h0_columnOf, .ref h0_barsOf, .int pupils_, .ref h0_choices, .int kept_, .ref h0_tape, .int taped_, .int at_, .int to_, .int digit_, .int number_, .ref h0_was, .ref h0_readChoices, .int readMany_, .ref h0_open, .ref h0_wayOf, .int bestThen_, .ref h0_cure, .ref h0_left, .ref h0_satIn])), (h0_subjectOf, .inl (cyI, 17, .inl subjectOf_)), (h0_columnOf, .inl (cyI, 17, .inl columnOf_)), (h0_open, .inl (cyI, 10, .inl open_))] [(h0, .inr (6, [.int thrown_, .int told_, .ref h0_row, .int columns_, .int rooms_, .int many_, .ref h0_subjectOf, .ref h0_teacherOf, .ref h0_seatsOf, .ref h0_columnOf, .ref h0_barsOf, .int pupils_, .ref h0_choices, .int kept_, .ref h0_tape, .int taped_, .int at_, .int to_, .int digit_, .int number_, .ref h0_was, .ref h0_readChoices, .int readMany_, .ref h0_open, .ref h0_wayOf, .int bestThen_, .ref h0_cure, .ref h0_left, .ref h0_satIn])), (h0_subjectOf, .inl (cyI, 17, .inl subjectOf_)), (h0_columnOf, .inl (cyI, 17, .inl columnOf_)), (h0_open, .inl (cyI, 10, .inl o0))] := by
  refine uMv.of (cc := cX6_laysOpen) (maxL := 2) (by decide) rfl (Nat.le_of_ble_eq_true rfl) (fun p e s m args below meth c A ls Q hx hb hml hown hts hA hP hK hD hE hS hl hret => ?_)
  have hown : s.vm.findClass RX6 = some m.cls := hown
  have hl : lv_has ls 2 [(0, .ref h0)] := hl
  have hiX6 : ∀ w ∈ u_ws RX6 TX6 29, w ∈ wsX6_laysOpen := fun _ h9 => List.mem_cons_of_mem _ (List.mem_append_right _ h9)
  have L23 : ∀ (n23 : Nat), ∀ (v1 : Int32), ∀ (open_ : Nat → Int32), it2 (m_X6_laysOpen_23 many_ subjectOf_ columnOf_) n23 v1 open_ = some o0 → ∀ (H : Heap) (locs : List Loc) (ls : Array Slot), va_P (dC, dI) vwCl [(h0, .inr (6, [.int thrown_, .int told_, .ref h0_row, .int columns_, .int rooms_, .int many_, .ref h0_subjectOf, .ref h0_teacherOf, .ref h0_seatsOf, .ref h0_columnOf, .ref h0_barsOf, .int pupils_, .ref h0_choices, .int kept_, .ref h0_tape, .int taped_, .int at_, .int to_, .int digit_, .int number_, .ref h0_was, .ref h0_readChoices, .int readMany_, .ref h0_open, .ref h0_wayOf, .int bestThen_, .ref h0_cure, .ref h0_left, .ref h0_satIn])), (h0_subjectOf, .inl (cyI, 17, .inl subjectOf_)), (h0_columnOf, .inl (cyI, 17, .inl columnOf_)), (h0_open, .inl (cyI, 10, .inl open_))] H → va_D A [(h0, .inr (6, [.int thrown_, .int told_, .ref h0_row, .int columns_, .int rooms_, .int many_, .ref h0_subjectOf, .ref h0_teacherOf, .ref h0_seatsOf, .ref h0_columnOf, .ref h0_barsOf, .int pupils_, .ref h0_choices, .int kept_, .ref h0_tape, .int taped_, .int at_, .int to_, .int digit_, .int number_, .ref h0_was, .ref h0_readChoices, .int readMany_, .ref h0_open, .ref h0_wayOf, .int bestThen_, .ref h0_cure, .ref h0_left, .ref h0_satIn])), (h0_subjectOf, .inl (cyI, 17, .inl subjectOf_)), (h0_columnOf, .inl (cyI, 17, .inl columnOf_)), (h0_open, .inl (cyI, 10, .inl open_))] → va_S A s.heap H locs → lv_has ls 2 [(0, .ref h0), (1, .int v1)] → W p l e rmX6_laysOpen s m args below meth c H locs 0 0 Q (F0 m 23 ls []) := by
    intro n23
    induction n23 with
    | zero => intro v1 open_ h; exact absurd h (fun z => it2_z z)
    | succ n23 ih23 =>
      have J64 : ∀ (v1 : Int32), ∀ (t1 : Int32), ∀ (t2 : Int32), ∀ (t3 : Int32), ∀ (open_ : Nat → Int32), m_X6_laysOpen_64 open_ v1 t1 t2 t3 (it2 (m_X6_laysOpen_23 many_ subjectOf_ columnOf_) n23) = some o0 → ∀ (H : Heap) (locs : List Loc) (ls : Array Slot), va_P (dC, dI) vwCl [(h0, .inr (6, [.int thrown_, .int told_, .ref h0_row, .int columns_, .int rooms_, .int many_, .ref h0_subjectOf, .ref h0_teacherOf, .ref h0_seatsOf, .ref h0_columnOf, .ref h0_barsOf, .int pupils_, .ref h0_choices, .int kept_, .ref h0_tape, .int taped_, .int at_, .int to_, .int digit_, .int number_, .ref h0_was, .ref h0_readChoices, .int readMany_, .ref h0_open, .ref h0_wayOf, .int bestThen_, .ref h0_cure, .ref h0_left, .ref h0_satIn])), (h0_subjectOf, .inl (cyI, 17, .inl subjectOf_)), (h0_columnOf, .inl (cyI, 17, .inl columnOf_)), (h0_open, .inl (cyI, 10, .inl open_))] H → va_D A [(h0, .inr (6, [.int thrown_, .int told_, .ref h0_row, .int columns_, .int rooms_, .int many_, .ref h0_subjectOf, .ref h0_teacherOf, .ref h0_seatsOf, .ref h0_columnOf, .ref h0_barsOf, .int pupils_, .ref h0_choices, .int kept_, .ref h0_tape, .int taped_, .int at_, .int to_, .int digit_, .int number_, .ref h0_was, .ref h0_readChoices, .int readMany_, .ref h0_open, .ref h0_wayOf, .int bestThen_, .ref h0_cure, .ref h0_left, .ref h0_satIn])), (h0_subjectOf, .inl (cyI, 17, .inl subjectOf_)), (h0_columnOf, .inl (cyI, 17, .inl columnOf_)), (h0_open, .inl (cyI, 10, .inl open_))] → va_S A s.heap H locs → lv_has ls 2 [(0, .ref h0), (1, .int v1)] → W p l e rmX6_laysOpen s m args below meth c H locs 0 0 Q (F0 m 64 ls [.int t3, .int t2, .int t1, .ref h0_open]) := by
        intro v1 t1 t2 t3 open_ h H locs ls hP hD hS hl
        unfold m_X6_laysOpen_64 at h
        refine lv_ior hx hb dX6_laysOpen_64 ?_
        obtain ⟨g_, h⟩ := gd_some h
        refine va_iast hx hb hK hP hD hS 3 1 rfl rfl (inb_in g_) dX6_laysOpen_65 (fun H locs hP hD hS => ?_)
        have hP : va_P (dC, dI) vwCl [(h0, .inr (6, [.int thrown_, .int told_, .ref h0_row, .int columns_, .int rooms_, .int many_, .ref h0_subjectOf, .ref h0_teacherOf, .ref h0_seatsOf, .ref h0_columnOf, .ref h0_barsOf, .int pupils_, .ref h0_choices, .int kept_, .ref h0_tape, .int taped_, .int at_, .int to_, .int digit_, .int number_, .ref h0_was, .ref h0_readChoices, .int readMany_, .ref h0_open, .ref h0_wayOf, .int bestThen_, .ref h0_cure, .ref h0_left, .ref h0_satIn])), (h0_subjectOf, .inl (cyI, 17, .inl subjectOf_)), (h0_columnOf, .inl (cyI, 17, .inl columnOf_)), (h0_open, .inl (cyI, 10, .inl (upd open_ t1.toNatClampNeg (t2 ||| t3))))] H := hP
        have hD : va_D A [(h0, .inr (6, [.int thrown_, .int told_, .ref h0_row, .int columns_, .int rooms_, .int many_, .ref h0_subjectOf, .ref h0_teacherOf, .ref h0_seatsOf, .ref h0_columnOf, .ref h0_barsOf, .int pupils_, .ref h0_choices, .int kept_, .ref h0_tape, .int taped_, .int at_, .int to_, .int digit_, .int number_, .ref h0_was, .ref h0_readChoices, .int readMany_, .ref h0_open, .ref h0_wayOf, .int bestThen_, .ref h0_cure, .ref h0_left, .ref h0_satIn])), (h0_subjectOf, .inl (cyI, 17, .inl subjectOf_)), (h0_columnOf, .inl (cyI, 17, .inl columnOf_)), (h0_open, .inl (cyI, 10, .inl (upd open_ t1.toNatClampNeg (t2 ||| t3))))] := hD
        obtain ⟨v1_1, e_v1_1⟩ : ∃ z : Int32, z = (v1 + 1) := ⟨_, rfl⟩
        have h := lt_use e_v1_1 h
        refine lv_iinc (v := v1_1) (lv' := [(1, .int v1_1), (0, .ref h0)]) hx hb dX6_laysOpen_66 hl (k := 1) rfl (by rw [e_v1_1]; rfl) (by decide) rfl (fun ls hl => ?_)
        refine lv_goto (tgt := 23) hx hb dX6_laysOpen_69 (by decide) ?_
        exact ih23 v1_1 (upd open_ t1.toNatClampNeg (t2 ||| t3)) h _ _ _ hP hD hS (lv_sub hl [1, 0] rfl)
      intro v1 open_ h H locs ls hP hD hS hl
      have h : m_X6_laysOpen_23 many_ subjectOf_ columnOf_ (it2 (m_X6_laysOpen_23 many_ subjectOf_ columnOf_) n23) v1 open_ = some o0 := h
      unfold m_X6_laysOpen_23 at h
      refine lv_iload_n hx hb dX6_laysOpen_23 rfl (lv_at hl 1 rfl) ?_
      refine lv_aload_n hx hb dX6_laysOpen_24 rfl (lv_at hl 0 rfl) ?_
      refine va_get (D := (dC, dI)) (ci := 6) (v := .int many_) (C := RX6) (T := TX6) (N := 29) hx hb hts hiX6 hown hK hP 0 rfl rfl 5 (by decide) (hts (.fieldLink RX6 87 "OptionLatticeModel" "many" "I") (by decide +kernel)) (fun _ h9 => h9) rfl dX6_laysOpen_25 ?_
      refine lv_icmp_ge (tgt := 72) hx hb dX6_laysOpen_28 (by decide) (fun c_ => ?_) (fun c_ => ?_)
      · have h := (if_pos c_).symm.trans h
        have h : some open_ = some o0 := h
        have z0 := Option.some.inj h
        obtain rfl := z0
        exact hret _ _ _ _ hP hS dX6_laysOpen_72
      · have h := (if_neg c_).symm.trans h
        refine lv_aload_n hx hb dX6_laysOpen_31 rfl (lv_at hl 0 rfl) ?_
        refine va_get (D := (dC, dI)) (ci := 6) (v := .ref h0_open) (C := RX6) (T := TX6) (N := 29) hx hb hts hiX6 hown hK hP 0 rfl rfl 23 (by decide) (hts (.fieldLink RX6 47 "OptionLatticeModel" "open" "[I") (by decide +kernel)) (fun _ h9 => h9) rfl dX6_laysOpen_32 ?_
        refine lv_aload_n hx hb dX6_laysOpen_35 rfl (lv_at hl 0 rfl) ?_
        refine va_get (D := (dC, dI)) (ci := 6) (v := .ref h0_subjectOf) (C := RX6) (T := TX6) (N := 29) hx hb hts hiX6 hown hK hP 0 rfl rfl 6 (by decide) (hts (.fieldLink RX6 20 "OptionLatticeModel" "subjectOf" "[I") (by decide +kernel)) (fun _ h9 => h9) rfl dX6_laysOpen_36 ?_
        refine lv_iload_n hx hb dX6_laysOpen_39 rfl (lv_at hl 1 rfl) ?_
        obtain ⟨g_, h⟩ := gd_some h
        refine va_iald hx hb hK hP 1 1 rfl rfl (inb_in g_) dX6_laysOpen_40 ?_
        refine lv_dup2_11 hx hb dX6_laysOpen_41 rfl rfl ?_
        obtain ⟨g_, h⟩ := gd_some h
        refine va_iald hx hb hK hP 3 1 rfl rfl (inb_in g_) dX6_laysOpen_42 ?_
        refine lv_aload_n hx hb dX6_laysOpen_43 rfl (lv_at hl 0 rfl) ?_
        refine va_get (D := (dC, dI)) (ci := 6) (v := .ref h0_columnOf) (C := RX6) (T := TX6) (N := 29) hx hb hts hiX6 hown hK hP 0 rfl rfl 9 (by decide) (hts (.fieldLink RX6 29 "OptionLatticeModel" "columnOf" "[I") (by decide +kernel)) (fun _ h9 => h9) rfl dX6_laysOpen_44 ?_
        refine lv_iload_n hx hb dX6_laysOpen_47 rfl (lv_at hl 1 rfl) ?_
        obtain ⟨g_, h⟩ := gd_some h
        refine va_iald hx hb hK hP 2 1 rfl rfl (inb_in g_) dX6_laysOpen_48 ?_
        refine lv_if_lt (tgt := 63) hx hb dX6_laysOpen_49 (by decide) (fun c_ => ?_) (fun c_ => ?_)
        · have h := (if_pos c_).symm.trans h
          refine lv_iconst (v := 0) hx hb dX6_laysOpen_63 (by decide) ?_
          exact J64 v1 (subjectOf_ v1.toNatClampNeg) (open_ ((subjectOf_ v1.toNatClampNeg)).toNatClampNeg) 0 open_ h _ _ _ hP hD hS (lv_sub hl [0, 1] rfl)
        · have h := (if_neg c_).symm.trans h
          refine lv_iconst (v := 1) hx hb dX6_laysOpen_52 (by decide) ?_
          refine lv_aload_n hx hb dX6_laysOpen_53 rfl (lv_at hl 0 rfl) ?_
          refine va_get (D := (dC, dI)) (ci := 6) (v := .ref h0_columnOf) (C := RX6) (T := TX6) (N := 29) hx hb hts hiX6 hown hK hP 0 rfl rfl 9 (by decide) (hts (.fieldLink RX6 29 "OptionLatticeModel" "columnOf" "[I") (by decide +kernel)) (fun _ h9 => h9) rfl dX6_laysOpen_54 ?_
          refine lv_iload_n hx hb dX6_laysOpen_57 rfl (lv_at hl 1 rfl) ?_
          obtain ⟨g_, h⟩ := gd_some h
          refine va_iald hx hb hK hP 2 1 rfl rfl (inb_in g_) dX6_laysOpen_58 ?_
          refine lv_ishl hx hb dX6_laysOpen_59 ?_
          refine lv_goto (tgt := 64) hx hb dX6_laysOpen_60 (by decide) ?_
          exact J64 v1 (subjectOf_ v1.toNatClampNeg) (open_ ((subjectOf_ v1.toNatClampNeg)).toNatClampNeg) ((1 : Int32) <<< ((columnOf_ v1.toNatClampNeg) &&& 31)) open_ h _ _ _ hP hD hS (lv_sub hl [0, 1] rfl)
  have L2 : ∀ (n2 : Nat), ∀ (v1 : Int32), ∀ (open_ : Nat → Int32), it2 (m_X6_laysOpen_2 many_ subjectOf_ columnOf_) n2 v1 open_ = some o0 → ∀ (H : Heap) (locs : List Loc) (ls : Array Slot), va_P (dC, dI) vwCl [(h0, .inr (6, [.int thrown_, .int told_, .ref h0_row, .int columns_, .int rooms_, .int many_, .ref h0_subjectOf, .ref h0_teacherOf, .ref h0_seatsOf, .ref h0_columnOf, .ref h0_barsOf, .int pupils_, .ref h0_choices, .int kept_, .ref h0_tape, .int taped_, .int at_, .int to_, .int digit_, .int number_, .ref h0_was, .ref h0_readChoices, .int readMany_, .ref h0_open, .ref h0_wayOf, .int bestThen_, .ref h0_cure, .ref h0_left, .ref h0_satIn])), (h0_subjectOf, .inl (cyI, 17, .inl subjectOf_)), (h0_columnOf, .inl (cyI, 17, .inl columnOf_)), (h0_open, .inl (cyI, 10, .inl open_))] H → va_D A [(h0, .inr (6, [.int thrown_, .int told_, .ref h0_row, .int columns_, .int rooms_, .int many_, .ref h0_subjectOf, .ref h0_teacherOf, .ref h0_seatsOf, .ref h0_columnOf, .ref h0_barsOf, .int pupils_, .ref h0_choices, .int kept_, .ref h0_tape, .int taped_, .int at_, .int to_, .int digit_, .int number_, .ref h0_was, .ref h0_readChoices, .int readMany_, .ref h0_open, .ref h0_wayOf, .int bestThen_, .ref h0_cure, .ref h0_left, .ref h0_satIn])), (h0_subjectOf, .inl (cyI, 17, .inl subjectOf_)), (h0_columnOf, .inl (cyI, 17, .inl columnOf_)), (h0_open, .inl (cyI, 10, .inl open_))] → va_S A s.heap H locs → lv_has ls 2 [(0, .ref h0), (1, .int v1)] → W p l e rmX6_laysOpen s m args below meth c H locs 0 0 Q (F0 m 2 ls []) := by
    intro n2
    induction n2 with
    | zero => intro v1 open_ h; exact absurd h (fun z => it2_z z)
    | succ n2 ih2 =>
      intro v1 open_ h H locs ls hP hD hS hl
      have h : m_X6_laysOpen_2 many_ subjectOf_ columnOf_ (it2 (m_X6_laysOpen_2 many_ subjectOf_ columnOf_) n2) v1 open_ = some o0 := h
      unfold m_X6_laysOpen_2 at h
      refine lv_iload_n hx hb dX6_laysOpen_2 rfl (lv_at hl 1 rfl) ?_
      refine lv_bipush (v := 10) hx hb dX6_laysOpen_3 (by decide) ?_
      refine lv_icmp_ge (tgt := 21) hx hb dX6_laysOpen_5 (by decide) (fun c_ => ?_) (fun c_ => ?_)
      · have h := (if_pos c_).symm.trans h
        refine lv_iconst (v := 0) hx hb dX6_laysOpen_21 (by decide) ?_
        refine lv_istore_n (lv' := [(1, .int 0), (0, .ref h0)]) hx hb dX6_laysOpen_22 rfl hl (by decide) rfl (fun ls hl => ?_)
        exact L23  1100 0 open_ h _ _ _ hP hD hS (lv_sub hl [1, 0] rfl)
      · have h := (if_neg c_).symm.trans h
        refine lv_aload_n hx hb dX6_laysOpen_8 rfl (lv_at hl 0 rfl) ?_
        refine va_get (D := (dC, dI)) (ci := 6) (v := .ref h0_open) (C := RX6) (T := TX6) (N := 29) hx hb hts hiX6 hown hK hP 0 rfl rfl 23 (by decide) (hts (.fieldLink RX6 47 "OptionLatticeModel" "open" "[I") (by decide +kernel)) (fun _ h9 => h9) rfl dX6_laysOpen_9 ?_
        refine lv_iload_n hx hb dX6_laysOpen_12 rfl (lv_at hl 1 rfl) ?_
        refine lv_iconst (v := 0) hx hb dX6_laysOpen_13 (by decide) ?_
        obtain ⟨g_, h⟩ := gd_some h
        refine va_iast hx hb hK hP hD hS 3 1 rfl rfl (inb_in g_) dX6_laysOpen_14 (fun H locs hP hD hS => ?_)
        have hP : va_P (dC, dI) vwCl [(h0, .inr (6, [.int thrown_, .int told_, .ref h0_row, .int columns_, .int rooms_, .int many_, .ref h0_subjectOf, .ref h0_teacherOf, .ref h0_seatsOf, .ref h0_columnOf, .ref h0_barsOf, .int pupils_, .ref h0_choices, .int kept_, .ref h0_tape, .int taped_, .int at_, .int to_, .int digit_, .int number_, .ref h0_was, .ref h0_readChoices, .int readMany_, .ref h0_open, .ref h0_wayOf, .int bestThen_, .ref h0_cure, .ref h0_left, .ref h0_satIn])), (h0_subjectOf, .inl (cyI, 17, .inl subjectOf_)), (h0_columnOf, .inl (cyI, 17, .inl columnOf_)), (h0_open, .inl (cyI, 10, .inl (upd open_ v1.toNatClampNeg 0)))] H := hP
        have hD : va_D A [(h0, .inr (6, [.int thrown_, .int told_, .ref h0_row, .int columns_, .int rooms_, .int many_, .ref h0_subjectOf, .ref h0_teacherOf, .ref h0_seatsOf, .ref h0_columnOf, .ref h0_barsOf, .int pupils_, .ref h0_choices, .int kept_, .ref h0_tape, .int taped_, .int at_, .int to_, .int digit_, .int number_, .ref h0_was, .ref h0_readChoices, .int readMany_, .ref h0_open, .ref h0_wayOf, .int bestThen_, .ref h0_cure, .ref h0_left, .ref h0_satIn])), (h0_subjectOf, .inl (cyI, 17, .inl subjectOf_)), (h0_columnOf, .inl (cyI, 17, .inl columnOf_)), (h0_open, .inl (cyI, 10, .inl (upd open_ v1.toNatClampNeg 0)))] := hD
        obtain ⟨v1_2, e_v1_2⟩ : ∃ z : Int32, z = (v1 + 1) := ⟨_, rfl⟩
        have h := lt_use e_v1_2 h
        refine lv_iinc (v := v1_2) (lv' := [(1, .int v1_2), (0, .ref h0)]) hx hb dX6_laysOpen_15 hl (k := 1) rfl (by rw [e_v1_2]; rfl) (by decide) rfl (fun ls hl => ?_)
        refine lv_goto (tgt := 2) hx hb dX6_laysOpen_18 (by decide) ?_
        exact ih2 v1_2 (upd open_ v1.toNatClampNeg 0) h _ _ _ hP hD hS (lv_sub hl [1, 0] rfl)
  unfold m_X6_laysOpen at h
  refine lv_iconst (v := 0) hx hb dX6_laysOpen_0 (by decide) ?_
  refine lv_istore_n (lv' := [(1, .int 0), (0, .ref h0)]) hx hb dX6_laysOpen_1 rfl hl (by decide) rfl (fun ls hl => ?_)
  exact L2  1100 0 open_ h _ _ _ hP hD hS (lv_sub hl [1, 0] rfl)

def m_J6_numberOfTrailingZeros_0f7a4_62 (v0 : Int32) (v1 : Int32) : Option (Int32) :=
  (if v0 ≤ 4 then some (v1 + (iushr v0 1)) else lt' (v1 + 2) (fun v1_1 => lt' (iushr v0 2) (fun v0_2 => some (v1_1 + (iushr v0_2 1)))))
def m_J6_numberOfTrailingZeros_0f7a4_49 (v0 : Int32) (v1 : Int32) : Option (Int32) :=
  (if v0 ≤ 16 then m_J6_numberOfTrailingZeros_0f7a4_62 v0 v1 else lt' (v1 + 4) (fun v1_3 => lt' (iushr v0 4) (fun v0_4 => m_J6_numberOfTrailingZeros_0f7a4_62 v0_4 v1_3)))
def m_J6_numberOfTrailingZeros_0f7a4_34 (v0 : Int32) (v1 : Int32) : Option (Int32) :=
  (if v0 ≤ 256 then m_J6_numberOfTrailingZeros_0f7a4_49 v0 v1 else lt' (v1 + 8) (fun v1_5 => lt' (iushr v0 8) (fun v0_6 => m_J6_numberOfTrailingZeros_0f7a4_49 v0_6 v1_5)))
def m_J6_numberOfTrailingZeros_0f7a4 (v0 : Int32) : Option (Int32) :=
  lt' ((v0 ^^^ (-1)) &&& (v0 - 1)) (fun v0_7 => (if 0 < v0_7 then (if v0_7 ≤ 65536 then m_J6_numberOfTrailingZeros_0f7a4_34 v0_7 1 else lt' (1 + 16) (fun v1_8 => lt' (iushr v0_7 16) (fun v0_9 => m_J6_numberOfTrailingZeros_0f7a4_34 v0_9 v1_8))) else some (v0_7 &&& 32)))
abbrev rmJ6_numberOfTrailingZeros_0f7a4 : Room := { frames := 0, cells := 0, slots := 0, locals := 0 }
set_option maxHeartbeats 4000000 in
set_option maxRecDepth 100000 in
theorem c_J6_numberOfTrailingZeros_0f7a4 (l : Launch) (dC : Nat → ClassId) (dI : Nat → Nat → Nat) (cyC cyI cyJ : ClassId) (v0 : Int32) (rr : Int32) (h : m_J6_numberOfTrailingZeros_0f7a4 v0 = some rr) : uMi l yJ6_numberOfTrailingZeros_0f7a4 wsJ6_numberOfTrailingZeros_0f7a4 rmJ6_numberOfTrailingZeros_0f7a4 (dC, dI) [(cyC, .char), (cyI, .int), (cyJ, .long)] [.int v0] [] [] rr := by
  refine uMi.of (cc := cJ6_numberOfTrailingZeros_0f7a4) (maxL := 2) (by decide) rfl (Nat.le_of_ble_eq_true rfl) (fun p e s m args below meth c A ls Q hx hb hml hown hts hA hP hK hD hE hS hl hret => ?_)
  have hown : s.vm.findClass RJ6 = some m.cls := hown
  have hl : lv_has ls 2 [(0, .int v0)] := hl
  have J62 : ∀ (v0 : Int32), ∀ (v1 : Int32), m_J6_numberOfTrailingZeros_0f7a4_62 v0 v1 = some rr → ∀ (H : Heap) (locs : List Loc) (ls : Array Slot), va_P (dC, dI) vwCl [] H → va_D A [] → va_S A s.heap H locs → lv_has ls 2 [(0, .int v0), (1, .int v1)] → W p l e rmJ6_numberOfTrailingZeros_0f7a4 s m args below meth c H locs 0 0 Q (F0 m 62 ls []) := by
    intro v0 v1 h H locs ls hP hD hS hl
    unfold m_J6_numberOfTrailingZeros_0f7a4_62 at h
    refine lv_iload_n hx hb dJ6_numberOfTrailingZeros_0f7a4_62 rfl (lv_at hl 0 rfl) ?_
    refine lv_iconst (v := 4) hx hb dJ6_numberOfTrailingZeros_0f7a4_63 (by decide) ?_
    refine lv_icmp_le (tgt := 74) hx hb dJ6_numberOfTrailingZeros_0f7a4_64 (by decide) (fun c_ => ?_) (fun c_ => ?_)
    · have h := (if_pos c_).symm.trans h
      refine lv_iload_n hx hb dJ6_numberOfTrailingZeros_0f7a4_74 rfl (lv_at hl 1 rfl) ?_
      refine lv_iload_n hx hb dJ6_numberOfTrailingZeros_0f7a4_75 rfl (lv_at hl 0 rfl) ?_
      refine lv_iconst (v := 1) hx hb dJ6_numberOfTrailingZeros_0f7a4_76 (by decide) ?_
      refine lv_iushr (v := (iushr v0 1)) hx hb dJ6_numberOfTrailingZeros_0f7a4_77 rfl ?_
      refine lv_iadd hx hb dJ6_numberOfTrailingZeros_0f7a4_78 ?_
      have h : some (v1 + (iushr v0 1)) = some rr := h
      have z0 := Option.some.inj h
      obtain rfl := z0
      exact hret _ _ _ _ hP hS rfl dJ6_numberOfTrailingZeros_0f7a4_79
    · have h := (if_neg c_).symm.trans h
      obtain ⟨v1_1, e_v1_1⟩ : ∃ z : Int32, z = (v1 + 2) := ⟨_, rfl⟩
      have h := lt_use e_v1_1 h
      refine lv_iinc (v := v1_1) (lv' := [(1, .int v1_1), (0, .int v0)]) hx hb dJ6_numberOfTrailingZeros_0f7a4_67 hl (k := 1) rfl (by rw [e_v1_1]; rfl) (by decide) rfl (fun ls hl => ?_)
      refine lv_iload_n hx hb dJ6_numberOfTrailingZeros_0f7a4_70 rfl (lv_at hl 1 rfl) ?_
      refine lv_iconst (v := 2) hx hb dJ6_numberOfTrailingZeros_0f7a4_71 (by decide) ?_
      refine lv_iushr (v := (iushr v0 2)) hx hb dJ6_numberOfTrailingZeros_0f7a4_72 rfl ?_
      refine lv_topi (fun v0_2 e_v0_2 => ?_)
      have h := lt_use e_v0_2 h
      refine lv_istore_n (lv' := [(0, .int v0_2), (1, .int v1_1)]) hx hb dJ6_numberOfTrailingZeros_0f7a4_73 rfl hl (by decide) rfl (fun ls hl => ?_)
      refine lv_iload_n hx hb dJ6_numberOfTrailingZeros_0f7a4_74 rfl (lv_at hl 1 rfl) ?_
      refine lv_iload_n hx hb dJ6_numberOfTrailingZeros_0f7a4_75 rfl (lv_at hl 0 rfl) ?_
      refine lv_iconst (v := 1) hx hb dJ6_numberOfTrailingZeros_0f7a4_76 (by decide) ?_
      refine lv_iushr (v := (iushr v0_2 1)) hx hb dJ6_numberOfTrailingZeros_0f7a4_77 rfl ?_
      refine lv_iadd hx hb dJ6_numberOfTrailingZeros_0f7a4_78 ?_
      have h : some (v1_1 + (iushr v0_2 1)) = some rr := h
      have z0 := Option.some.inj h
      obtain rfl := z0
      exact hret _ _ _ _ hP hS rfl dJ6_numberOfTrailingZeros_0f7a4_79
  have J49 : ∀ (v0 : Int32), ∀ (v1 : Int32), m_J6_numberOfTrailingZeros_0f7a4_49 v0 v1 = some rr → ∀ (H : Heap) (locs : List Loc) (ls : Array Slot), va_P (dC, dI) vwCl [] H → va_D A [] → va_S A s.heap H locs → lv_has ls 2 [(0, .int v0), (1, .int v1)] → W p l e rmJ6_numberOfTrailingZeros_0f7a4 s m args below meth c H locs 0 0 Q (F0 m 49 ls []) := by
    intro v0 v1 h H locs ls hP hD hS hl
    unfold m_J6_numberOfTrailingZeros_0f7a4_49 at h
    refine lv_iload_n hx hb dJ6_numberOfTrailingZeros_0f7a4_49 rfl (lv_at hl 0 rfl) ?_
    refine lv_bipush (v := 16) hx hb dJ6_numberOfTrailingZeros_0f7a4_50 (by decide) ?_
    refine lv_icmp_le (tgt := 62) hx hb dJ6_numberOfTrailingZeros_0f7a4_52 (by decide) (fun c_ => ?_) (fun c_ => ?_)
    · have h := (if_pos c_).symm.trans h
      exact J62 v0 v1 h _ _ _ hP hD hS (lv_sub hl [0, 1] rfl)
    · have h := (if_neg c_).symm.trans h
      obtain ⟨v1_3, e_v1_3⟩ : ∃ z : Int32, z = (v1 + 4) := ⟨_, rfl⟩
      have h := lt_use e_v1_3 h
      refine lv_iinc (v := v1_3) (lv' := [(1, .int v1_3), (0, .int v0)]) hx hb dJ6_numberOfTrailingZeros_0f7a4_55 hl (k := 1) rfl (by rw [e_v1_3]; rfl) (by decide) rfl (fun ls hl => ?_)
      refine lv_iload_n hx hb dJ6_numberOfTrailingZeros_0f7a4_58 rfl (lv_at hl 1 rfl) ?_
      refine lv_iconst (v := 4) hx hb dJ6_numberOfTrailingZeros_0f7a4_59 (by decide) ?_
      refine lv_iushr (v := (iushr v0 4)) hx hb dJ6_numberOfTrailingZeros_0f7a4_60 rfl ?_
      refine lv_topi (fun v0_4 e_v0_4 => ?_)
      have h := lt_use e_v0_4 h
      refine lv_istore_n (lv' := [(0, .int v0_4), (1, .int v1_3)]) hx hb dJ6_numberOfTrailingZeros_0f7a4_61 rfl hl (by decide) rfl (fun ls hl => ?_)
      exact J62 v0_4 v1_3 h _ _ _ hP hD hS (lv_sub hl [0, 1] rfl)
  have J34 : ∀ (v0 : Int32), ∀ (v1 : Int32), m_J6_numberOfTrailingZeros_0f7a4_34 v0 v1 = some rr → ∀ (H : Heap) (locs : List Loc) (ls : Array Slot), va_P (dC, dI) vwCl [] H → va_D A [] → va_S A s.heap H locs → lv_has ls 2 [(0, .int v0), (1, .int v1)] → W p l e rmJ6_numberOfTrailingZeros_0f7a4 s m args below meth c H locs 0 0 Q (F0 m 34 ls []) := by
    intro v0 v1 h H locs ls hP hD hS hl
    unfold m_J6_numberOfTrailingZeros_0f7a4_34 at h
    refine lv_iload_n hx hb dJ6_numberOfTrailingZeros_0f7a4_34 rfl (lv_at hl 0 rfl) ?_
    refine lv_sipush (v := 256) hx hb dJ6_numberOfTrailingZeros_0f7a4_35 (by decide) ?_
    refine lv_icmp_le (tgt := 49) hx hb dJ6_numberOfTrailingZeros_0f7a4_38 (by decide) (fun c_ => ?_) (fun c_ => ?_)
    · have h := (if_pos c_).symm.trans h
      exact J49 v0 v1 h _ _ _ hP hD hS (lv_sub hl [0, 1] rfl)
    · have h := (if_neg c_).symm.trans h
      obtain ⟨v1_5, e_v1_5⟩ : ∃ z : Int32, z = (v1 + 8) := ⟨_, rfl⟩
      have h := lt_use e_v1_5 h
      refine lv_iinc (v := v1_5) (lv' := [(1, .int v1_5), (0, .int v0)]) hx hb dJ6_numberOfTrailingZeros_0f7a4_41 hl (k := 1) rfl (by rw [e_v1_5]; rfl) (by decide) rfl (fun ls hl => ?_)
      refine lv_iload_n hx hb dJ6_numberOfTrailingZeros_0f7a4_44 rfl (lv_at hl 1 rfl) ?_
      refine lv_bipush (v := 8) hx hb dJ6_numberOfTrailingZeros_0f7a4_45 (by decide) ?_
      refine lv_iushr (v := (iushr v0 8)) hx hb dJ6_numberOfTrailingZeros_0f7a4_47 rfl ?_
      refine lv_topi (fun v0_6 e_v0_6 => ?_)
      have h := lt_use e_v0_6 h
      refine lv_istore_n (lv' := [(0, .int v0_6), (1, .int v1_5)]) hx hb dJ6_numberOfTrailingZeros_0f7a4_48 rfl hl (by decide) rfl (fun ls hl => ?_)
      exact J49 v0_6 v1_5 h _ _ _ hP hD hS (lv_sub hl [0, 1] rfl)
  unfold m_J6_numberOfTrailingZeros_0f7a4 at h
  refine lv_iload_n hx hb dJ6_numberOfTrailingZeros_0f7a4_0 rfl (lv_at hl 0 rfl) ?_
  refine lv_iconst (v := (-1)) hx hb dJ6_numberOfTrailingZeros_0f7a4_1 (by decide) ?_
  refine lv_ixor hx hb dJ6_numberOfTrailingZeros_0f7a4_2 ?_
  refine lv_iload_n hx hb dJ6_numberOfTrailingZeros_0f7a4_3 rfl (lv_at hl 0 rfl) ?_
  refine lv_iconst (v := 1) hx hb dJ6_numberOfTrailingZeros_0f7a4_4 (by decide) ?_
  refine lv_isub hx hb dJ6_numberOfTrailingZeros_0f7a4_5 ?_
  refine lv_iand hx hb dJ6_numberOfTrailingZeros_0f7a4_6 ?_
  refine lv_topi (fun v0_7 e_v0_7 => ?_)
  have h := lt_use e_v0_7 h
  refine lv_istore_n (lv' := [(0, .int v0_7)]) hx hb dJ6_numberOfTrailingZeros_0f7a4_7 rfl hl (by decide) rfl (fun ls hl => ?_)
  refine lv_iload_n hx hb dJ6_numberOfTrailingZeros_0f7a4_8 rfl (lv_at hl 0 rfl) ?_
  refine lv_if_gt (tgt := 17) hx hb dJ6_numberOfTrailingZeros_0f7a4_9 (by decide) (fun c_ => ?_) (fun c_ => ?_)
  · have h := (if_pos c_).symm.trans h
    refine lv_iconst (v := 1) hx hb dJ6_numberOfTrailingZeros_0f7a4_17 (by decide) ?_
    refine lv_istore_n (lv' := [(1, .int 1), (0, .int v0_7)]) hx hb dJ6_numberOfTrailingZeros_0f7a4_18 rfl hl (by decide) rfl (fun ls hl => ?_)
    refine lv_iload_n hx hb dJ6_numberOfTrailingZeros_0f7a4_19 rfl (lv_at hl 1 rfl) ?_
    refine lv_ldcw hx hb hown (hts (.constant RJ6 264 (65536)) (by decide +kernel)) dJ6_numberOfTrailingZeros_0f7a4_20 ?_
    refine lv_icmp_le (tgt := 34) hx hb dJ6_numberOfTrailingZeros_0f7a4_23 (by decide) (fun c_ => ?_) (fun c_ => ?_)
    · have h := (if_pos c_).symm.trans h
      exact J34 v0_7 1 h _ _ _ hP hD hS (lv_sub hl [1, 0] rfl)
    · have h := (if_neg c_).symm.trans h
      obtain ⟨v1_8, e_v1_8⟩ : ∃ z : Int32, z = (1 + 16) := ⟨_, rfl⟩
      have h := lt_use e_v1_8 h
      refine lv_iinc (v := v1_8) (lv' := [(1, .int v1_8), (0, .int v0_7)]) hx hb dJ6_numberOfTrailingZeros_0f7a4_26 hl (k := 0) rfl (by rw [e_v1_8]; rfl) (by decide) rfl (fun ls hl => ?_)
      refine lv_iload_n hx hb dJ6_numberOfTrailingZeros_0f7a4_29 rfl (lv_at hl 1 rfl) ?_
      refine lv_bipush (v := 16) hx hb dJ6_numberOfTrailingZeros_0f7a4_30 (by decide) ?_
      refine lv_iushr (v := (iushr v0_7 16)) hx hb dJ6_numberOfTrailingZeros_0f7a4_32 rfl ?_
      refine lv_topi (fun v0_9 e_v0_9 => ?_)
      have h := lt_use e_v0_9 h
      refine lv_istore_n (lv' := [(0, .int v0_9), (1, .int v1_8)]) hx hb dJ6_numberOfTrailingZeros_0f7a4_33 rfl hl (by decide) rfl (fun ls hl => ?_)
      exact J34 v0_9 v1_8 h _ _ _ hP hD hS (lv_sub hl [0, 1] rfl)
  · have h := (if_neg c_).symm.trans h
    refine lv_iload_n hx hb dJ6_numberOfTrailingZeros_0f7a4_12 rfl (lv_at hl 0 rfl) ?_
    refine lv_bipush (v := 32) hx hb dJ6_numberOfTrailingZeros_0f7a4_13 (by decide) ?_
    refine lv_iand hx hb dJ6_numberOfTrailingZeros_0f7a4_15 ?_
    have h : some (v0_7 &&& 32) = some rr := h
    have z0 := Option.some.inj h
    obtain rfl := z0
    exact hret _ _ _ _ hP hS rfl dJ6_numberOfTrailingZeros_0f7a4_16

def m_X6_hasWay_23 (open_ : Nat → Int32) (v1 : Int32) (v2 : Int32) (self : (Nat → Int32) → Int32 → Int32 → Option (Int32)) (rec23 : Int32 → Option (Int32)) : Int32 → Option (Int32) := fun v4 =>
  (if v4 = 0 then some 0 else bd1 (self open_ (v1 &&& (v1 - 1)) (v2 ||| (v4 &&& (-v4)))) (fun r_1 => (if r_1 = 0 then lt' (v4 &&& (v4 - 1)) (fun v4_2 => rec23 v4_2) else some 1)))
def m_X6_hasWay_B (self : (Nat → Int32) → Int32 → Int32 → Option (Int32)) (open_ : Nat → Int32) (v1 : Int32) (v2 : Int32) : Option (Int32) :=
  (if v1 = 0 then some 1 else bd1 (m_J6_numberOfTrailingZeros_0f7a4 v1) (fun r_3 => gd (inb r_3 10) (lt' ((open_ r_3.toNatClampNeg) &&& (v2 ^^^ (-1))) (fun v4_4 => it1 (m_X6_hasWay_23 open_ v1 v2 self) 1100 v4_4))))
def m_X6_hasWay (dd : Nat) (open_ : Nat → Int32) (v1 : Int32) (v2 : Int32) : Option (Int32) := it3 m_X6_hasWay_B dd open_ v1 v2
abbrev rmX6_hasWay (dd : Nat) : Room := { frames := 1 + dd, cells := 0, slots := 0, locals := 21 + dd * 24 }
set_option maxHeartbeats 4000000 in
set_option maxRecDepth 100000 in
theorem c_X6_hasWay (dd : Nat) : ∀ (l : Launch) (dC : Nat → ClassId) (dI : Nat → Nat → Nat) (cyC cyI cyJ : ClassId) (h0 h0_row h0_subjectOf h0_teacherOf h0_seatsOf h0_columnOf h0_barsOf h0_choices h0_tape h0_was h0_readChoices h0_open h0_wayOf h0_cure h0_left h0_satIn : Nat) (thrown_ : Int32) (told_ : Int32) (columns_ : Int32) (rooms_ : Int32) (many_ : Int32) (pupils_ : Int32) (kept_ : Int32) (taped_ : Int32) (at_ : Int32) (to_ : Int32) (digit_ : Int32) (number_ : Int32) (readMany_ : Int32) (bestThen_ : Int32) (open_ : Nat → Int32) (v1 : Int32) (v2 : Int32) (rr : Int32), m_X6_hasWay dd open_ v1 v2 = some rr → uMi l yX6_hasWay wsX6_hasWay (rmX6_hasWay dd) (dC, dI) [(cyC, .char), (cyI, .int), (cyJ, .long)] [.ref h0, .int v1, .int v2] [(h0, .inr (6, [.int thrown_, .int told_, .ref h0_row, .int columns_, .int rooms_, .int many_, .ref h0_subjectOf, .ref h0_teacherOf, .ref h0_seatsOf, .ref h0_columnOf, .ref h0_barsOf, .int pupils_, .ref h0_choices, .int kept_, .ref h0_tape, .int taped_, .int at_, .int to_, .int digit_, .int number_, .ref h0_was, .ref h0_readChoices, .int readMany_, .ref h0_open, .ref h0_wayOf, .int bestThen_, .ref h0_cure, .ref h0_left, .ref h0_satIn])), (h0_open, .inl (cyI, 10, .inl open_))] [(h0, .inr (6, [.int thrown_, .int told_, .ref h0_row, .int columns_, .int rooms_, .int many_, .ref h0_subjectOf, .ref h0_teacherOf, .ref h0_seatsOf, .ref h0_columnOf, .ref h0_barsOf, .int pupils_, .ref h0_choices, .int kept_, .ref h0_tape, .int taped_, .int at_, .int to_, .int digit_, .int number_, .ref h0_was, .ref h0_readChoices, .int readMany_, .ref h0_open, .ref h0_wayOf, .int bestThen_, .ref h0_cure, .ref h0_left, .ref h0_satIn])), (h0_open, .inl (cyI, 10, .inl open_))] rr := by
  induction dd with
  | zero => intro l dC dI cyC cyI cyJ h0 h0_row h0_subjectOf h0_teacherOf h0_seatsOf h0_columnOf h0_barsOf h0_choices h0_tape h0_was h0_readChoices h0_open h0_wayOf h0_cure h0_left h0_satIn thrown_ told_ columns_ rooms_ many_ pupils_ kept_ taped_ at_ to_ digit_ number_ readMany_ bestThen_ open_ v1 v2 rr h; exact absurd h (fun z => it3_z z)
  | succ dd ihd =>
    intro l dC dI cyC cyI cyJ h0 h0_row h0_subjectOf h0_teacherOf h0_seatsOf h0_columnOf h0_barsOf h0_choices h0_tape h0_was h0_readChoices h0_open h0_wayOf h0_cure h0_left h0_satIn thrown_ told_ columns_ rooms_ many_ pupils_ kept_ taped_ at_ to_ digit_ number_ readMany_ bestThen_ open_ v1 v2 rr h
    have h : m_X6_hasWay_B (it3 m_X6_hasWay_B dd) open_ v1 v2 = some rr := h
    refine uMi.of (cc := cX6_hasWay) (maxL := 5) (by decide) rfl (Nat.le_of_ble_eq_true rfl) (fun p e s m args below meth c A ls Q hx hb hml hown hts hA hP hK hD hE hS hl hret => ?_)
    have hown : s.vm.findClass RX6 = some m.cls := hown
    have hl : lv_has ls 5 [(0, .ref h0), (1, .int v1), (2, .int v2)] := hl
    have hiX6 : ∀ w ∈ u_ws RX6 TX6 29, w ∈ wsX6_hasWay := fun _ h9 => List.mem_cons_of_mem _ (List.mem_append_right _ h9)
    have L23 : ∀ (n23 : Nat), ∀ (v4 : Int32), it1 (m_X6_hasWay_23 open_ v1 v2 (it3 m_X6_hasWay_B dd)) n23 v4 = some rr → ∀ (H : Heap) (locs : List Loc) (ls : Array Slot), va_P (dC, dI) vwCl [(h0, .inr (6, [.int thrown_, .int told_, .ref h0_row, .int columns_, .int rooms_, .int many_, .ref h0_subjectOf, .ref h0_teacherOf, .ref h0_seatsOf, .ref h0_columnOf, .ref h0_barsOf, .int pupils_, .ref h0_choices, .int kept_, .ref h0_tape, .int taped_, .int at_, .int to_, .int digit_, .int number_, .ref h0_was, .ref h0_readChoices, .int readMany_, .ref h0_open, .ref h0_wayOf, .int bestThen_, .ref h0_cure, .ref h0_left, .ref h0_satIn])), (h0_open, .inl (cyI, 10, .inl open_))] H → va_D A [(h0, .inr (6, [.int thrown_, .int told_, .ref h0_row, .int columns_, .int rooms_, .int many_, .ref h0_subjectOf, .ref h0_teacherOf, .ref h0_seatsOf, .ref h0_columnOf, .ref h0_barsOf, .int pupils_, .ref h0_choices, .int kept_, .ref h0_tape, .int taped_, .int at_, .int to_, .int digit_, .int number_, .ref h0_was, .ref h0_readChoices, .int readMany_, .ref h0_open, .ref h0_wayOf, .int bestThen_, .ref h0_cure, .ref h0_left, .ref h0_satIn])), (h0_open, .inl (cyI, 10, .inl open_))] → va_S A s.heap H locs → lv_has ls 5 [(0, .ref h0), (1, .int v1), (2, .int v2), (4, .int v4)] → W p l e (rmX6_hasWay (dd + 1)) s m args below meth c H locs 0 0 Q (F0 m 23 ls []) := by
      intro n23
      induction n23 with
      | zero => intro v4 h; exact absurd h (fun z => it1_z z)
      | succ n23 ih23 =>
        intro v4 h H locs ls hP hD hS hl
        have h : m_X6_hasWay_23 open_ v1 v2 (it3 m_X6_hasWay_B dd) (it1 (m_X6_hasWay_23 open_ v1 v2 (it3 m_X6_hasWay_B dd)) n23) v4 = some rr := h
        unfold m_X6_hasWay_23 at h
        refine lv_iload hx hb dX6_hasWay_23 (lv_at hl 3 rfl) ?_
        refine lv_if_eq (tgt := 62) hx hb dX6_hasWay_25 (by decide) (fun c_ => ?_) (fun c_ => ?_)
        · have h := (if_pos c_).symm.trans h
          refine lv_iconst (v := 0) hx hb dX6_hasWay_62 (by decide) ?_
          have h : some 0 = some rr := h
          have z0 := Option.some.inj h
          obtain rfl := z0
          exact hret _ _ _ _ hP hS rfl dX6_hasWay_63
        · have h := (if_neg c_).symm.trans h
          refine lv_aload_n hx hb dX6_hasWay_28 rfl (lv_at hl 0 rfl) ?_
          refine lv_iload_n hx hb dX6_hasWay_29 rfl (lv_at hl 1 rfl) ?_
          refine lv_iload_n hx hb dX6_hasWay_30 rfl (lv_at hl 1 rfl) ?_
          refine lv_iconst (v := 1) hx hb dX6_hasWay_31 (by decide) ?_
          refine lv_isub hx hb dX6_hasWay_32 ?_
          refine lv_iand hx hb dX6_hasWay_33 ?_
          refine lv_iload_n hx hb dX6_hasWay_34 rfl (lv_at hl 2 rfl) ?_
          refine lv_iload hx hb dX6_hasWay_35 (lv_at hl 3 rfl) ?_
          refine lv_iload hx hb dX6_hasWay_37 (lv_at hl 3 rfl) ?_
          refine lv_ineg hx hb dX6_hasWay_39 ?_
          refine lv_iand hx hb dX6_hasWay_40 ?_
          refine lv_ior hx hb dX6_hasWay_41 ?_
          obtain ⟨r_1, hq, h⟩ := bd1_some h
          refine uV_i (b := h0) (As := [.int (v1 &&& (v1 - 1)), .int (v2 ||| (v4 &&& (-v4)))]) (rest := []) ⟨hx, hb, hml, hown, hts⟩ (ihd l dC dI cyC cyI cyJ h0 h0_row h0_subjectOf h0_teacherOf h0_seatsOf h0_columnOf h0_barsOf h0_choices h0_tape h0_was h0_readChoices h0_open h0_wayOf h0_cure h0_left h0_satIn thrown_ told_ columns_ rooms_ many_ pupils_ kept_ taped_ at_ to_ digit_ number_ readMany_ bestThen_ open_ (v1 &&& (v1 - 1)) (v2 ||| (v4 &&& (-v4))) r_1 hq) (cwV 2 hts gX6_hasWay_X6_hasWay rfl rfl rfl (by decide +kernel) ⟨by show 1 + dd + 1 ≤ 1 + (dd + 1); omega, by show 8 + (5 + 11) + (21 + dd * 24) ≤ 21 + (dd + 1) * 24; omega⟩) hK hE hA hP hD hS [0, 1] rfl rfl rfl 6 0 rfl rfl rfl hl.1 rfl (Nat.le_of_ble_eq_true rfl) ⟨Nat.zero_le _, Nat.zero_le _⟩ dX6_hasWay_42 (fun H locs hP hD hS => ?_)
          have hP : va_P (dC, dI) vwCl [(h0, .inr (6, [.int thrown_, .int told_, .ref h0_row, .int columns_, .int rooms_, .int many_, .ref h0_subjectOf, .ref h0_teacherOf, .ref h0_seatsOf, .ref h0_columnOf, .ref h0_barsOf, .int pupils_, .ref h0_choices, .int kept_, .ref h0_tape, .int taped_, .int at_, .int to_, .int digit_, .int number_, .ref h0_was, .ref h0_readChoices, .int readMany_, .ref h0_open, .ref h0_wayOf, .int bestThen_, .ref h0_cure, .ref h0_left, .ref h0_satIn])), (h0_open, .inl (cyI, 10, .inl open_))] H := hP
          have hD : va_D A [(h0, .inr (6, [.int thrown_, .int told_, .ref h0_row, .int columns_, .int rooms_, .int many_, .ref h0_subjectOf, .ref h0_teacherOf, .ref h0_seatsOf, .ref h0_columnOf, .ref h0_barsOf, .int pupils_, .ref h0_choices, .int kept_, .ref h0_tape, .int taped_, .int at_, .int to_, .int digit_, .int number_, .ref h0_was, .ref h0_readChoices, .int readMany_, .ref h0_open, .ref h0_wayOf, .int bestThen_, .ref h0_cure, .ref h0_left, .ref h0_satIn])), (h0_open, .inl (cyI, 10, .inl open_))] := hD
          refine lv_if_eq (tgt := 50) hx hb dX6_hasWay_45 (by decide) (fun c_ => ?_) (fun c_ => ?_)
          · have h := (if_pos c_).symm.trans h
            refine lv_iload hx hb dX6_hasWay_50 (lv_at hl 3 rfl) ?_
            refine lv_iload hx hb dX6_hasWay_52 (lv_at hl 3 rfl) ?_
            refine lv_iconst (v := 1) hx hb dX6_hasWay_54 (by decide) ?_
            refine lv_isub hx hb dX6_hasWay_55 ?_
            refine lv_iand hx hb dX6_hasWay_56 ?_
            refine lv_topi (fun v4_2 e_v4_2 => ?_)
            have h := lt_use e_v4_2 h
            refine lv_istore (lv' := [(4, .int v4_2), (0, .ref h0), (1, .int v1), (2, .int v2)]) hx hb dX6_hasWay_57 hl (by decide) rfl (fun ls hl => ?_)
            refine lv_goto (tgt := 23) hx hb dX6_hasWay_59 (by decide) ?_
            exact ih23 v4_2 h _ _ _ hP hD hS (lv_sub hl [1, 2, 3, 0] rfl)
          · have h := (if_neg c_).symm.trans h
            refine lv_iconst (v := 1) hx hb dX6_hasWay_48 (by decide) ?_
            have h : some 1 = some rr := h
            have z0 := Option.some.inj h
            obtain rfl := z0
            exact hret _ _ _ _ hP hS rfl dX6_hasWay_49
    unfold m_X6_hasWay_B at h
    refine lv_iload_n hx hb dX6_hasWay_0 rfl (lv_at hl 1 rfl) ?_
    refine lv_if_ne (tgt := 6) hx hb dX6_hasWay_1 (by decide) (fun c_ => ?_) (fun c_ => ?_)
    · have h := (if_neg c_).symm.trans h
      refine lv_iload_n hx hb dX6_hasWay_6 rfl (lv_at hl 1 rfl) ?_
      obtain ⟨r_3, hq, h⟩ := bd1_some h
      refine uS_i (As := [.int v1]) (rest := []) ⟨hx, hb, hml, hown, hts⟩ (c_J6_numberOfTrailingZeros_0f7a4 l dC dI cyC cyI cyJ v1 r_3 hq) (va_cwS 1 hts gX6_hasWay_J6_numberOfTrailingZeros_0f7a4 rfl rfl rfl (by decide +kernel) ⟨by show 0 + 1 ≤ 1 + (dd + 1); omega, by show 8 + (2 + 11) + 0 ≤ 21 + (dd + 1) * 24; omega⟩) hK hE hA hP hD hS [] rfl rfl rfl rfl hl.1 rfl (Nat.le_of_ble_eq_true rfl) ⟨Nat.zero_le _, Nat.zero_le _⟩ dX6_hasWay_7 (fun H locs hP hD hS => ?_)
      have hP : va_P (dC, dI) vwCl [(h0, .inr (6, [.int thrown_, .int told_, .ref h0_row, .int columns_, .int rooms_, .int many_, .ref h0_subjectOf, .ref h0_teacherOf, .ref h0_seatsOf, .ref h0_columnOf, .ref h0_barsOf, .int pupils_, .ref h0_choices, .int kept_, .ref h0_tape, .int taped_, .int at_, .int to_, .int digit_, .int number_, .ref h0_was, .ref h0_readChoices, .int readMany_, .ref h0_open, .ref h0_wayOf, .int bestThen_, .ref h0_cure, .ref h0_left, .ref h0_satIn])), (h0_open, .inl (cyI, 10, .inl open_))] H := hP
      have hD : va_D A [(h0, .inr (6, [.int thrown_, .int told_, .ref h0_row, .int columns_, .int rooms_, .int many_, .ref h0_subjectOf, .ref h0_teacherOf, .ref h0_seatsOf, .ref h0_columnOf, .ref h0_barsOf, .int pupils_, .ref h0_choices, .int kept_, .ref h0_tape, .int taped_, .int at_, .int to_, .int digit_, .int number_, .ref h0_was, .ref h0_readChoices, .int readMany_, .ref h0_open, .ref h0_wayOf, .int bestThen_, .ref h0_cure, .ref h0_left, .ref h0_satIn])), (h0_open, .inl (cyI, 10, .inl open_))] := hD
      refine lv_istore_n (lv' := [(3, .int r_3), (0, .ref h0), (1, .int v1), (2, .int v2)]) hx hb dX6_hasWay_10 rfl hl (by decide) rfl (fun ls hl => ?_)
      refine lv_aload_n hx hb dX6_hasWay_11 rfl (lv_at hl 1 rfl) ?_
      refine va_get (D := (dC, dI)) (ci := 6) (v := .ref h0_open) (C := RX6) (T := TX6) (N := 29) hx hb hts hiX6 hown hK hP 0 rfl rfl 23 (by decide) (hts (.fieldLink RX6 47 "OptionLatticeModel" "open" "[I") (by decide +kernel)) (fun _ h9 => h9) rfl dX6_hasWay_12 ?_
      refine lv_iload_n hx hb dX6_hasWay_15 rfl (lv_at hl 0 rfl) ?_
      obtain ⟨g_, h⟩ := gd_some h
      refine va_iald hx hb hK hP 1 1 rfl rfl (inb_in g_) dX6_hasWay_16 ?_
      refine lv_iload_n hx hb dX6_hasWay_17 rfl (lv_at hl 3 rfl) ?_
      refine lv_iconst (v := (-1)) hx hb dX6_hasWay_18 (by decide) ?_
      refine lv_ixor hx hb dX6_hasWay_19 ?_
      refine lv_iand hx hb dX6_hasWay_20 ?_
      refine lv_topi (fun v4_4 e_v4_4 => ?_)
      have h := lt_use e_v4_4 h
      refine lv_istore (lv' := [(4, .int v4_4), (3, .int r_3), (0, .ref h0), (1, .int v1), (2, .int v2)]) hx hb dX6_hasWay_21 hl (by decide) rfl (fun ls hl => ?_)
      exact L23  1100 v4_4 h _ _ _ hP hD hS (lv_sub hl [2, 3, 4, 0] rfl)
    · have h := (if_pos c_).symm.trans h
      refine lv_iconst (v := 1) hx hb dX6_hasWay_4 (by decide) ?_
      have h : some 1 = some rr := h
      have z0 := Option.some.inj h
      obtain rfl := z0
      exact hret _ _ _ _ hP hS rfl dX6_hasWay_5

def m_X6_waysOf_27 (open_ : Nat → Int32) (v1 : Int32) (v2 : Int32) (self : (Nat → Int32) → Int32 → Int32 → Option (Int32)) (rec27 : Int32 → Int32 → Option (Int32)) : Int32 → Int32 → Option (Int32) := fun v3 v5 =>
  (if v5 = 0 then some v3 else bd1 (self open_ (v1 &&& (v1 - 1)) (v2 ||| (v5 &&& (-v5)))) (fun r_1 => lt' (v3 + r_1) (fun v3_2 => lt' (v5 &&& (v5 - 1)) (fun v5_3 => rec27 v3_2 v5_3))))
def m_X6_waysOf_B (self : (Nat → Int32) → Int32 → Int32 → Option (Int32)) (open_ : Nat → Int32) (v1 : Int32) (v2 : Int32) : Option (Int32) :=
  (if v1 = 0 then some 1 else bd1 (m_J6_numberOfTrailingZeros_0f7a4 v1) (fun r_4 => gd (inb r_4 10) (lt' ((open_ r_4.toNatClampNeg) &&& (v2 ^^^ (-1))) (fun v5_5 => it2 (m_X6_waysOf_27 open_ v1 v2 self) 1100 0 v5_5))))
def m_X6_waysOf (dd : Nat) (open_ : Nat → Int32) (v1 : Int32) (v2 : Int32) : Option (Int32) := it3 m_X6_waysOf_B dd open_ v1 v2
abbrev rmX6_waysOf (dd : Nat) : Room := { frames := 1 + dd, cells := 0, slots := 0, locals := 21 + dd * 25 }
set_option maxHeartbeats 4000000 in
set_option maxRecDepth 100000 in
theorem c_X6_waysOf (dd : Nat) : ∀ (l : Launch) (dC : Nat → ClassId) (dI : Nat → Nat → Nat) (cyC cyI cyJ : ClassId) (h0 h0_row h0_subjectOf h0_teacherOf h0_seatsOf h0_columnOf h0_barsOf h0_choices h0_tape h0_was h0_readChoices h0_open h0_wayOf h0_cure h0_left h0_satIn : Nat) (thrown_ : Int32) (told_ : Int32) (columns_ : Int32) (rooms_ : Int32) (many_ : Int32) (pupils_ : Int32) (kept_ : Int32) (taped_ : Int32) (at_ : Int32) (to_ : Int32) (digit_ : Int32) (number_ : Int32) (readMany_ : Int32) (bestThen_ : Int32) (open_ : Nat → Int32) (v1 : Int32) (v2 : Int32) (rr : Int32), m_X6_waysOf dd open_ v1 v2 = some rr → uMi l yX6_waysOf wsX6_waysOf (rmX6_waysOf dd) (dC, dI) [(cyC, .char), (cyI, .int), (cyJ, .long)] [.ref h0, .int v1, .int v2] [(h0, .inr (6, [.int thrown_, .int told_, .ref h0_row, .int columns_, .int rooms_, .int many_, .ref h0_subjectOf, .ref h0_teacherOf, .ref h0_seatsOf, .ref h0_columnOf, .ref h0_barsOf, .int pupils_, .ref h0_choices, .int kept_, .ref h0_tape, .int taped_, .int at_, .int to_, .int digit_, .int number_, .ref h0_was, .ref h0_readChoices, .int readMany_, .ref h0_open, .ref h0_wayOf, .int bestThen_, .ref h0_cure, .ref h0_left, .ref h0_satIn])), (h0_open, .inl (cyI, 10, .inl open_))] [(h0, .inr (6, [.int thrown_, .int told_, .ref h0_row, .int columns_, .int rooms_, .int many_, .ref h0_subjectOf, .ref h0_teacherOf, .ref h0_seatsOf, .ref h0_columnOf, .ref h0_barsOf, .int pupils_, .ref h0_choices, .int kept_, .ref h0_tape, .int taped_, .int at_, .int to_, .int digit_, .int number_, .ref h0_was, .ref h0_readChoices, .int readMany_, .ref h0_open, .ref h0_wayOf, .int bestThen_, .ref h0_cure, .ref h0_left, .ref h0_satIn])), (h0_open, .inl (cyI, 10, .inl open_))] rr := by
  induction dd with
  | zero => intro l dC dI cyC cyI cyJ h0 h0_row h0_subjectOf h0_teacherOf h0_seatsOf h0_columnOf h0_barsOf h0_choices h0_tape h0_was h0_readChoices h0_open h0_wayOf h0_cure h0_left h0_satIn thrown_ told_ columns_ rooms_ many_ pupils_ kept_ taped_ at_ to_ digit_ number_ readMany_ bestThen_ open_ v1 v2 rr h; exact absurd h (fun z => it3_z z)
  | succ dd ihd =>
    intro l dC dI cyC cyI cyJ h0 h0_row h0_subjectOf h0_teacherOf h0_seatsOf h0_columnOf h0_barsOf h0_choices h0_tape h0_was h0_readChoices h0_open h0_wayOf h0_cure h0_left h0_satIn thrown_ told_ columns_ rooms_ many_ pupils_ kept_ taped_ at_ to_ digit_ number_ readMany_ bestThen_ open_ v1 v2 rr h
    have h : m_X6_waysOf_B (it3 m_X6_waysOf_B dd) open_ v1 v2 = some rr := h
    refine uMi.of (cc := cX6_waysOf) (maxL := 6) (by decide) rfl (Nat.le_of_ble_eq_true rfl) (fun p e s m args below meth c A ls Q hx hb hml hown hts hA hP hK hD hE hS hl hret => ?_)
    have hown : s.vm.findClass RX6 = some m.cls := hown
    have hl : lv_has ls 6 [(0, .ref h0), (1, .int v1), (2, .int v2)] := hl
    have hiX6 : ∀ w ∈ u_ws RX6 TX6 29, w ∈ wsX6_waysOf := fun _ h9 => List.mem_cons_of_mem _ (List.mem_append_right _ h9)
    have L27 : ∀ (n27 : Nat), ∀ (v3 : Int32), ∀ (v5 : Int32), it2 (m_X6_waysOf_27 open_ v1 v2 (it3 m_X6_waysOf_B dd)) n27 v3 v5 = some rr → ∀ (H : Heap) (locs : List Loc) (ls : Array Slot), va_P (dC, dI) vwCl [(h0, .inr (6, [.int thrown_, .int told_, .ref h0_row, .int columns_, .int rooms_, .int many_, .ref h0_subjectOf, .ref h0_teacherOf, .ref h0_seatsOf, .ref h0_columnOf, .ref h0_barsOf, .int pupils_, .ref h0_choices, .int kept_, .ref h0_tape, .int taped_, .int at_, .int to_, .int digit_, .int number_, .ref h0_was, .ref h0_readChoices, .int readMany_, .ref h0_open, .ref h0_wayOf, .int bestThen_, .ref h0_cure, .ref h0_left, .ref h0_satIn])), (h0_open, .inl (cyI, 10, .inl open_))] H → va_D A [(h0, .inr (6, [.int thrown_, .int told_, .ref h0_row, .int columns_, .int rooms_, .int many_, .ref h0_subjectOf, .ref h0_teacherOf, .ref h0_seatsOf, .ref h0_columnOf, .ref h0_barsOf, .int pupils_, .ref h0_choices, .int kept_, .ref h0_tape, .int taped_, .int at_, .int to_, .int digit_, .int number_, .ref h0_was, .ref h0_readChoices, .int readMany_, .ref h0_open, .ref h0_wayOf, .int bestThen_, .ref h0_cure, .ref h0_left, .ref h0_satIn])), (h0_open, .inl (cyI, 10, .inl open_))] → va_S A s.heap H locs → lv_has ls 6 [(0, .ref h0), (1, .int v1), (2, .int v2), (3, .int v3), (5, .int v5)] → W p l e (rmX6_waysOf (dd + 1)) s m args below meth c H locs 0 0 Q (F0 m 27 ls []) := by
      intro n27
      induction n27 with
      | zero => intro v3 v5 h; exact absurd h (fun z => it2_z z)
      | succ n27 ih27 =>
        intro v3 v5 h H locs ls hP hD hS hl
        have h : m_X6_waysOf_27 open_ v1 v2 (it3 m_X6_waysOf_B dd) (it2 (m_X6_waysOf_27 open_ v1 v2 (it3 m_X6_waysOf_B dd)) n27) v3 v5 = some rr := h
        unfold m_X6_waysOf_27 at h
        refine lv_iload hx hb dX6_waysOf_27 (lv_at hl 4 rfl) ?_
        refine lv_if_eq (tgt := 64) hx hb dX6_waysOf_29 (by decide) (fun c_ => ?_) (fun c_ => ?_)
        · have h := (if_pos c_).symm.trans h
          refine lv_iload_n hx hb dX6_waysOf_64 rfl (lv_at hl 3 rfl) ?_
          have h : some v3 = some rr := h
          have z0 := Option.some.inj h
          obtain rfl := z0
          exact hret _ _ _ _ hP hS rfl dX6_waysOf_65
        · have h := (if_neg c_).symm.trans h
          refine lv_iload_n hx hb dX6_waysOf_32 rfl (lv_at hl 3 rfl) ?_
          refine lv_aload_n hx hb dX6_waysOf_33 rfl (lv_at hl 0 rfl) ?_
          refine lv_iload_n hx hb dX6_waysOf_34 rfl (lv_at hl 1 rfl) ?_
          refine lv_iload_n hx hb dX6_waysOf_35 rfl (lv_at hl 1 rfl) ?_
          refine lv_iconst (v := 1) hx hb dX6_waysOf_36 (by decide) ?_
          refine lv_isub hx hb dX6_waysOf_37 ?_
          refine lv_iand hx hb dX6_waysOf_38 ?_
          refine lv_iload_n hx hb dX6_waysOf_39 rfl (lv_at hl 2 rfl) ?_
          refine lv_iload hx hb dX6_waysOf_40 (lv_at hl 4 rfl) ?_
          refine lv_iload hx hb dX6_waysOf_42 (lv_at hl 4 rfl) ?_
          refine lv_ineg hx hb dX6_waysOf_44 ?_
          refine lv_iand hx hb dX6_waysOf_45 ?_
          refine lv_ior hx hb dX6_waysOf_46 ?_
          obtain ⟨r_1, hq, h⟩ := bd1_some h
          refine uV_i (b := h0) (As := [.int (v1 &&& (v1 - 1)), .int (v2 ||| (v5 &&& (-v5)))]) (rest := [.int v3]) ⟨hx, hb, hml, hown, hts⟩ (ihd l dC dI cyC cyI cyJ h0 h0_row h0_subjectOf h0_teacherOf h0_seatsOf h0_columnOf h0_barsOf h0_choices h0_tape h0_was h0_readChoices h0_open h0_wayOf h0_cure h0_left h0_satIn thrown_ told_ columns_ rooms_ many_ pupils_ kept_ taped_ at_ to_ digit_ number_ readMany_ bestThen_ open_ (v1 &&& (v1 - 1)) (v2 ||| (v5 &&& (-v5))) r_1 hq) (cwV 2 hts gX6_waysOf_X6_waysOf rfl rfl rfl (by decide +kernel) ⟨by show 1 + dd + 1 ≤ 1 + (dd + 1); omega, by show 8 + (6 + 11) + (21 + dd * 25) ≤ 21 + (dd + 1) * 25; omega⟩) hK hE hA hP hD hS [0, 1] rfl rfl rfl 6 0 rfl rfl rfl hl.1 rfl (Nat.le_of_ble_eq_true rfl) ⟨Nat.zero_le _, Nat.zero_le _⟩ dX6_waysOf_47 (fun H locs hP hD hS => ?_)
          have hP : va_P (dC, dI) vwCl [(h0, .inr (6, [.int thrown_, .int told_, .ref h0_row, .int columns_, .int rooms_, .int many_, .ref h0_subjectOf, .ref h0_teacherOf, .ref h0_seatsOf, .ref h0_columnOf, .ref h0_barsOf, .int pupils_, .ref h0_choices, .int kept_, .ref h0_tape, .int taped_, .int at_, .int to_, .int digit_, .int number_, .ref h0_was, .ref h0_readChoices, .int readMany_, .ref h0_open, .ref h0_wayOf, .int bestThen_, .ref h0_cure, .ref h0_left, .ref h0_satIn])), (h0_open, .inl (cyI, 10, .inl open_))] H := hP
          have hD : va_D A [(h0, .inr (6, [.int thrown_, .int told_, .ref h0_row, .int columns_, .int rooms_, .int many_, .ref h0_subjectOf, .ref h0_teacherOf, .ref h0_seatsOf, .ref h0_columnOf, .ref h0_barsOf, .int pupils_, .ref h0_choices, .int kept_, .ref h0_tape, .int taped_, .int at_, .int to_, .int digit_, .int number_, .ref h0_was, .ref h0_readChoices, .int readMany_, .ref h0_open, .ref h0_wayOf, .int bestThen_, .ref h0_cure, .ref h0_left, .ref h0_satIn])), (h0_open, .inl (cyI, 10, .inl open_))] := hD
          refine lv_iadd hx hb dX6_waysOf_50 ?_
          refine lv_topi (fun v3_2 e_v3_2 => ?_)
          have h := lt_use e_v3_2 h
          refine lv_istore_n (lv' := [(3, .int v3_2), (0, .ref h0), (1, .int v1), (2, .int v2), (5, .int v5)]) hx hb dX6_waysOf_51 rfl hl (by decide) rfl (fun ls hl => ?_)
          refine lv_iload hx hb dX6_waysOf_52 (lv_at hl 4 rfl) ?_
          refine lv_iload hx hb dX6_waysOf_54 (lv_at hl 4 rfl) ?_
          refine lv_iconst (v := 1) hx hb dX6_waysOf_56 (by decide) ?_
          refine lv_isub hx hb dX6_waysOf_57 ?_
          refine lv_iand hx hb dX6_waysOf_58 ?_
          refine lv_topi (fun v5_3 e_v5_3 => ?_)
          have h := lt_use e_v5_3 h
          refine lv_istore (lv' := [(5, .int v5_3), (3, .int v3_2), (0, .ref h0), (1, .int v1), (2, .int v2)]) hx hb dX6_waysOf_59 hl (by decide) rfl (fun ls hl => ?_)
          refine lv_goto (tgt := 27) hx hb dX6_waysOf_61 (by decide) ?_
          exact ih27 v3_2 v5_3 h _ _ _ hP hD hS (lv_sub hl [2, 3, 4, 1, 0] rfl)
    unfold m_X6_waysOf_B at h
    refine lv_iload_n hx hb dX6_waysOf_0 rfl (lv_at hl 1 rfl) ?_
    refine lv_if_ne (tgt := 6) hx hb dX6_waysOf_1 (by decide) (fun c_ => ?_) (fun c_ => ?_)
    · have h := (if_neg c_).symm.trans h
      refine lv_iconst (v := 0) hx hb dX6_waysOf_6 (by decide) ?_
      refine lv_istore_n (lv' := [(3, .int 0), (0, .ref h0), (1, .int v1), (2, .int v2)]) hx hb dX6_waysOf_7 rfl hl (by decide) rfl (fun ls hl => ?_)
      refine lv_iload_n hx hb dX6_waysOf_8 rfl (lv_at hl 2 rfl) ?_
      obtain ⟨r_4, hq, h⟩ := bd1_some h
      refine uS_i (As := [.int v1]) (rest := []) ⟨hx, hb, hml, hown, hts⟩ (c_J6_numberOfTrailingZeros_0f7a4 l dC dI cyC cyI cyJ v1 r_4 hq) (va_cwS 1 hts gX6_waysOf_J6_numberOfTrailingZeros_0f7a4 rfl rfl rfl (by decide +kernel) ⟨by show 0 + 1 ≤ 1 + (dd + 1); omega, by show 8 + (2 + 11) + 0 ≤ 21 + (dd + 1) * 25; omega⟩) hK hE hA hP hD hS [] rfl rfl rfl rfl hl.1 rfl (Nat.le_of_ble_eq_true rfl) ⟨Nat.zero_le _, Nat.zero_le _⟩ dX6_waysOf_9 (fun H locs hP hD hS => ?_)
      have hP : va_P (dC, dI) vwCl [(h0, .inr (6, [.int thrown_, .int told_, .ref h0_row, .int columns_, .int rooms_, .int many_, .ref h0_subjectOf, .ref h0_teacherOf, .ref h0_seatsOf, .ref h0_columnOf, .ref h0_barsOf, .int pupils_, .ref h0_choices, .int kept_, .ref h0_tape, .int taped_, .int at_, .int to_, .int digit_, .int number_, .ref h0_was, .ref h0_readChoices, .int readMany_, .ref h0_open, .ref h0_wayOf, .int bestThen_, .ref h0_cure, .ref h0_left, .ref h0_satIn])), (h0_open, .inl (cyI, 10, .inl open_))] H := hP
      have hD : va_D A [(h0, .inr (6, [.int thrown_, .int told_, .ref h0_row, .int columns_, .int rooms_, .int many_, .ref h0_subjectOf, .ref h0_teacherOf, .ref h0_seatsOf, .ref h0_columnOf, .ref h0_barsOf, .int pupils_, .ref h0_choices, .int kept_, .ref h0_tape, .int taped_, .int at_, .int to_, .int digit_, .int number_, .ref h0_was, .ref h0_readChoices, .int readMany_, .ref h0_open, .ref h0_wayOf, .int bestThen_, .ref h0_cure, .ref h0_left, .ref h0_satIn])), (h0_open, .inl (cyI, 10, .inl open_))] := hD
      refine lv_istore (lv' := [(4, .int r_4), (3, .int 0), (0, .ref h0), (1, .int v1), (2, .int v2)]) hx hb dX6_waysOf_12 hl (by decide) rfl (fun ls hl => ?_)
      refine lv_aload_n hx hb dX6_waysOf_14 rfl (lv_at hl 2 rfl) ?_
      refine va_get (D := (dC, dI)) (ci := 6) (v := .ref h0_open) (C := RX6) (T := TX6) (N := 29) hx hb hts hiX6 hown hK hP 0 rfl rfl 23 (by decide) (hts (.fieldLink RX6 47 "OptionLatticeModel" "open" "[I") (by decide +kernel)) (fun _ h9 => h9) rfl dX6_waysOf_15 ?_
      refine lv_iload hx hb dX6_waysOf_18 (lv_at hl 0 rfl) ?_
      obtain ⟨g_, h⟩ := gd_some h
      refine va_iald hx hb hK hP 1 1 rfl rfl (inb_in g_) dX6_waysOf_20 ?_
      refine lv_iload_n hx hb dX6_waysOf_21 rfl (lv_at hl 4 rfl) ?_
      refine lv_iconst (v := (-1)) hx hb dX6_waysOf_22 (by decide) ?_
      refine lv_ixor hx hb dX6_waysOf_23 ?_
      refine lv_iand hx hb dX6_waysOf_24 ?_
      refine lv_topi (fun v5_5 e_v5_5 => ?_)
      have h := lt_use e_v5_5 h
      refine lv_istore (lv' := [(5, .int v5_5), (4, .int r_4), (3, .int 0), (0, .ref h0), (1, .int v1), (2, .int v2)]) hx hb dX6_waysOf_25 hl (by decide) rfl (fun ls hl => ?_)
      exact L27  1100 0 v5_5 h _ _ _ hP hD hS (lv_sub hl [3, 4, 5, 2, 0] rfl)
    · have h := (if_pos c_).symm.trans h
      refine lv_iconst (v := 1) hx hb dX6_waysOf_4 (by decide) ?_
      have h : some 1 = some rr := h
      have z0 := Option.some.inj h
      obtain rfl := z0
      exact hret _ _ _ _ hP hS rfl dX6_waysOf_5

def m_X6_fitting_8 (pupils_ : Int32) (choices_ : Nat → Int32) (open_ : Nat → Int32) (rec8 : Int32 → Int32 → Option (Int32 × (Nat → Int32))) : Int32 → Int32 → Option (Int32 × (Nat → Int32)) := fun v1 v2 =>
  (if pupils_ ≤ v2 then some (v1, open_) else gd (inb v2 24) (bd1 (m_X6_hasWay 8 open_ (choices_ v2.toNatClampNeg) 0) (fun r_1 => (if r_1 = 0 then lt' (v1 ||| 0) (fun v1_2 => lt' (v2 + 1) (fun v2_3 => rec8 v1_2 v2_3)) else lt' (v1 ||| ((1 : Int32) <<< (v2 &&& 31))) (fun v1_4 => lt' (v2 + 1) (fun v2_5 => rec8 v1_4 v2_5))))))
def m_X6_fitting (many_ : Int32) (pupils_ : Int32) (subjectOf_ : Nat → Int32) (columnOf_ : Nat → Int32) (choices_ : Nat → Int32) (open_ : Nat → Int32) : Option (Int32 × (Nat → Int32)) :=
  bd1 (m_X6_laysOpen many_ subjectOf_ columnOf_ open_) (fun open_6 => it2 (m_X6_fitting_8 pupils_ choices_ open_6) 1100 0 0)
abbrev rmX6_fitting : Room := { frames := 10, cells := 0, slots := 0, locals := 237 }
set_option maxHeartbeats 4000000 in
set_option maxRecDepth 100000 in
theorem c_X6_fitting (l : Launch) (dC : Nat → ClassId) (dI : Nat → Nat → Nat) (cyC cyI cyJ : ClassId) (h0 h0_row h0_subjectOf h0_teacherOf h0_seatsOf h0_columnOf h0_barsOf h0_choices h0_tape h0_was h0_readChoices h0_open h0_wayOf h0_cure h0_left h0_satIn : Nat) (thrown_ : Int32) (told_ : Int32) (columns_ : Int32) (rooms_ : Int32) (many_ : Int32) (pupils_ : Int32) (kept_ : Int32) (taped_ : Int32) (at_ : Int32) (to_ : Int32) (digit_ : Int32) (number_ : Int32) (readMany_ : Int32) (bestThen_ : Int32) (subjectOf_ : Nat → Int32) (columnOf_ : Nat → Int32) (choices_ : Nat → Int32) (open_ : Nat → Int32) (rr : Int32) (o0 : Nat → Int32) (h : m_X6_fitting many_ pupils_ subjectOf_ columnOf_ choices_ open_ = some (rr, o0)) : uMi l yX6_fitting wsX6_fitting rmX6_fitting (dC, dI) [(cyC, .char), (cyI, .int), (cyJ, .long)] [.ref h0] [(h0, .inr (6, [.int thrown_, .int told_, .ref h0_row, .int columns_, .int rooms_, .int many_, .ref h0_subjectOf, .ref h0_teacherOf, .ref h0_seatsOf, .ref h0_columnOf, .ref h0_barsOf, .int pupils_, .ref h0_choices, .int kept_, .ref h0_tape, .int taped_, .int at_, .int to_, .int digit_, .int number_, .ref h0_was, .ref h0_readChoices, .int readMany_, .ref h0_open, .ref h0_wayOf, .int bestThen_, .ref h0_cure, .ref h0_left, .ref h0_satIn])), (h0_subjectOf, .inl (cyI, 17, .inl subjectOf_)), (h0_columnOf, .inl (cyI, 17, .inl columnOf_)), (h0_choices, .inl (cyI, 24, .inl choices_)), (h0_open, .inl (cyI, 10, .inl open_))] [(h0, .inr (6, [.int thrown_, .int told_, .ref h0_row, .int columns_, .int rooms_, .int many_, .ref h0_subjectOf, .ref h0_teacherOf, .ref h0_seatsOf, .ref h0_columnOf, .ref h0_barsOf, .int pupils_, .ref h0_choices, .int kept_, .ref h0_tape, .int taped_, .int at_, .int to_, .int digit_, .int number_, .ref h0_was, .ref h0_readChoices, .int readMany_, .ref h0_open, .ref h0_wayOf, .int bestThen_, .ref h0_cure, .ref h0_left, .ref h0_satIn])), (h0_subjectOf, .inl (cyI, 17, .inl subjectOf_)), (h0_columnOf, .inl (cyI, 17, .inl columnOf_)), (h0_choices, .inl (cyI, 24, .inl choices_)), (h0_open, .inl (cyI, 10, .inl o0))] rr := by
  refine uMi.of (cc := cX6_fitting) (maxL := 3) (by decide) rfl (Nat.le_of_ble_eq_true rfl) (fun p e s m args below meth c A ls Q hx hb hml hown hts hA hP hK hD hE hS hl hret => ?_)
  have hown : s.vm.findClass RX6 = some m.cls := hown
  have hl : lv_has ls 3 [(0, .ref h0)] := hl
  have hiX6 : ∀ w ∈ u_ws RX6 TX6 29, w ∈ wsX6_fitting := fun _ h9 => List.mem_cons_of_mem _ (List.mem_append_right _ h9)
  have L8 : ∀ (open_ : Nat → Int32), ∀ (n8 : Nat), ∀ (v1 : Int32), ∀ (v2 : Int32), it2 (m_X6_fitting_8 pupils_ choices_ open_) n8 v1 v2 = some (rr, o0) → ∀ (H : Heap) (locs : List Loc) (ls : Array Slot), va_P (dC, dI) vwCl [(h0, .inr (6, [.int thrown_, .int told_, .ref h0_row, .int columns_, .int rooms_, .int many_, .ref h0_subjectOf, .ref h0_teacherOf, .ref h0_seatsOf, .ref h0_columnOf, .ref h0_barsOf, .int pupils_, .ref h0_choices, .int kept_, .ref h0_tape, .int taped_, .int at_, .int to_, .int digit_, .int number_, .ref h0_was, .ref h0_readChoices, .int readMany_, .ref h0_open, .ref h0_wayOf, .int bestThen_, .ref h0_cure, .ref h0_left, .ref h0_satIn])), (h0_subjectOf, .inl (cyI, 17, .inl subjectOf_)), (h0_columnOf, .inl (cyI, 17, .inl columnOf_)), (h0_choices, .inl (cyI, 24, .inl choices_)), (h0_open, .inl (cyI, 10, .inl open_))] H → va_D A [(h0, .inr (6, [.int thrown_, .int told_, .ref h0_row, .int columns_, .int rooms_, .int many_, .ref h0_subjectOf, .ref h0_teacherOf, .ref h0_seatsOf, .ref h0_columnOf, .ref h0_barsOf, .int pupils_, .ref h0_choices, .int kept_, .ref h0_tape, .int taped_, .int at_, .int to_, .int digit_, .int number_, .ref h0_was, .ref h0_readChoices, .int readMany_, .ref h0_open, .ref h0_wayOf, .int bestThen_, .ref h0_cure, .ref h0_left, .ref h0_satIn])), (h0_subjectOf, .inl (cyI, 17, .inl subjectOf_)), (h0_columnOf, .inl (cyI, 17, .inl columnOf_)), (h0_choices, .inl (cyI, 24, .inl choices_)), (h0_open, .inl (cyI, 10, .inl open_))] → va_S A s.heap H locs → lv_has ls 3 [(0, .ref h0), (1, .int v1), (2, .int v2)] → W p l e rmX6_fitting s m args below meth c H locs 0 0 Q (F0 m 8 ls []) := by
    intro open_ n8
    induction n8 with
    | zero => intro v1 v2 h; exact absurd h (fun z => it2_z z)
    | succ n8 ih8 =>
      intro v1 v2 h H locs ls hP hD hS hl
      have h : m_X6_fitting_8 pupils_ choices_ open_ (it2 (m_X6_fitting_8 pupils_ choices_ open_) n8) v1 v2 = some (rr, o0) := h
      unfold m_X6_fitting_8 at h
      refine lv_iload_n hx hb dX6_fitting_8 rfl (lv_at hl 2 rfl) ?_
      refine lv_aload_n hx hb dX6_fitting_9 rfl (lv_at hl 0 rfl) ?_
      refine va_get (D := (dC, dI)) (ci := 6) (v := .int pupils_) (C := RX6) (T := TX6) (N := 29) hx hb hts hiX6 hown hK hP 0 rfl rfl 11 (by decide) (hts (.fieldLink RX6 90 "OptionLatticeModel" "pupils" "I") (by decide +kernel)) (fun _ h9 => h9) rfl dX6_fitting_10 ?_
      refine lv_icmp_ge (tgt := 46) hx hb dX6_fitting_13 (by decide) (fun c_ => ?_) (fun c_ => ?_)
      · have h := (if_pos c_).symm.trans h
        refine lv_iload_n hx hb dX6_fitting_46 rfl (lv_at hl 1 rfl) ?_
        have h : some (v1, open_) = some (rr, o0) := h
        have z0 := Option.some.inj h
        obtain ⟨rfl, z1⟩ := Prod.mk.inj z0
        obtain rfl := z1
        exact hret _ _ _ _ hP hS rfl dX6_fitting_47
      · have h := (if_neg c_).symm.trans h
        refine lv_iload_n hx hb dX6_fitting_16 rfl (lv_at hl 1 rfl) ?_
        refine lv_aload_n hx hb dX6_fitting_17 rfl (lv_at hl 0 rfl) ?_
        refine lv_aload_n hx hb dX6_fitting_18 rfl (lv_at hl 0 rfl) ?_
        refine va_get (D := (dC, dI)) (ci := 6) (v := .ref h0_choices) (C := RX6) (T := TX6) (N := 29) hx hb hts hiX6 hown hK hP 0 rfl rfl 12 (by decide) (hts (.fieldLink RX6 35 "OptionLatticeModel" "choices" "[I") (by decide +kernel)) (fun _ h9 => h9) rfl dX6_fitting_19 ?_
        refine lv_iload_n hx hb dX6_fitting_22 rfl (lv_at hl 2 rfl) ?_
        obtain ⟨g_, h⟩ := gd_some h
        refine va_iald hx hb hK hP 3 1 rfl rfl (inb_in g_) dX6_fitting_23 ?_
        refine lv_iconst (v := 0) hx hb dX6_fitting_24 (by decide) ?_
        obtain ⟨r_1, hq, h⟩ := bd1_some h
        refine uV_i (b := h0) (As := [.int (choices_ v2.toNatClampNeg), .int 0]) (rest := [.int v1]) ⟨hx, hb, hml, hown, hts⟩ (c_X6_hasWay 8 l dC dI cyC cyI cyJ h0 h0_row h0_subjectOf h0_teacherOf h0_seatsOf h0_columnOf h0_barsOf h0_choices h0_tape h0_was h0_readChoices h0_open h0_wayOf h0_cure h0_left h0_satIn thrown_ told_ columns_ rooms_ many_ pupils_ kept_ taped_ at_ to_ digit_ number_ readMany_ bestThen_ open_ (choices_ v2.toNatClampNeg) 0 r_1 hq) (cwV 2 hts gX6_fitting_X6_hasWay rfl rfl rfl (by decide +kernel) ⟨Nat.le_of_ble_eq_true rfl, Nat.le_of_ble_eq_true rfl⟩) hK hE hA hP hD hS [0, 4] rfl rfl rfl 6 0 rfl rfl rfl hl.1 rfl (Nat.le_of_ble_eq_true rfl) ⟨Nat.zero_le _, Nat.zero_le _⟩ dX6_fitting_25 (fun H locs hP hD hS => ?_)
        have hP : va_P (dC, dI) vwCl [(h0, .inr (6, [.int thrown_, .int told_, .ref h0_row, .int columns_, .int rooms_, .int many_, .ref h0_subjectOf, .ref h0_teacherOf, .ref h0_seatsOf, .ref h0_columnOf, .ref h0_barsOf, .int pupils_, .ref h0_choices, .int kept_, .ref h0_tape, .int taped_, .int at_, .int to_, .int digit_, .int number_, .ref h0_was, .ref h0_readChoices, .int readMany_, .ref h0_open, .ref h0_wayOf, .int bestThen_, .ref h0_cure, .ref h0_left, .ref h0_satIn])), (h0_subjectOf, .inl (cyI, 17, .inl subjectOf_)), (h0_columnOf, .inl (cyI, 17, .inl columnOf_)), (h0_choices, .inl (cyI, 24, .inl choices_)), (h0_open, .inl (cyI, 10, .inl open_))] H := hP
        have hD : va_D A [(h0, .inr (6, [.int thrown_, .int told_, .ref h0_row, .int columns_, .int rooms_, .int many_, .ref h0_subjectOf, .ref h0_teacherOf, .ref h0_seatsOf, .ref h0_columnOf, .ref h0_barsOf, .int pupils_, .ref h0_choices, .int kept_, .ref h0_tape, .int taped_, .int at_, .int to_, .int digit_, .int number_, .ref h0_was, .ref h0_readChoices, .int readMany_, .ref h0_open, .ref h0_wayOf, .int bestThen_, .ref h0_cure, .ref h0_left, .ref h0_satIn])), (h0_subjectOf, .inl (cyI, 17, .inl subjectOf_)), (h0_columnOf, .inl (cyI, 17, .inl columnOf_)), (h0_choices, .inl (cyI, 24, .inl choices_)), (h0_open, .inl (cyI, 10, .inl open_))] := hD
        refine lv_if_eq (tgt := 37) hx hb dX6_fitting_28 (by decide) (fun c_ => ?_) (fun c_ => ?_)
        · have h := (if_pos c_).symm.trans h
          refine lv_iconst (v := 0) hx hb dX6_fitting_37 (by decide) ?_
          refine lv_ior hx hb dX6_fitting_38 ?_
          refine lv_topi (fun v1_2 e_v1_2 => ?_)
          have h := lt_use e_v1_2 h
          refine lv_istore_n (lv' := [(1, .int v1_2), (0, .ref h0), (2, .int v2)]) hx hb dX6_fitting_39 rfl hl (by decide) rfl (fun ls hl => ?_)
          obtain ⟨v2_3, e_v2_3⟩ : ∃ z : Int32, z = (v2 + 1) := ⟨_, rfl⟩
          have h := lt_use e_v2_3 h
          refine lv_iinc (v := v2_3) (lv' := [(2, .int v2_3), (1, .int v1_2), (0, .ref h0)]) hx hb dX6_fitting_40 hl (k := 2) rfl (by rw [e_v2_3]; rfl) (by decide) rfl (fun ls hl => ?_)
          refine lv_goto (tgt := 8) hx hb dX6_fitting_43 (by decide) ?_
          exact ih8 v1_2 v2_3 h _ _ _ hP hD hS (lv_sub hl [2, 1, 0] rfl)
        · have h := (if_neg c_).symm.trans h
          refine lv_iconst (v := 1) hx hb dX6_fitting_31 (by decide) ?_
          refine lv_iload_n hx hb dX6_fitting_32 rfl (lv_at hl 2 rfl) ?_
          refine lv_ishl hx hb dX6_fitting_33 ?_
          refine lv_goto (tgt := 38) hx hb dX6_fitting_34 (by decide) ?_
          refine lv_ior hx hb dX6_fitting_38 ?_
          refine lv_topi (fun v1_4 e_v1_4 => ?_)
          have h := lt_use e_v1_4 h
          refine lv_istore_n (lv' := [(1, .int v1_4), (0, .ref h0), (2, .int v2)]) hx hb dX6_fitting_39 rfl hl (by decide) rfl (fun ls hl => ?_)
          obtain ⟨v2_5, e_v2_5⟩ : ∃ z : Int32, z = (v2 + 1) := ⟨_, rfl⟩
          have h := lt_use e_v2_5 h
          refine lv_iinc (v := v2_5) (lv' := [(2, .int v2_5), (1, .int v1_4), (0, .ref h0)]) hx hb dX6_fitting_40 hl (k := 2) rfl (by rw [e_v2_5]; rfl) (by decide) rfl (fun ls hl => ?_)
          refine lv_goto (tgt := 8) hx hb dX6_fitting_43 (by decide) ?_
          exact ih8 v1_4 v2_5 h _ _ _ hP hD hS (lv_sub hl [2, 1, 0] rfl)
  unfold m_X6_fitting at h
  refine lv_aload_n hx hb dX6_fitting_0 rfl (lv_at hl 0 rfl) ?_
  obtain ⟨open_6, hq, h⟩ := bd1_some h
  refine uV_v (b := h0) (As := []) (rest := []) ⟨hx, hb, hml, hown, hts⟩ (c_X6_laysOpen l dC dI cyC cyI cyJ h0 h0_row h0_subjectOf h0_teacherOf h0_seatsOf h0_columnOf h0_barsOf h0_choices h0_tape h0_was h0_readChoices h0_open h0_wayOf h0_cure h0_left h0_satIn thrown_ told_ columns_ rooms_ many_ pupils_ kept_ taped_ at_ to_ digit_ number_ readMany_ bestThen_ subjectOf_ columnOf_ open_ open_6 hq) (cwV 0 hts gX6_fitting_X6_laysOpen rfl rfl rfl (by decide +kernel) ⟨Nat.le_of_ble_eq_true rfl, Nat.le_of_ble_eq_true rfl⟩) hK hE hA hP hD hS [0, 1, 2, 4] rfl rfl rfl 6 0 rfl rfl rfl hl.1 rfl (Nat.le_of_ble_eq_true rfl) ⟨Nat.zero_le _, Nat.zero_le _⟩ dX6_fitting_1 (fun H locs hP hD hS => ?_)
  have hP : va_P (dC, dI) vwCl [(h0, .inr (6, [.int thrown_, .int told_, .ref h0_row, .int columns_, .int rooms_, .int many_, .ref h0_subjectOf, .ref h0_teacherOf, .ref h0_seatsOf, .ref h0_columnOf, .ref h0_barsOf, .int pupils_, .ref h0_choices, .int kept_, .ref h0_tape, .int taped_, .int at_, .int to_, .int digit_, .int number_, .ref h0_was, .ref h0_readChoices, .int readMany_, .ref h0_open, .ref h0_wayOf, .int bestThen_, .ref h0_cure, .ref h0_left, .ref h0_satIn])), (h0_subjectOf, .inl (cyI, 17, .inl subjectOf_)), (h0_columnOf, .inl (cyI, 17, .inl columnOf_)), (h0_choices, .inl (cyI, 24, .inl choices_)), (h0_open, .inl (cyI, 10, .inl open_6))] H := hP
  have hD : va_D A [(h0, .inr (6, [.int thrown_, .int told_, .ref h0_row, .int columns_, .int rooms_, .int many_, .ref h0_subjectOf, .ref h0_teacherOf, .ref h0_seatsOf, .ref h0_columnOf, .ref h0_barsOf, .int pupils_, .ref h0_choices, .int kept_, .ref h0_tape, .int taped_, .int at_, .int to_, .int digit_, .int number_, .ref h0_was, .ref h0_readChoices, .int readMany_, .ref h0_open, .ref h0_wayOf, .int bestThen_, .ref h0_cure, .ref h0_left, .ref h0_satIn])), (h0_subjectOf, .inl (cyI, 17, .inl subjectOf_)), (h0_columnOf, .inl (cyI, 17, .inl columnOf_)), (h0_choices, .inl (cyI, 24, .inl choices_)), (h0_open, .inl (cyI, 10, .inl open_6))] := hD
  refine lv_iconst (v := 0) hx hb dX6_fitting_4 (by decide) ?_
  refine lv_istore_n (lv' := [(1, .int 0), (0, .ref h0)]) hx hb dX6_fitting_5 rfl hl (by decide) rfl (fun ls hl => ?_)
  refine lv_iconst (v := 0) hx hb dX6_fitting_6 (by decide) ?_
  refine lv_istore_n (lv' := [(2, .int 0), (1, .int 0), (0, .ref h0)]) hx hb dX6_fitting_7 rfl hl (by decide) rfl (fun ls hl => ?_)
  exact L8 open_6 1100 0 0 h _ _ _ hP hD hS (lv_sub hl [2, 1, 0] rfl)

def m_X6_doesFit (many_ : Int32) (subjectOf_ : Nat → Int32) (columnOf_ : Nat → Int32) (choices_ : Nat → Int32) (open_ : Nat → Int32) (v1 : Int32) : Option (Int32 × (Nat → Int32)) :=
  bd1 (m_X6_laysOpen many_ subjectOf_ columnOf_ open_) (fun open_1 => gd (inb v1 24) (bd1 (m_X6_hasWay 8 open_1 (choices_ v1.toNatClampNeg) 0) (fun r_2 => gd (isb r_2) (some (r_2, open_1)))))
abbrev rmX6_doesFit : Room := { frames := 10, cells := 0, slots := 0, locals := 237 }
set_option maxHeartbeats 4000000 in
set_option maxRecDepth 100000 in
theorem c_X6_doesFit (l : Launch) (dC : Nat → ClassId) (dI : Nat → Nat → Nat) (cyC cyI cyJ : ClassId) (h0 h0_row h0_subjectOf h0_teacherOf h0_seatsOf h0_columnOf h0_barsOf h0_choices h0_tape h0_was h0_readChoices h0_open h0_wayOf h0_cure h0_left h0_satIn : Nat) (thrown_ : Int32) (told_ : Int32) (columns_ : Int32) (rooms_ : Int32) (many_ : Int32) (pupils_ : Int32) (kept_ : Int32) (taped_ : Int32) (at_ : Int32) (to_ : Int32) (digit_ : Int32) (number_ : Int32) (readMany_ : Int32) (bestThen_ : Int32) (subjectOf_ : Nat → Int32) (columnOf_ : Nat → Int32) (choices_ : Nat → Int32) (open_ : Nat → Int32) (v1 : Int32) (rr : Int32) (o0 : Nat → Int32) (h : m_X6_doesFit many_ subjectOf_ columnOf_ choices_ open_ v1 = some (rr, o0)) : uMi l yX6_doesFit wsX6_doesFit rmX6_doesFit (dC, dI) [(cyC, .char), (cyI, .int), (cyJ, .long)] [.ref h0, .int v1] [(h0, .inr (6, [.int thrown_, .int told_, .ref h0_row, .int columns_, .int rooms_, .int many_, .ref h0_subjectOf, .ref h0_teacherOf, .ref h0_seatsOf, .ref h0_columnOf, .ref h0_barsOf, .int pupils_, .ref h0_choices, .int kept_, .ref h0_tape, .int taped_, .int at_, .int to_, .int digit_, .int number_, .ref h0_was, .ref h0_readChoices, .int readMany_, .ref h0_open, .ref h0_wayOf, .int bestThen_, .ref h0_cure, .ref h0_left, .ref h0_satIn])), (h0_subjectOf, .inl (cyI, 17, .inl subjectOf_)), (h0_columnOf, .inl (cyI, 17, .inl columnOf_)), (h0_choices, .inl (cyI, 24, .inl choices_)), (h0_open, .inl (cyI, 10, .inl open_))] [(h0, .inr (6, [.int thrown_, .int told_, .ref h0_row, .int columns_, .int rooms_, .int many_, .ref h0_subjectOf, .ref h0_teacherOf, .ref h0_seatsOf, .ref h0_columnOf, .ref h0_barsOf, .int pupils_, .ref h0_choices, .int kept_, .ref h0_tape, .int taped_, .int at_, .int to_, .int digit_, .int number_, .ref h0_was, .ref h0_readChoices, .int readMany_, .ref h0_open, .ref h0_wayOf, .int bestThen_, .ref h0_cure, .ref h0_left, .ref h0_satIn])), (h0_subjectOf, .inl (cyI, 17, .inl subjectOf_)), (h0_columnOf, .inl (cyI, 17, .inl columnOf_)), (h0_choices, .inl (cyI, 24, .inl choices_)), (h0_open, .inl (cyI, 10, .inl o0))] rr := by
  refine uMi.of (cc := cX6_doesFit) (maxL := 2) (by decide) rfl (Nat.le_of_ble_eq_true rfl) (fun p e s m args below meth c A ls Q hx hb hml hown hts hA hP hK hD hE hS hl hret => ?_)
  have hown : s.vm.findClass RX6 = some m.cls := hown
  have hl : lv_has ls 2 [(0, .ref h0), (1, .int v1)] := hl
  have hiX6 : ∀ w ∈ u_ws RX6 TX6 29, w ∈ wsX6_doesFit := fun _ h9 => List.mem_cons_of_mem _ (List.mem_append_right _ h9)
  unfold m_X6_doesFit at h
  refine lv_aload_n hx hb dX6_doesFit_0 rfl (lv_at hl 0 rfl) ?_
  obtain ⟨open_1, hq, h⟩ := bd1_some h
  refine uV_v (b := h0) (As := []) (rest := []) ⟨hx, hb, hml, hown, hts⟩ (c_X6_laysOpen l dC dI cyC cyI cyJ h0 h0_row h0_subjectOf h0_teacherOf h0_seatsOf h0_columnOf h0_barsOf h0_choices h0_tape h0_was h0_readChoices h0_open h0_wayOf h0_cure h0_left h0_satIn thrown_ told_ columns_ rooms_ many_ pupils_ kept_ taped_ at_ to_ digit_ number_ readMany_ bestThen_ subjectOf_ columnOf_ open_ open_1 hq) (cwV 0 hts gX6_doesFit_X6_laysOpen rfl rfl rfl (by decide +kernel) ⟨Nat.le_of_ble_eq_true rfl, Nat.le_of_ble_eq_true rfl⟩) hK hE hA hP hD hS [0, 1, 2, 4] rfl rfl rfl 6 0 rfl rfl rfl hl.1 rfl (Nat.le_of_ble_eq_true rfl) ⟨Nat.zero_le _, Nat.zero_le _⟩ dX6_doesFit_1 (fun H locs hP hD hS => ?_)
  have hP : va_P (dC, dI) vwCl [(h0, .inr (6, [.int thrown_, .int told_, .ref h0_row, .int columns_, .int rooms_, .int many_, .ref h0_subjectOf, .ref h0_teacherOf, .ref h0_seatsOf, .ref h0_columnOf, .ref h0_barsOf, .int pupils_, .ref h0_choices, .int kept_, .ref h0_tape, .int taped_, .int at_, .int to_, .int digit_, .int number_, .ref h0_was, .ref h0_readChoices, .int readMany_, .ref h0_open, .ref h0_wayOf, .int bestThen_, .ref h0_cure, .ref h0_left, .ref h0_satIn])), (h0_subjectOf, .inl (cyI, 17, .inl subjectOf_)), (h0_columnOf, .inl (cyI, 17, .inl columnOf_)), (h0_choices, .inl (cyI, 24, .inl choices_)), (h0_open, .inl (cyI, 10, .inl open_1))] H := hP
  have hD : va_D A [(h0, .inr (6, [.int thrown_, .int told_, .ref h0_row, .int columns_, .int rooms_, .int many_, .ref h0_subjectOf, .ref h0_teacherOf, .ref h0_seatsOf, .ref h0_columnOf, .ref h0_barsOf, .int pupils_, .ref h0_choices, .int kept_, .ref h0_tape, .int taped_, .int at_, .int to_, .int digit_, .int number_, .ref h0_was, .ref h0_readChoices, .int readMany_, .ref h0_open, .ref h0_wayOf, .int bestThen_, .ref h0_cure, .ref h0_left, .ref h0_satIn])), (h0_subjectOf, .inl (cyI, 17, .inl subjectOf_)), (h0_columnOf, .inl (cyI, 17, .inl columnOf_)), (h0_choices, .inl (cyI, 24, .inl choices_)), (h0_open, .inl (cyI, 10, .inl open_1))] := hD
  refine lv_aload_n hx hb dX6_doesFit_4 rfl (lv_at hl 0 rfl) ?_
  refine lv_aload_n hx hb dX6_doesFit_5 rfl (lv_at hl 0 rfl) ?_
  refine va_get (D := (dC, dI)) (ci := 6) (v := .ref h0_choices) (C := RX6) (T := TX6) (N := 29) hx hb hts hiX6 hown hK hP 0 rfl rfl 12 (by decide) (hts (.fieldLink RX6 35 "OptionLatticeModel" "choices" "[I") (by decide +kernel)) (fun _ h9 => h9) rfl dX6_doesFit_6 ?_
  refine lv_iload_n hx hb dX6_doesFit_9 rfl (lv_at hl 1 rfl) ?_
  obtain ⟨g_, h⟩ := gd_some h
  refine va_iald hx hb hK hP 3 1 rfl rfl (inb_in g_) dX6_doesFit_10 ?_
  refine lv_iconst (v := 0) hx hb dX6_doesFit_11 (by decide) ?_
  obtain ⟨r_2, hq, h⟩ := bd1_some h
  refine uV_i (b := h0) (As := [.int (choices_ v1.toNatClampNeg), .int 0]) (rest := []) ⟨hx, hb, hml, hown, hts⟩ (c_X6_hasWay 8 l dC dI cyC cyI cyJ h0 h0_row h0_subjectOf h0_teacherOf h0_seatsOf h0_columnOf h0_barsOf h0_choices h0_tape h0_was h0_readChoices h0_open h0_wayOf h0_cure h0_left h0_satIn thrown_ told_ columns_ rooms_ many_ pupils_ kept_ taped_ at_ to_ digit_ number_ readMany_ bestThen_ open_1 (choices_ v1.toNatClampNeg) 0 r_2 hq) (cwV 2 hts gX6_doesFit_X6_hasWay rfl rfl rfl (by decide +kernel) ⟨Nat.le_of_ble_eq_true rfl, Nat.le_of_ble_eq_true rfl⟩) hK hE hA hP hD hS [0, 4] rfl rfl rfl 6 0 rfl rfl rfl hl.1 rfl (Nat.le_of_ble_eq_true rfl) ⟨Nat.zero_le _, Nat.zero_le _⟩ dX6_doesFit_12 (fun H locs hP hD hS => ?_)
  have hP : va_P (dC, dI) vwCl [(h0, .inr (6, [.int thrown_, .int told_, .ref h0_row, .int columns_, .int rooms_, .int many_, .ref h0_subjectOf, .ref h0_teacherOf, .ref h0_seatsOf, .ref h0_columnOf, .ref h0_barsOf, .int pupils_, .ref h0_choices, .int kept_, .ref h0_tape, .int taped_, .int at_, .int to_, .int digit_, .int number_, .ref h0_was, .ref h0_readChoices, .int readMany_, .ref h0_open, .ref h0_wayOf, .int bestThen_, .ref h0_cure, .ref h0_left, .ref h0_satIn])), (h0_subjectOf, .inl (cyI, 17, .inl subjectOf_)), (h0_columnOf, .inl (cyI, 17, .inl columnOf_)), (h0_choices, .inl (cyI, 24, .inl choices_)), (h0_open, .inl (cyI, 10, .inl open_1))] H := hP
  have hD : va_D A [(h0, .inr (6, [.int thrown_, .int told_, .ref h0_row, .int columns_, .int rooms_, .int many_, .ref h0_subjectOf, .ref h0_teacherOf, .ref h0_seatsOf, .ref h0_columnOf, .ref h0_barsOf, .int pupils_, .ref h0_choices, .int kept_, .ref h0_tape, .int taped_, .int at_, .int to_, .int digit_, .int number_, .ref h0_was, .ref h0_readChoices, .int readMany_, .ref h0_open, .ref h0_wayOf, .int bestThen_, .ref h0_cure, .ref h0_left, .ref h0_satIn])), (h0_subjectOf, .inl (cyI, 17, .inl subjectOf_)), (h0_columnOf, .inl (cyI, 17, .inl columnOf_)), (h0_choices, .inl (cyI, 24, .inl choices_)), (h0_open, .inl (cyI, 10, .inl open_1))] := hD
  obtain ⟨g_, h⟩ := gd_some h
  have h : some (r_2, open_1) = some (rr, o0) := h
  have z0 := Option.some.inj h
  obtain ⟨rfl, z1⟩ := Prod.mk.inj z0
  obtain rfl := z1
  exact hret _ _ _ _ hP hS (isb_of g_) dX6_doesFit_15

def m_X6_opens (thrown_ : Int32) (many_ : Int32) (subjectOf_ : Nat → Int32) (teacherOf_ : Nat → Int32) (seatsOf_ : Nat → Int32) (columnOf_ : Nat → Int32) (v1 : Int32) (v2 : Int32) (v3 : Int32) : Option (Int32 × Int32 × Int32 × (Nat → Int32) × (Nat → Int32) × (Nat → Int32) × (Nat → Int32)) :=
  bd1 (m_X6_isSubject v1) (fun r_1 => (if r_1 = 0 then some ((-1), 0, many_, subjectOf_, teacherOf_, seatsOf_, columnOf_) else bd1 (m_X6_isTeacher v2) (fun r_2 => (if r_2 = 0 then some ((-1), 0, many_, subjectOf_, teacherOf_, seatsOf_, columnOf_) else bd1 (m_X6_in (Int32.toInt64 v3) 1 30) (fun r_3 => (if r_3 = 0 then some ((-1), 0, many_, subjectOf_, teacherOf_, seatsOf_, columnOf_) else (if many_ = 16 then some ((-2), 0, many_, subjectOf_, teacherOf_, seatsOf_, columnOf_) else gd (inb many_ 17) (gd (inb many_ 17) (gd (inb many_ 17) (gd (inb many_ 17) (lt' (many_ + 1) (fun w_4 => some ((w_4 - 1), 0, w_4, (upd subjectOf_ many_.toNatClampNeg v1), (upd teacherOf_ many_.toNatClampNeg v2), (upd seatsOf_ many_.toNatClampNeg v3), (upd columnOf_ many_.toNatClampNeg (-2)))))))))))))))
abbrev rmX6_opens : Room := { frames := 2, cells := 0, slots := 0, locals := 45 }
set_option maxHeartbeats 4000000 in
set_option maxRecDepth 100000 in
theorem c_X6_opens (l : Launch) (dC : Nat → ClassId) (dI : Nat → Nat → Nat) (cyC cyI cyJ : ClassId) (h0 h0_row h0_subjectOf h0_teacherOf h0_seatsOf h0_columnOf h0_barsOf h0_choices h0_tape h0_was h0_readChoices h0_open h0_wayOf h0_cure h0_left h0_satIn : Nat) (thrown_ : Int32) (told_ : Int32) (columns_ : Int32) (rooms_ : Int32) (many_ : Int32) (pupils_ : Int32) (kept_ : Int32) (taped_ : Int32) (at_ : Int32) (to_ : Int32) (digit_ : Int32) (number_ : Int32) (readMany_ : Int32) (bestThen_ : Int32) (subjectOf_ : Nat → Int32) (teacherOf_ : Nat → Int32) (seatsOf_ : Nat → Int32) (columnOf_ : Nat → Int32) (v1 : Int32) (v2 : Int32) (v3 : Int32) (rr : Int32) (o0 : Int32) (o1 : Int32) (o2 : Nat → Int32) (o3 : Nat → Int32) (o4 : Nat → Int32) (o5 : Nat → Int32) (h : m_X6_opens thrown_ many_ subjectOf_ teacherOf_ seatsOf_ columnOf_ v1 v2 v3 = some (rr, o0, o1, o2, o3, o4, o5)) : uMi l yX6_opens wsX6_opens rmX6_opens (dC, dI) [(cyC, .char), (cyI, .int), (cyJ, .long)] [.ref h0, .int v1, .int v2, .int v3] [(h0, .inr (6, [.int thrown_, .int told_, .ref h0_row, .int columns_, .int rooms_, .int many_, .ref h0_subjectOf, .ref h0_teacherOf, .ref h0_seatsOf, .ref h0_columnOf, .ref h0_barsOf, .int pupils_, .ref h0_choices, .int kept_, .ref h0_tape, .int taped_, .int at_, .int to_, .int digit_, .int number_, .ref h0_was, .ref h0_readChoices, .int readMany_, .ref h0_open, .ref h0_wayOf, .int bestThen_, .ref h0_cure, .ref h0_left, .ref h0_satIn])), (h0_subjectOf, .inl (cyI, 17, .inl subjectOf_)), (h0_teacherOf, .inl (cyI, 17, .inl teacherOf_)), (h0_seatsOf, .inl (cyI, 17, .inl seatsOf_)), (h0_columnOf, .inl (cyI, 17, .inl columnOf_))] [(h0, .inr (6, [.int o0, .int told_, .ref h0_row, .int columns_, .int rooms_, .int o1, .ref h0_subjectOf, .ref h0_teacherOf, .ref h0_seatsOf, .ref h0_columnOf, .ref h0_barsOf, .int pupils_, .ref h0_choices, .int kept_, .ref h0_tape, .int taped_, .int at_, .int to_, .int digit_, .int number_, .ref h0_was, .ref h0_readChoices, .int readMany_, .ref h0_open, .ref h0_wayOf, .int bestThen_, .ref h0_cure, .ref h0_left, .ref h0_satIn])), (h0_subjectOf, .inl (cyI, 17, .inl o2)), (h0_teacherOf, .inl (cyI, 17, .inl o3)), (h0_seatsOf, .inl (cyI, 17, .inl o4)), (h0_columnOf, .inl (cyI, 17, .inl o5))] rr := by
  refine uMi.of (cc := cX6_opens) (maxL := 4) (by decide) rfl (Nat.le_of_ble_eq_true rfl) (fun p e s m args below meth c A ls Q hx hb hml hown hts hA hP hK hD hE hS hl hret => ?_)
  have hown : s.vm.findClass RX6 = some m.cls := hown
  have hl : lv_has ls 4 [(0, .ref h0), (1, .int v1), (2, .int v2), (3, .int v3)] := hl
  have hiX6 : ∀ w ∈ u_ws RX6 TX6 29, w ∈ wsX6_opens := fun _ h9 => List.mem_cons_of_mem _ (List.mem_append_right _ h9)
  unfold m_X6_opens at h
  refine lv_aload_n hx hb dX6_opens_0 rfl (lv_at hl 0 rfl) ?_
  refine lv_iconst (v := 0) hx hb dX6_opens_1 (by decide) ?_
  refine va_put (D := (dC, dI)) (ci := 6) (v := .int 0) (ty := .int) (C := RX6) (T := TX6) (N := 29) hx hb hts hiX6 tyX6 tyX6_ok nmX6 hown hK hP hD hS 0 rfl rfl 0 (by decide) (hts (.fieldLink RX6 62 "OptionLatticeModel" "thrown" "I") (by decide +kernel)) (fun _ h9 => h9) rfl (by decide +kernel) rfl rfl (Nat.le_of_ble_eq_true rfl) dX6_opens_2 (fun H locs hP hD hS => ?_)
  have hP : va_P (dC, dI) vwCl [(h0, .inr (6, [.int 0, .int told_, .ref h0_row, .int columns_, .int rooms_, .int many_, .ref h0_subjectOf, .ref h0_teacherOf, .ref h0_seatsOf, .ref h0_columnOf, .ref h0_barsOf, .int pupils_, .ref h0_choices, .int kept_, .ref h0_tape, .int taped_, .int at_, .int to_, .int digit_, .int number_, .ref h0_was, .ref h0_readChoices, .int readMany_, .ref h0_open, .ref h0_wayOf, .int bestThen_, .ref h0_cure, .ref h0_left, .ref h0_satIn])), (h0_subjectOf, .inl (cyI, 17, .inl subjectOf_)), (h0_teacherOf, .inl (cyI, 17, .inl teacherOf_)), (h0_seatsOf, .inl (cyI, 17, .inl seatsOf_)), (h0_columnOf, .inl (cyI, 17, .inl columnOf_))] H := hP
  have hD : va_D A [(h0, .inr (6, [.int 0, .int told_, .ref h0_row, .int columns_, .int rooms_, .int many_, .ref h0_subjectOf, .ref h0_teacherOf, .ref h0_seatsOf, .ref h0_columnOf, .ref h0_barsOf, .int pupils_, .ref h0_choices, .int kept_, .ref h0_tape, .int taped_, .int at_, .int to_, .int digit_, .int number_, .ref h0_was, .ref h0_readChoices, .int readMany_, .ref h0_open, .ref h0_wayOf, .int bestThen_, .ref h0_cure, .ref h0_left, .ref h0_satIn])), (h0_subjectOf, .inl (cyI, 17, .inl subjectOf_)), (h0_teacherOf, .inl (cyI, 17, .inl teacherOf_)), (h0_seatsOf, .inl (cyI, 17, .inl seatsOf_)), (h0_columnOf, .inl (cyI, 17, .inl columnOf_))] := hD
  refine lv_iload_n hx hb dX6_opens_5 rfl (lv_at hl 1 rfl) ?_
  obtain ⟨r_1, hq, h⟩ := bd1_some h
  refine uS_i (As := [.int v1]) (rest := []) ⟨hx, hb, hml, hown, hts⟩ (c_X6_isSubject l dC dI cyC cyI cyJ v1 r_1 hq) (va_cwS 1 hts gX6_opens_X6_isSubject rfl rfl rfl (by decide +kernel) ⟨Nat.le_of_ble_eq_true rfl, Nat.le_of_ble_eq_true rfl⟩) hK hE hA hP hD hS [] rfl rfl rfl rfl hl.1 rfl (Nat.le_of_ble_eq_true rfl) ⟨Nat.zero_le _, Nat.zero_le _⟩ dX6_opens_6 (fun H locs hP hD hS => ?_)
  have hP : va_P (dC, dI) vwCl [(h0, .inr (6, [.int 0, .int told_, .ref h0_row, .int columns_, .int rooms_, .int many_, .ref h0_subjectOf, .ref h0_teacherOf, .ref h0_seatsOf, .ref h0_columnOf, .ref h0_barsOf, .int pupils_, .ref h0_choices, .int kept_, .ref h0_tape, .int taped_, .int at_, .int to_, .int digit_, .int number_, .ref h0_was, .ref h0_readChoices, .int readMany_, .ref h0_open, .ref h0_wayOf, .int bestThen_, .ref h0_cure, .ref h0_left, .ref h0_satIn])), (h0_subjectOf, .inl (cyI, 17, .inl subjectOf_)), (h0_teacherOf, .inl (cyI, 17, .inl teacherOf_)), (h0_seatsOf, .inl (cyI, 17, .inl seatsOf_)), (h0_columnOf, .inl (cyI, 17, .inl columnOf_))] H := hP
  have hD : va_D A [(h0, .inr (6, [.int 0, .int told_, .ref h0_row, .int columns_, .int rooms_, .int many_, .ref h0_subjectOf, .ref h0_teacherOf, .ref h0_seatsOf, .ref h0_columnOf, .ref h0_barsOf, .int pupils_, .ref h0_choices, .int kept_, .ref h0_tape, .int taped_, .int at_, .int to_, .int digit_, .int number_, .ref h0_was, .ref h0_readChoices, .int readMany_, .ref h0_open, .ref h0_wayOf, .int bestThen_, .ref h0_cure, .ref h0_left, .ref h0_satIn])), (h0_subjectOf, .inl (cyI, 17, .inl subjectOf_)), (h0_teacherOf, .inl (cyI, 17, .inl teacherOf_)), (h0_seatsOf, .inl (cyI, 17, .inl seatsOf_)), (h0_columnOf, .inl (cyI, 17, .inl columnOf_))] := hD
  refine lv_if_eq (tgt := 31) hx hb dX6_opens_9 (by decide) (fun c_ => ?_) (fun c_ => ?_)
  · have h := (if_pos c_).symm.trans h
    refine lv_iconst (v := (-1)) hx hb dX6_opens_31 (by decide) ?_
    have h : some ((-1), 0, many_, subjectOf_, teacherOf_, seatsOf_, columnOf_) = some (rr, o0, o1, o2, o3, o4, o5) := h
    have z0 := Option.some.inj h
    obtain ⟨rfl, z1⟩ := Prod.mk.inj z0
    obtain ⟨rfl, z2⟩ := Prod.mk.inj z1
    obtain ⟨rfl, z3⟩ := Prod.mk.inj z2
    obtain ⟨rfl, z4⟩ := Prod.mk.inj z3
    obtain ⟨rfl, z5⟩ := Prod.mk.inj z4
    obtain ⟨rfl, z6⟩ := Prod.mk.inj z5
    obtain rfl := z6
    exact hret _ _ _ _ hP hS rfl dX6_opens_32
  · have h := (if_neg c_).symm.trans h
    refine lv_iload_n hx hb dX6_opens_12 rfl (lv_at hl 2 rfl) ?_
    obtain ⟨r_2, hq, h⟩ := bd1_some h
    refine uS_i (As := [.int v2]) (rest := []) ⟨hx, hb, hml, hown, hts⟩ (c_X6_isTeacher l dC dI cyC cyI cyJ v2 r_2 hq) (va_cwS 1 hts gX6_opens_X6_isTeacher rfl rfl rfl (by decide +kernel) ⟨Nat.le_of_ble_eq_true rfl, Nat.le_of_ble_eq_true rfl⟩) hK hE hA hP hD hS [] rfl rfl rfl rfl hl.1 rfl (Nat.le_of_ble_eq_true rfl) ⟨Nat.zero_le _, Nat.zero_le _⟩ dX6_opens_13 (fun H locs hP hD hS => ?_)
    have hP : va_P (dC, dI) vwCl [(h0, .inr (6, [.int 0, .int told_, .ref h0_row, .int columns_, .int rooms_, .int many_, .ref h0_subjectOf, .ref h0_teacherOf, .ref h0_seatsOf, .ref h0_columnOf, .ref h0_barsOf, .int pupils_, .ref h0_choices, .int kept_, .ref h0_tape, .int taped_, .int at_, .int to_, .int digit_, .int number_, .ref h0_was, .ref h0_readChoices, .int readMany_, .ref h0_open, .ref h0_wayOf, .int bestThen_, .ref h0_cure, .ref h0_left, .ref h0_satIn])), (h0_subjectOf, .inl (cyI, 17, .inl subjectOf_)), (h0_teacherOf, .inl (cyI, 17, .inl teacherOf_)), (h0_seatsOf, .inl (cyI, 17, .inl seatsOf_)), (h0_columnOf, .inl (cyI, 17, .inl columnOf_))] H := hP
    have hD : va_D A [(h0, .inr (6, [.int 0, .int told_, .ref h0_row, .int columns_, .int rooms_, .int many_, .ref h0_subjectOf, .ref h0_teacherOf, .ref h0_seatsOf, .ref h0_columnOf, .ref h0_barsOf, .int pupils_, .ref h0_choices, .int kept_, .ref h0_tape, .int taped_, .int at_, .int to_, .int digit_, .int number_, .ref h0_was, .ref h0_readChoices, .int readMany_, .ref h0_open, .ref h0_wayOf, .int bestThen_, .ref h0_cure, .ref h0_left, .ref h0_satIn])), (h0_subjectOf, .inl (cyI, 17, .inl subjectOf_)), (h0_teacherOf, .inl (cyI, 17, .inl teacherOf_)), (h0_seatsOf, .inl (cyI, 17, .inl seatsOf_)), (h0_columnOf, .inl (cyI, 17, .inl columnOf_))] := hD
    refine lv_if_eq (tgt := 31) hx hb dX6_opens_16 (by decide) (fun c_ => ?_) (fun c_ => ?_)
    · have h := (if_pos c_).symm.trans h
      refine lv_iconst (v := (-1)) hx hb dX6_opens_31 (by decide) ?_
      have h : some ((-1), 0, many_, subjectOf_, teacherOf_, seatsOf_, columnOf_) = some (rr, o0, o1, o2, o3, o4, o5) := h
      have z0 := Option.some.inj h
      obtain ⟨rfl, z1⟩ := Prod.mk.inj z0
      obtain ⟨rfl, z2⟩ := Prod.mk.inj z1
      obtain ⟨rfl, z3⟩ := Prod.mk.inj z2
      obtain ⟨rfl, z4⟩ := Prod.mk.inj z3
      obtain ⟨rfl, z5⟩ := Prod.mk.inj z4
      obtain ⟨rfl, z6⟩ := Prod.mk.inj z5
      obtain rfl := z6
      exact hret _ _ _ _ hP hS rfl dX6_opens_32
    · have h := (if_neg c_).symm.trans h
      refine lv_iload_n hx hb dX6_opens_19 rfl (lv_at hl 3 rfl) ?_
      refine lv_i2l (v := (Int32.toInt64 v3)) hx hb dX6_opens_20 rfl ?_
      refine lv_lconst (v := 1) hx hb dX6_opens_21 (by decide) ?_
      refine lv_ldc2 hx hb hown (hts (.constantLong RX6 191 (30)) (by decide +kernel)) dX6_opens_22 ?_
      obtain ⟨r_3, hq, h⟩ := bd1_some h
      refine uS_i (As := [.long (Int32.toInt64 v3), .long 1, .long 30]) (rest := []) ⟨hx, hb, hml, hown, hts⟩ (c_X6_in l dC dI cyC cyI cyJ (Int32.toInt64 v3) 1 30 r_3 hq) (va_cwS 3 hts gX6_opens_X6_in rfl rfl rfl (by decide +kernel) ⟨Nat.le_of_ble_eq_true rfl, Nat.le_of_ble_eq_true rfl⟩) hK hE hA hP hD hS [] rfl rfl rfl rfl hl.1 rfl (Nat.le_of_ble_eq_true rfl) ⟨Nat.zero_le _, Nat.zero_le _⟩ dX6_opens_25 (fun H locs hP hD hS => ?_)
      have hP : va_P (dC, dI) vwCl [(h0, .inr (6, [.int 0, .int told_, .ref h0_row, .int columns_, .int rooms_, .int many_, .ref h0_subjectOf, .ref h0_teacherOf, .ref h0_seatsOf, .ref h0_columnOf, .ref h0_barsOf, .int pupils_, .ref h0_choices, .int kept_, .ref h0_tape, .int taped_, .int at_, .int to_, .int digit_, .int number_, .ref h0_was, .ref h0_readChoices, .int readMany_, .ref h0_open, .ref h0_wayOf, .int bestThen_, .ref h0_cure, .ref h0_left, .ref h0_satIn])), (h0_subjectOf, .inl (cyI, 17, .inl subjectOf_)), (h0_teacherOf, .inl (cyI, 17, .inl teacherOf_)), (h0_seatsOf, .inl (cyI, 17, .inl seatsOf_)), (h0_columnOf, .inl (cyI, 17, .inl columnOf_))] H := hP
      have hD : va_D A [(h0, .inr (6, [.int 0, .int told_, .ref h0_row, .int columns_, .int rooms_, .int many_, .ref h0_subjectOf, .ref h0_teacherOf, .ref h0_seatsOf, .ref h0_columnOf, .ref h0_barsOf, .int pupils_, .ref h0_choices, .int kept_, .ref h0_tape, .int taped_, .int at_, .int to_, .int digit_, .int number_, .ref h0_was, .ref h0_readChoices, .int readMany_, .ref h0_open, .ref h0_wayOf, .int bestThen_, .ref h0_cure, .ref h0_left, .ref h0_satIn])), (h0_subjectOf, .inl (cyI, 17, .inl subjectOf_)), (h0_teacherOf, .inl (cyI, 17, .inl teacherOf_)), (h0_seatsOf, .inl (cyI, 17, .inl seatsOf_)), (h0_columnOf, .inl (cyI, 17, .inl columnOf_))] := hD
      refine lv_if_ne (tgt := 33) hx hb dX6_opens_28 (by decide) (fun c_ => ?_) (fun c_ => ?_)
      · have h := (if_neg c_).symm.trans h
        refine lv_aload_n hx hb dX6_opens_33 rfl (lv_at hl 0 rfl) ?_
        refine va_get (D := (dC, dI)) (ci := 6) (v := .int many_) (C := RX6) (T := TX6) (N := 29) hx hb hts hiX6 hown hK hP 0 rfl rfl 5 (by decide) (hts (.fieldLink RX6 87 "OptionLatticeModel" "many" "I") (by decide +kernel)) (fun _ h9 => h9) rfl dX6_opens_34 ?_
        refine lv_bipush (v := 16) hx hb dX6_opens_37 (by decide) ?_
        refine lv_icmp_ne (tgt := 45) hx hb dX6_opens_39 (by decide) (fun c_ => ?_) (fun c_ => ?_)
        · have h := (if_neg c_).symm.trans h
          refine lv_aload_n hx hb dX6_opens_45 rfl (lv_at hl 0 rfl) ?_
          refine va_get (D := (dC, dI)) (ci := 6) (v := .ref h0_subjectOf) (C := RX6) (T := TX6) (N := 29) hx hb hts hiX6 hown hK hP 0 rfl rfl 6 (by decide) (hts (.fieldLink RX6 20 "OptionLatticeModel" "subjectOf" "[I") (by decide +kernel)) (fun _ h9 => h9) rfl dX6_opens_46 ?_
          refine lv_aload_n hx hb dX6_opens_49 rfl (lv_at hl 0 rfl) ?_
          refine va_get (D := (dC, dI)) (ci := 6) (v := .int many_) (C := RX6) (T := TX6) (N := 29) hx hb hts hiX6 hown hK hP 0 rfl rfl 5 (by decide) (hts (.fieldLink RX6 87 "OptionLatticeModel" "many" "I") (by decide +kernel)) (fun _ h9 => h9) rfl dX6_opens_50 ?_
          refine lv_iload_n hx hb dX6_opens_53 rfl (lv_at hl 1 rfl) ?_
          obtain ⟨g_, h⟩ := gd_some h
          refine va_iast hx hb hK hP hD hS 1 1 rfl rfl (inb_in g_) dX6_opens_54 (fun H locs hP hD hS => ?_)
          have hP : va_P (dC, dI) vwCl [(h0, .inr (6, [.int 0, .int told_, .ref h0_row, .int columns_, .int rooms_, .int many_, .ref h0_subjectOf, .ref h0_teacherOf, .ref h0_seatsOf, .ref h0_columnOf, .ref h0_barsOf, .int pupils_, .ref h0_choices, .int kept_, .ref h0_tape, .int taped_, .int at_, .int to_, .int digit_, .int number_, .ref h0_was, .ref h0_readChoices, .int readMany_, .ref h0_open, .ref h0_wayOf, .int bestThen_, .ref h0_cure, .ref h0_left, .ref h0_satIn])), (h0_subjectOf, .inl (cyI, 17, .inl (upd subjectOf_ many_.toNatClampNeg v1))), (h0_teacherOf, .inl (cyI, 17, .inl teacherOf_)), (h0_seatsOf, .inl (cyI, 17, .inl seatsOf_)), (h0_columnOf, .inl (cyI, 17, .inl columnOf_))] H := hP
          have hD : va_D A [(h0, .inr (6, [.int 0, .int told_, .ref h0_row, .int columns_, .int rooms_, .int many_, .ref h0_subjectOf, .ref h0_teacherOf, .ref h0_seatsOf, .ref h0_columnOf, .ref h0_barsOf, .int pupils_, .ref h0_choices, .int kept_, .ref h0_tape, .int taped_, .int at_, .int to_, .int digit_, .int number_, .ref h0_was, .ref h0_readChoices, .int readMany_, .ref h0_open, .ref h0_wayOf, .int bestThen_, .ref h0_cure, .ref h0_left, .ref h0_satIn])), (h0_subjectOf, .inl (cyI, 17, .inl (upd subjectOf_ many_.toNatClampNeg v1))), (h0_teacherOf, .inl (cyI, 17, .inl teacherOf_)), (h0_seatsOf, .inl (cyI, 17, .inl seatsOf_)), (h0_columnOf, .inl (cyI, 17, .inl columnOf_))] := hD
          refine lv_aload_n hx hb dX6_opens_55 rfl (lv_at hl 0 rfl) ?_
          refine va_get (D := (dC, dI)) (ci := 6) (v := .ref h0_teacherOf) (C := RX6) (T := TX6) (N := 29) hx hb hts hiX6 hown hK hP 0 rfl rfl 7 (by decide) (hts (.fieldLink RX6 23 "OptionLatticeModel" "teacherOf" "[I") (by decide +kernel)) (fun _ h9 => h9) rfl dX6_opens_56 ?_
          refine lv_aload_n hx hb dX6_opens_59 rfl (lv_at hl 0 rfl) ?_
          refine va_get (D := (dC, dI)) (ci := 6) (v := .int many_) (C := RX6) (T := TX6) (N := 29) hx hb hts hiX6 hown hK hP 0 rfl rfl 5 (by decide) (hts (.fieldLink RX6 87 "OptionLatticeModel" "many" "I") (by decide +kernel)) (fun _ h9 => h9) rfl dX6_opens_60 ?_
          refine lv_iload_n hx hb dX6_opens_63 rfl (lv_at hl 2 rfl) ?_
          obtain ⟨g_, h⟩ := gd_some h
          refine va_iast hx hb hK hP hD hS 2 1 rfl rfl (inb_in g_) dX6_opens_64 (fun H locs hP hD hS => ?_)
          have hP : va_P (dC, dI) vwCl [(h0, .inr (6, [.int 0, .int told_, .ref h0_row, .int columns_, .int rooms_, .int many_, .ref h0_subjectOf, .ref h0_teacherOf, .ref h0_seatsOf, .ref h0_columnOf, .ref h0_barsOf, .int pupils_, .ref h0_choices, .int kept_, .ref h0_tape, .int taped_, .int at_, .int to_, .int digit_, .int number_, .ref h0_was, .ref h0_readChoices, .int readMany_, .ref h0_open, .ref h0_wayOf, .int bestThen_, .ref h0_cure, .ref h0_left, .ref h0_satIn])), (h0_subjectOf, .inl (cyI, 17, .inl (upd subjectOf_ many_.toNatClampNeg v1))), (h0_teacherOf, .inl (cyI, 17, .inl (upd teacherOf_ many_.toNatClampNeg v2))), (h0_seatsOf, .inl (cyI, 17, .inl seatsOf_)), (h0_columnOf, .inl (cyI, 17, .inl columnOf_))] H := hP
          have hD : va_D A [(h0, .inr (6, [.int 0, .int told_, .ref h0_row, .int columns_, .int rooms_, .int many_, .ref h0_subjectOf, .ref h0_teacherOf, .ref h0_seatsOf, .ref h0_columnOf, .ref h0_barsOf, .int pupils_, .ref h0_choices, .int kept_, .ref h0_tape, .int taped_, .int at_, .int to_, .int digit_, .int number_, .ref h0_was, .ref h0_readChoices, .int readMany_, .ref h0_open, .ref h0_wayOf, .int bestThen_, .ref h0_cure, .ref h0_left, .ref h0_satIn])), (h0_subjectOf, .inl (cyI, 17, .inl (upd subjectOf_ many_.toNatClampNeg v1))), (h0_teacherOf, .inl (cyI, 17, .inl (upd teacherOf_ many_.toNatClampNeg v2))), (h0_seatsOf, .inl (cyI, 17, .inl seatsOf_)), (h0_columnOf, .inl (cyI, 17, .inl columnOf_))] := hD
          refine lv_aload_n hx hb dX6_opens_65 rfl (lv_at hl 0 rfl) ?_
          refine va_get (D := (dC, dI)) (ci := 6) (v := .ref h0_seatsOf) (C := RX6) (T := TX6) (N := 29) hx hb hts hiX6 hown hK hP 0 rfl rfl 8 (by decide) (hts (.fieldLink RX6 26 "OptionLatticeModel" "seatsOf" "[I") (by decide +kernel)) (fun _ h9 => h9) rfl dX6_opens_66 ?_
          refine lv_aload_n hx hb dX6_opens_69 rfl (lv_at hl 0 rfl) ?_
          refine va_get (D := (dC, dI)) (ci := 6) (v := .int many_) (C := RX6) (T := TX6) (N := 29) hx hb hts hiX6 hown hK hP 0 rfl rfl 5 (by decide) (hts (.fieldLink RX6 87 "OptionLatticeModel" "many" "I") (by decide +kernel)) (fun _ h9 => h9) rfl dX6_opens_70 ?_
          refine lv_iload_n hx hb dX6_opens_73 rfl (lv_at hl 3 rfl) ?_
          obtain ⟨g_, h⟩ := gd_some h
          refine va_iast hx hb hK hP hD hS 3 1 rfl rfl (inb_in g_) dX6_opens_74 (fun H locs hP hD hS => ?_)
          have hP : va_P (dC, dI) vwCl [(h0, .inr (6, [.int 0, .int told_, .ref h0_row, .int columns_, .int rooms_, .int many_, .ref h0_subjectOf, .ref h0_teacherOf, .ref h0_seatsOf, .ref h0_columnOf, .ref h0_barsOf, .int pupils_, .ref h0_choices, .int kept_, .ref h0_tape, .int taped_, .int at_, .int to_, .int digit_, .int number_, .ref h0_was, .ref h0_readChoices, .int readMany_, .ref h0_open, .ref h0_wayOf, .int bestThen_, .ref h0_cure, .ref h0_left, .ref h0_satIn])), (h0_subjectOf, .inl (cyI, 17, .inl (upd subjectOf_ many_.toNatClampNeg v1))), (h0_teacherOf, .inl (cyI, 17, .inl (upd teacherOf_ many_.toNatClampNeg v2))), (h0_seatsOf, .inl (cyI, 17, .inl (upd seatsOf_ many_.toNatClampNeg v3))), (h0_columnOf, .inl (cyI, 17, .inl columnOf_))] H := hP
          have hD : va_D A [(h0, .inr (6, [.int 0, .int told_, .ref h0_row, .int columns_, .int rooms_, .int many_, .ref h0_subjectOf, .ref h0_teacherOf, .ref h0_seatsOf, .ref h0_columnOf, .ref h0_barsOf, .int pupils_, .ref h0_choices, .int kept_, .ref h0_tape, .int taped_, .int at_, .int to_, .int digit_, .int number_, .ref h0_was, .ref h0_readChoices, .int readMany_, .ref h0_open, .ref h0_wayOf, .int bestThen_, .ref h0_cure, .ref h0_left, .ref h0_satIn])), (h0_subjectOf, .inl (cyI, 17, .inl (upd subjectOf_ many_.toNatClampNeg v1))), (h0_teacherOf, .inl (cyI, 17, .inl (upd teacherOf_ many_.toNatClampNeg v2))), (h0_seatsOf, .inl (cyI, 17, .inl (upd seatsOf_ many_.toNatClampNeg v3))), (h0_columnOf, .inl (cyI, 17, .inl columnOf_))] := hD
          refine lv_aload_n hx hb dX6_opens_75 rfl (lv_at hl 0 rfl) ?_
          refine va_get (D := (dC, dI)) (ci := 6) (v := .ref h0_columnOf) (C := RX6) (T := TX6) (N := 29) hx hb hts hiX6 hown hK hP 0 rfl rfl 9 (by decide) (hts (.fieldLink RX6 29 "OptionLatticeModel" "columnOf" "[I") (by decide +kernel)) (fun _ h9 => h9) rfl dX6_opens_76 ?_
          refine lv_aload_n hx hb dX6_opens_79 rfl (lv_at hl 0 rfl) ?_
          refine va_get (D := (dC, dI)) (ci := 6) (v := .int many_) (C := RX6) (T := TX6) (N := 29) hx hb hts hiX6 hown hK hP 0 rfl rfl 5 (by decide) (hts (.fieldLink RX6 87 "OptionLatticeModel" "many" "I") (by decide +kernel)) (fun _ h9 => h9) rfl dX6_opens_80 ?_
          refine lv_bipush (v := (-2)) hx hb dX6_opens_83 (by decide) ?_
          obtain ⟨g_, h⟩ := gd_some h
          refine va_iast hx hb hK hP hD hS 4 1 rfl rfl (inb_in g_) dX6_opens_85 (fun H locs hP hD hS => ?_)
          have hP : va_P (dC, dI) vwCl [(h0, .inr (6, [.int 0, .int told_, .ref h0_row, .int columns_, .int rooms_, .int many_, .ref h0_subjectOf, .ref h0_teacherOf, .ref h0_seatsOf, .ref h0_columnOf, .ref h0_barsOf, .int pupils_, .ref h0_choices, .int kept_, .ref h0_tape, .int taped_, .int at_, .int to_, .int digit_, .int number_, .ref h0_was, .ref h0_readChoices, .int readMany_, .ref h0_open, .ref h0_wayOf, .int bestThen_, .ref h0_cure, .ref h0_left, .ref h0_satIn])), (h0_subjectOf, .inl (cyI, 17, .inl (upd subjectOf_ many_.toNatClampNeg v1))), (h0_teacherOf, .inl (cyI, 17, .inl (upd teacherOf_ many_.toNatClampNeg v2))), (h0_seatsOf, .inl (cyI, 17, .inl (upd seatsOf_ many_.toNatClampNeg v3))), (h0_columnOf, .inl (cyI, 17, .inl (upd columnOf_ many_.toNatClampNeg (-2))))] H := hP
          have hD : va_D A [(h0, .inr (6, [.int 0, .int told_, .ref h0_row, .int columns_, .int rooms_, .int many_, .ref h0_subjectOf, .ref h0_teacherOf, .ref h0_seatsOf, .ref h0_columnOf, .ref h0_barsOf, .int pupils_, .ref h0_choices, .int kept_, .ref h0_tape, .int taped_, .int at_, .int to_, .int digit_, .int number_, .ref h0_was, .ref h0_readChoices, .int readMany_, .ref h0_open, .ref h0_wayOf, .int bestThen_, .ref h0_cure, .ref h0_left, .ref h0_satIn])), (h0_subjectOf, .inl (cyI, 17, .inl (upd subjectOf_ many_.toNatClampNeg v1))), (h0_teacherOf, .inl (cyI, 17, .inl (upd teacherOf_ many_.toNatClampNeg v2))), (h0_seatsOf, .inl (cyI, 17, .inl (upd seatsOf_ many_.toNatClampNeg v3))), (h0_columnOf, .inl (cyI, 17, .inl (upd columnOf_ many_.toNatClampNeg (-2))))] := hD
          refine lv_aload_n hx hb dX6_opens_86 rfl (lv_at hl 0 rfl) ?_
          refine lv_dup hx hb dX6_opens_87 rfl ?_
          refine va_get (D := (dC, dI)) (ci := 6) (v := .int many_) (C := RX6) (T := TX6) (N := 29) hx hb hts hiX6 hown hK hP 0 rfl rfl 5 (by decide) (hts (.fieldLink RX6 87 "OptionLatticeModel" "many" "I") (by decide +kernel)) (fun _ h9 => h9) rfl dX6_opens_88 ?_
          refine lv_iconst (v := 1) hx hb dX6_opens_91 (by decide) ?_
          refine lv_iadd hx hb dX6_opens_92 ?_
          refine lv_topi (fun w_4 e_w_4 => ?_)
          have h := lt_use e_w_4 h
          refine va_put (D := (dC, dI)) (ci := 6) (v := .int w_4) (ty := .int) (C := RX6) (T := TX6) (N := 29) hx hb hts hiX6 tyX6 tyX6_ok nmX6 hown hK hP hD hS 0 rfl rfl 5 (by decide) (hts (.fieldLink RX6 87 "OptionLatticeModel" "many" "I") (by decide +kernel)) (fun _ h9 => h9) rfl (by decide +kernel) rfl rfl (Nat.le_of_ble_eq_true rfl) dX6_opens_93 (fun H locs hP hD hS => ?_)
          have hP : va_P (dC, dI) vwCl [(h0, .inr (6, [.int 0, .int told_, .ref h0_row, .int columns_, .int rooms_, .int w_4, .ref h0_subjectOf, .ref h0_teacherOf, .ref h0_seatsOf, .ref h0_columnOf, .ref h0_barsOf, .int pupils_, .ref h0_choices, .int kept_, .ref h0_tape, .int taped_, .int at_, .int to_, .int digit_, .int number_, .ref h0_was, .ref h0_readChoices, .int readMany_, .ref h0_open, .ref h0_wayOf, .int bestThen_, .ref h0_cure, .ref h0_left, .ref h0_satIn])), (h0_subjectOf, .inl (cyI, 17, .inl (upd subjectOf_ many_.toNatClampNeg v1))), (h0_teacherOf, .inl (cyI, 17, .inl (upd teacherOf_ many_.toNatClampNeg v2))), (h0_seatsOf, .inl (cyI, 17, .inl (upd seatsOf_ many_.toNatClampNeg v3))), (h0_columnOf, .inl (cyI, 17, .inl (upd columnOf_ many_.toNatClampNeg (-2))))] H := hP
          have hD : va_D A [(h0, .inr (6, [.int 0, .int told_, .ref h0_row, .int columns_, .int rooms_, .int w_4, .ref h0_subjectOf, .ref h0_teacherOf, .ref h0_seatsOf, .ref h0_columnOf, .ref h0_barsOf, .int pupils_, .ref h0_choices, .int kept_, .ref h0_tape, .int taped_, .int at_, .int to_, .int digit_, .int number_, .ref h0_was, .ref h0_readChoices, .int readMany_, .ref h0_open, .ref h0_wayOf, .int bestThen_, .ref h0_cure, .ref h0_left, .ref h0_satIn])), (h0_subjectOf, .inl (cyI, 17, .inl (upd subjectOf_ many_.toNatClampNeg v1))), (h0_teacherOf, .inl (cyI, 17, .inl (upd teacherOf_ many_.toNatClampNeg v2))), (h0_seatsOf, .inl (cyI, 17, .inl (upd seatsOf_ many_.toNatClampNeg v3))), (h0_columnOf, .inl (cyI, 17, .inl (upd columnOf_ many_.toNatClampNeg (-2))))] := hD
          refine lv_aload_n hx hb dX6_opens_96 rfl (lv_at hl 0 rfl) ?_
          refine va_get (D := (dC, dI)) (ci := 6) (v := .int w_4) (C := RX6) (T := TX6) (N := 29) hx hb hts hiX6 hown hK hP 0 rfl rfl 5 (by decide) (hts (.fieldLink RX6 87 "OptionLatticeModel" "many" "I") (by decide +kernel)) (fun _ h9 => h9) rfl dX6_opens_97 ?_
          refine lv_iconst (v := 1) hx hb dX6_opens_100 (by decide) ?_
          refine lv_isub hx hb dX6_opens_101 ?_
          have h : some ((w_4 - 1), 0, w_4, (upd subjectOf_ many_.toNatClampNeg v1), (upd teacherOf_ many_.toNatClampNeg v2), (upd seatsOf_ many_.toNatClampNeg v3), (upd columnOf_ many_.toNatClampNeg (-2))) = some (rr, o0, o1, o2, o3, o4, o5) := h
          have z0 := Option.some.inj h
          obtain ⟨rfl, z1⟩ := Prod.mk.inj z0
          obtain ⟨rfl, z2⟩ := Prod.mk.inj z1
          obtain ⟨rfl, z3⟩ := Prod.mk.inj z2
          obtain ⟨rfl, z4⟩ := Prod.mk.inj z3
          obtain ⟨rfl, z5⟩ := Prod.mk.inj z4
          obtain ⟨rfl, z6⟩ := Prod.mk.inj z5
          obtain rfl := z6
          exact hret _ _ _ _ hP hS rfl dX6_opens_102
        · have h := (if_pos c_).symm.trans h
          refine lv_bipush (v := (-2)) hx hb dX6_opens_42 (by decide) ?_
          have h : some ((-2), 0, many_, subjectOf_, teacherOf_, seatsOf_, columnOf_) = some (rr, o0, o1, o2, o3, o4, o5) := h
          have z0 := Option.some.inj h
          obtain ⟨rfl, z1⟩ := Prod.mk.inj z0
          obtain ⟨rfl, z2⟩ := Prod.mk.inj z1
          obtain ⟨rfl, z3⟩ := Prod.mk.inj z2
          obtain ⟨rfl, z4⟩ := Prod.mk.inj z3
          obtain ⟨rfl, z5⟩ := Prod.mk.inj z4
          obtain ⟨rfl, z6⟩ := Prod.mk.inj z5
          obtain rfl := z6
          exact hret _ _ _ _ hP hS rfl dX6_opens_44
      · have h := (if_pos c_).symm.trans h
        refine lv_iconst (v := (-1)) hx hb dX6_opens_31 (by decide) ?_
        have h : some ((-1), 0, many_, subjectOf_, teacherOf_, seatsOf_, columnOf_) = some (rr, o0, o1, o2, o3, o4, o5) := h
        have z0 := Option.some.inj h
        obtain ⟨rfl, z1⟩ := Prod.mk.inj z0
        obtain ⟨rfl, z2⟩ := Prod.mk.inj z1
        obtain ⟨rfl, z3⟩ := Prod.mk.inj z2
        obtain ⟨rfl, z4⟩ := Prod.mk.inj z3
        obtain ⟨rfl, z5⟩ := Prod.mk.inj z4
        obtain ⟨rfl, z6⟩ := Prod.mk.inj z5
        obtain rfl := z6
        exact hret _ _ _ _ hP hS rfl dX6_opens_32

def m_X6_closes_27 (thrown_ : Int32) (many_ : Int32) (rec27 : Int32 → (Nat → Int32) → (Nat → Int32) → (Nat → Int32) → (Nat → Int32) → Option (Int32 × Int32 × Int32 × (Nat → Int32) × (Nat → Int32) × (Nat → Int32) × (Nat → Int32))) : Int32 → (Nat → Int32) → (Nat → Int32) → (Nat → Int32) → (Nat → Int32) → Option (Int32 × Int32 × Int32 × (Nat → Int32) × (Nat → Int32) × (Nat → Int32) × (Nat → Int32)) := fun v2 subjectOf_ teacherOf_ seatsOf_ columnOf_ =>
  (if many_ ≤ v2 then some (many_, thrown_, many_, subjectOf_, teacherOf_, seatsOf_, columnOf_) else gd (inb (v2 + 1) 17) (gd (inb v2 17) (gd (inb (v2 + 1) 17) (gd (inb v2 17) (gd (inb (v2 + 1) 17) (gd (inb v2 17) (gd (inb (v2 + 1) 17) (gd (inb v2 17) (lt' (v2 + 1) (fun v2_1 => rec27 v2_1 (upd subjectOf_ v2.toNatClampNeg (subjectOf_ ((v2 + 1)).toNatClampNeg)) (upd teacherOf_ v2.toNatClampNeg (teacherOf_ ((v2 + 1)).toNatClampNeg)) (upd seatsOf_ v2.toNatClampNeg (seatsOf_ ((v2 + 1)).toNatClampNeg)) (upd columnOf_ v2.toNatClampNeg (columnOf_ ((v2 + 1)).toNatClampNeg))))))))))))
def m_X6_closes (thrown_ : Int32) (many_ : Int32) (subjectOf_ : Nat → Int32) (teacherOf_ : Nat → Int32) (seatsOf_ : Nat → Int32) (columnOf_ : Nat → Int32) (v1 : Int32) : Option (Int32 × Int32 × Int32 × (Nat → Int32) × (Nat → Int32) × (Nat → Int32) × (Nat → Int32)) :=
  bd1 (m_X6_isSection many_ v1) (fun r_2 => (if r_2 = 0 then some ((-1), 0, many_, subjectOf_, teacherOf_, seatsOf_, columnOf_) else lt' (many_ - 1) (fun w_3 => it5 (m_X6_closes_27 0 w_3) 1100 v1 subjectOf_ teacherOf_ seatsOf_ columnOf_)))
abbrev rmX6_closes : Room := { frames := 2, cells := 0, slots := 0, locals := 46 }
set_option maxHeartbeats 4000000 in
set_option maxRecDepth 100000 in
theorem c_X6_closes (l : Launch) (dC : Nat → ClassId) (dI : Nat → Nat → Nat) (cyC cyI cyJ : ClassId) (h0 h0_row h0_subjectOf h0_teacherOf h0_seatsOf h0_columnOf h0_barsOf h0_choices h0_tape h0_was h0_readChoices h0_open h0_wayOf h0_cure h0_left h0_satIn : Nat) (thrown_ : Int32) (told_ : Int32) (columns_ : Int32) (rooms_ : Int32) (many_ : Int32) (pupils_ : Int32) (kept_ : Int32) (taped_ : Int32) (at_ : Int32) (to_ : Int32) (digit_ : Int32) (number_ : Int32) (readMany_ : Int32) (bestThen_ : Int32) (subjectOf_ : Nat → Int32) (teacherOf_ : Nat → Int32) (seatsOf_ : Nat → Int32) (columnOf_ : Nat → Int32) (v1 : Int32) (rr : Int32) (o0 : Int32) (o1 : Int32) (o2 : Nat → Int32) (o3 : Nat → Int32) (o4 : Nat → Int32) (o5 : Nat → Int32) (h : m_X6_closes thrown_ many_ subjectOf_ teacherOf_ seatsOf_ columnOf_ v1 = some (rr, o0, o1, o2, o3, o4, o5)) : uMi l yX6_closes wsX6_closes rmX6_closes (dC, dI) [(cyC, .char), (cyI, .int), (cyJ, .long)] [.ref h0, .int v1] [(h0, .inr (6, [.int thrown_, .int told_, .ref h0_row, .int columns_, .int rooms_, .int many_, .ref h0_subjectOf, .ref h0_teacherOf, .ref h0_seatsOf, .ref h0_columnOf, .ref h0_barsOf, .int pupils_, .ref h0_choices, .int kept_, .ref h0_tape, .int taped_, .int at_, .int to_, .int digit_, .int number_, .ref h0_was, .ref h0_readChoices, .int readMany_, .ref h0_open, .ref h0_wayOf, .int bestThen_, .ref h0_cure, .ref h0_left, .ref h0_satIn])), (h0_subjectOf, .inl (cyI, 17, .inl subjectOf_)), (h0_teacherOf, .inl (cyI, 17, .inl teacherOf_)), (h0_seatsOf, .inl (cyI, 17, .inl seatsOf_)), (h0_columnOf, .inl (cyI, 17, .inl columnOf_))] [(h0, .inr (6, [.int o0, .int told_, .ref h0_row, .int columns_, .int rooms_, .int o1, .ref h0_subjectOf, .ref h0_teacherOf, .ref h0_seatsOf, .ref h0_columnOf, .ref h0_barsOf, .int pupils_, .ref h0_choices, .int kept_, .ref h0_tape, .int taped_, .int at_, .int to_, .int digit_, .int number_, .ref h0_was, .ref h0_readChoices, .int readMany_, .ref h0_open, .ref h0_wayOf, .int bestThen_, .ref h0_cure, .ref h0_left, .ref h0_satIn])), (h0_subjectOf, .inl (cyI, 17, .inl o2)), (h0_teacherOf, .inl (cyI, 17, .inl o3)), (h0_seatsOf, .inl (cyI, 17, .inl o4)), (h0_columnOf, .inl (cyI, 17, .inl o5))] rr := by
  refine uMi.of (cc := cX6_closes) (maxL := 3) (by decide) rfl (Nat.le_of_ble_eq_true rfl) (fun p e s m args below meth c A ls Q hx hb hml hown hts hA hP hK hD hE hS hl hret => ?_)
  have hown : s.vm.findClass RX6 = some m.cls := hown
  have hl : lv_has ls 3 [(0, .ref h0), (1, .int v1)] := hl
  have hiX6 : ∀ w ∈ u_ws RX6 TX6 29, w ∈ wsX6_closes := fun _ h9 => List.mem_cons_of_mem _ (List.mem_append_right _ h9)
  have L27 : ∀ (thrown_ : Int32), ∀ (many_ : Int32), ∀ (n27 : Nat), ∀ (v2 : Int32), ∀ (subjectOf_ : Nat → Int32), ∀ (teacherOf_ : Nat → Int32), ∀ (seatsOf_ : Nat → Int32), ∀ (columnOf_ : Nat → Int32), it5 (m_X6_closes_27 thrown_ many_) n27 v2 subjectOf_ teacherOf_ seatsOf_ columnOf_ = some (rr, o0, o1, o2, o3, o4, o5) → ∀ (H : Heap) (locs : List Loc) (ls : Array Slot), va_P (dC, dI) vwCl [(h0, .inr (6, [.int thrown_, .int told_, .ref h0_row, .int columns_, .int rooms_, .int many_, .ref h0_subjectOf, .ref h0_teacherOf, .ref h0_seatsOf, .ref h0_columnOf, .ref h0_barsOf, .int pupils_, .ref h0_choices, .int kept_, .ref h0_tape, .int taped_, .int at_, .int to_, .int digit_, .int number_, .ref h0_was, .ref h0_readChoices, .int readMany_, .ref h0_open, .ref h0_wayOf, .int bestThen_, .ref h0_cure, .ref h0_left, .ref h0_satIn])), (h0_subjectOf, .inl (cyI, 17, .inl subjectOf_)), (h0_teacherOf, .inl (cyI, 17, .inl teacherOf_)), (h0_seatsOf, .inl (cyI, 17, .inl seatsOf_)), (h0_columnOf, .inl (cyI, 17, .inl columnOf_))] H → va_D A [(h0, .inr (6, [.int thrown_, .int told_, .ref h0_row, .int columns_, .int rooms_, .int many_, .ref h0_subjectOf, .ref h0_teacherOf, .ref h0_seatsOf, .ref h0_columnOf, .ref h0_barsOf, .int pupils_, .ref h0_choices, .int kept_, .ref h0_tape, .int taped_, .int at_, .int to_, .int digit_, .int number_, .ref h0_was, .ref h0_readChoices, .int readMany_, .ref h0_open, .ref h0_wayOf, .int bestThen_, .ref h0_cure, .ref h0_left, .ref h0_satIn])), (h0_subjectOf, .inl (cyI, 17, .inl subjectOf_)), (h0_teacherOf, .inl (cyI, 17, .inl teacherOf_)), (h0_seatsOf, .inl (cyI, 17, .inl seatsOf_)), (h0_columnOf, .inl (cyI, 17, .inl columnOf_))] → va_S A s.heap H locs → lv_has ls 3 [(0, .ref h0), (2, .int v2)] → W p l e rmX6_closes s m args below meth c H locs 0 0 Q (F0 m 27 ls []) := by
    intro thrown_ many_ n27
    induction n27 with
    | zero => intro v2 subjectOf_ teacherOf_ seatsOf_ columnOf_ h; exact absurd h (fun z => it5_z z)
    | succ n27 ih27 =>
      intro v2 subjectOf_ teacherOf_ seatsOf_ columnOf_ h H locs ls hP hD hS hl
      have h : m_X6_closes_27 thrown_ many_ (it5 (m_X6_closes_27 thrown_ many_) n27) v2 subjectOf_ teacherOf_ seatsOf_ columnOf_ = some (rr, o0, o1, o2, o3, o4, o5) := h
      unfold m_X6_closes_27 at h
      refine lv_iload_n hx hb dX6_closes_27 rfl (lv_at hl 1 rfl) ?_
      refine lv_aload_n hx hb dX6_closes_28 rfl (lv_at hl 0 rfl) ?_
      refine va_get (D := (dC, dI)) (ci := 6) (v := .int many_) (C := RX6) (T := TX6) (N := 29) hx hb hts hiX6 hown hK hP 0 rfl rfl 5 (by decide) (hts (.fieldLink RX6 87 "OptionLatticeModel" "many" "I") (by decide +kernel)) (fun _ h9 => h9) rfl dX6_closes_29 ?_
      refine lv_icmp_ge (tgt := 97) hx hb dX6_closes_32 (by decide) (fun c_ => ?_) (fun c_ => ?_)
      · have h := (if_pos c_).symm.trans h
        refine lv_aload_n hx hb dX6_closes_97 rfl (lv_at hl 0 rfl) ?_
        refine va_get (D := (dC, dI)) (ci := 6) (v := .int many_) (C := RX6) (T := TX6) (N := 29) hx hb hts hiX6 hown hK hP 0 rfl rfl 5 (by decide) (hts (.fieldLink RX6 87 "OptionLatticeModel" "many" "I") (by decide +kernel)) (fun _ h9 => h9) rfl dX6_closes_98 ?_
        have h : some (many_, thrown_, many_, subjectOf_, teacherOf_, seatsOf_, columnOf_) = some (rr, o0, o1, o2, o3, o4, o5) := h
        have z0 := Option.some.inj h
        obtain ⟨rfl, z1⟩ := Prod.mk.inj z0
        obtain ⟨rfl, z2⟩ := Prod.mk.inj z1
        obtain ⟨rfl, z3⟩ := Prod.mk.inj z2
        obtain ⟨rfl, z4⟩ := Prod.mk.inj z3
        obtain ⟨rfl, z5⟩ := Prod.mk.inj z4
        obtain ⟨rfl, z6⟩ := Prod.mk.inj z5
        obtain rfl := z6
        exact hret _ _ _ _ hP hS rfl dX6_closes_101
      · have h := (if_neg c_).symm.trans h
        refine lv_aload_n hx hb dX6_closes_35 rfl (lv_at hl 0 rfl) ?_
        refine va_get (D := (dC, dI)) (ci := 6) (v := .ref h0_subjectOf) (C := RX6) (T := TX6) (N := 29) hx hb hts hiX6 hown hK hP 0 rfl rfl 6 (by decide) (hts (.fieldLink RX6 20 "OptionLatticeModel" "subjectOf" "[I") (by decide +kernel)) (fun _ h9 => h9) rfl dX6_closes_36 ?_
        refine lv_iload_n hx hb dX6_closes_39 rfl (lv_at hl 1 rfl) ?_
        refine lv_aload_n hx hb dX6_closes_40 rfl (lv_at hl 0 rfl) ?_
        refine va_get (D := (dC, dI)) (ci := 6) (v := .ref h0_subjectOf) (C := RX6) (T := TX6) (N := 29) hx hb hts hiX6 hown hK hP 0 rfl rfl 6 (by decide) (hts (.fieldLink RX6 20 "OptionLatticeModel" "subjectOf" "[I") (by decide +kernel)) (fun _ h9 => h9) rfl dX6_closes_41 ?_
        refine lv_iload_n hx hb dX6_closes_44 rfl (lv_at hl 1 rfl) ?_
        refine lv_iconst (v := 1) hx hb dX6_closes_45 (by decide) ?_
        refine lv_iadd hx hb dX6_closes_46 ?_
        obtain ⟨g_, h⟩ := gd_some h
        refine va_iald hx hb hK hP 1 1 rfl rfl (inb_in g_) dX6_closes_47 ?_
        obtain ⟨g_, h⟩ := gd_some h
        refine va_iast hx hb hK hP hD hS 1 1 rfl rfl (inb_in g_) dX6_closes_48 (fun H locs hP hD hS => ?_)
        have hP : va_P (dC, dI) vwCl [(h0, .inr (6, [.int thrown_, .int told_, .ref h0_row, .int columns_, .int rooms_, .int many_, .ref h0_subjectOf, .ref h0_teacherOf, .ref h0_seatsOf, .ref h0_columnOf, .ref h0_barsOf, .int pupils_, .ref h0_choices, .int kept_, .ref h0_tape, .int taped_, .int at_, .int to_, .int digit_, .int number_, .ref h0_was, .ref h0_readChoices, .int readMany_, .ref h0_open, .ref h0_wayOf, .int bestThen_, .ref h0_cure, .ref h0_left, .ref h0_satIn])), (h0_subjectOf, .inl (cyI, 17, .inl (upd subjectOf_ v2.toNatClampNeg (subjectOf_ ((v2 + 1)).toNatClampNeg)))), (h0_teacherOf, .inl (cyI, 17, .inl teacherOf_)), (h0_seatsOf, .inl (cyI, 17, .inl seatsOf_)), (h0_columnOf, .inl (cyI, 17, .inl columnOf_))] H := hP
        have hD : va_D A [(h0, .inr (6, [.int thrown_, .int told_, .ref h0_row, .int columns_, .int rooms_, .int many_, .ref h0_subjectOf, .ref h0_teacherOf, .ref h0_seatsOf, .ref h0_columnOf, .ref h0_barsOf, .int pupils_, .ref h0_choices, .int kept_, .ref h0_tape, .int taped_, .int at_, .int to_, .int digit_, .int number_, .ref h0_was, .ref h0_readChoices, .int readMany_, .ref h0_open, .ref h0_wayOf, .int bestThen_, .ref h0_cure, .ref h0_left, .ref h0_satIn])), (h0_subjectOf, .inl (cyI, 17, .inl (upd subjectOf_ v2.toNatClampNeg (subjectOf_ ((v2 + 1)).toNatClampNeg)))), (h0_teacherOf, .inl (cyI, 17, .inl teacherOf_)), (h0_seatsOf, .inl (cyI, 17, .inl seatsOf_)), (h0_columnOf, .inl (cyI, 17, .inl columnOf_))] := hD
        refine lv_aload_n hx hb dX6_closes_49 rfl (lv_at hl 0 rfl) ?_
        refine va_get (D := (dC, dI)) (ci := 6) (v := .ref h0_teacherOf) (C := RX6) (T := TX6) (N := 29) hx hb hts hiX6 hown hK hP 0 rfl rfl 7 (by decide) (hts (.fieldLink RX6 23 "OptionLatticeModel" "teacherOf" "[I") (by decide +kernel)) (fun _ h9 => h9) rfl dX6_closes_50 ?_
        refine lv_iload_n hx hb dX6_closes_53 rfl (lv_at hl 1 rfl) ?_
        refine lv_aload_n hx hb dX6_closes_54 rfl (lv_at hl 0 rfl) ?_
        refine va_get (D := (dC, dI)) (ci := 6) (v := .ref h0_teacherOf) (C := RX6) (T := TX6) (N := 29) hx hb hts hiX6 hown hK hP 0 rfl rfl 7 (by decide) (hts (.fieldLink RX6 23 "OptionLatticeModel" "teacherOf" "[I") (by decide +kernel)) (fun _ h9 => h9) rfl dX6_closes_55 ?_
        refine lv_iload_n hx hb dX6_closes_58 rfl (lv_at hl 1 rfl) ?_
        refine lv_iconst (v := 1) hx hb dX6_closes_59 (by decide) ?_
        refine lv_iadd hx hb dX6_closes_60 ?_
        obtain ⟨g_, h⟩ := gd_some h
        refine va_iald hx hb hK hP 2 1 rfl rfl (inb_in g_) dX6_closes_61 ?_
        obtain ⟨g_, h⟩ := gd_some h
        refine va_iast hx hb hK hP hD hS 2 1 rfl rfl (inb_in g_) dX6_closes_62 (fun H locs hP hD hS => ?_)
        have hP : va_P (dC, dI) vwCl [(h0, .inr (6, [.int thrown_, .int told_, .ref h0_row, .int columns_, .int rooms_, .int many_, .ref h0_subjectOf, .ref h0_teacherOf, .ref h0_seatsOf, .ref h0_columnOf, .ref h0_barsOf, .int pupils_, .ref h0_choices, .int kept_, .ref h0_tape, .int taped_, .int at_, .int to_, .int digit_, .int number_, .ref h0_was, .ref h0_readChoices, .int readMany_, .ref h0_open, .ref h0_wayOf, .int bestThen_, .ref h0_cure, .ref h0_left, .ref h0_satIn])), (h0_subjectOf, .inl (cyI, 17, .inl (upd subjectOf_ v2.toNatClampNeg (subjectOf_ ((v2 + 1)).toNatClampNeg)))), (h0_teacherOf, .inl (cyI, 17, .inl (upd teacherOf_ v2.toNatClampNeg (teacherOf_ ((v2 + 1)).toNatClampNeg)))), (h0_seatsOf, .inl (cyI, 17, .inl seatsOf_)), (h0_columnOf, .inl (cyI, 17, .inl columnOf_))] H := hP
        have hD : va_D A [(h0, .inr (6, [.int thrown_, .int told_, .ref h0_row, .int columns_, .int rooms_, .int many_, .ref h0_subjectOf, .ref h0_teacherOf, .ref h0_seatsOf, .ref h0_columnOf, .ref h0_barsOf, .int pupils_, .ref h0_choices, .int kept_, .ref h0_tape, .int taped_, .int at_, .int to_, .int digit_, .int number_, .ref h0_was, .ref h0_readChoices, .int readMany_, .ref h0_open, .ref h0_wayOf, .int bestThen_, .ref h0_cure, .ref h0_left, .ref h0_satIn])), (h0_subjectOf, .inl (cyI, 17, .inl (upd subjectOf_ v2.toNatClampNeg (subjectOf_ ((v2 + 1)).toNatClampNeg)))), (h0_teacherOf, .inl (cyI, 17, .inl (upd teacherOf_ v2.toNatClampNeg (teacherOf_ ((v2 + 1)).toNatClampNeg)))), (h0_seatsOf, .inl (cyI, 17, .inl seatsOf_)), (h0_columnOf, .inl (cyI, 17, .inl columnOf_))] := hD
        refine lv_aload_n hx hb dX6_closes_63 rfl (lv_at hl 0 rfl) ?_
        refine va_get (D := (dC, dI)) (ci := 6) (v := .ref h0_seatsOf) (C := RX6) (T := TX6) (N := 29) hx hb hts hiX6 hown hK hP 0 rfl rfl 8 (by decide) (hts (.fieldLink RX6 26 "OptionLatticeModel" "seatsOf" "[I") (by decide +kernel)) (fun _ h9 => h9) rfl dX6_closes_64 ?_
        refine lv_iload_n hx hb dX6_closes_67 rfl (lv_at hl 1 rfl) ?_
        refine lv_aload_n hx hb dX6_closes_68 rfl (lv_at hl 0 rfl) ?_
        refine va_get (D := (dC, dI)) (ci := 6) (v := .ref h0_seatsOf) (C := RX6) (T := TX6) (N := 29) hx hb hts hiX6 hown hK hP 0 rfl rfl 8 (by decide) (hts (.fieldLink RX6 26 "OptionLatticeModel" "seatsOf" "[I") (by decide +kernel)) (fun _ h9 => h9) rfl dX6_closes_69 ?_
        refine lv_iload_n hx hb dX6_closes_72 rfl (lv_at hl 1 rfl) ?_
        refine lv_iconst (v := 1) hx hb dX6_closes_73 (by decide) ?_
        refine lv_iadd hx hb dX6_closes_74 ?_
        obtain ⟨g_, h⟩ := gd_some h
        refine va_iald hx hb hK hP 3 1 rfl rfl (inb_in g_) dX6_closes_75 ?_
        obtain ⟨g_, h⟩ := gd_some h
        refine va_iast hx hb hK hP hD hS 3 1 rfl rfl (inb_in g_) dX6_closes_76 (fun H locs hP hD hS => ?_)
        have hP : va_P (dC, dI) vwCl [(h0, .inr (6, [.int thrown_, .int told_, .ref h0_row, .int columns_, .int rooms_, .int many_, .ref h0_subjectOf, .ref h0_teacherOf, .ref h0_seatsOf, .ref h0_columnOf, .ref h0_barsOf, .int pupils_, .ref h0_choices, .int kept_, .ref h0_tape, .int taped_, .int at_, .int to_, .int digit_, .int number_, .ref h0_was, .ref h0_readChoices, .int readMany_, .ref h0_open, .ref h0_wayOf, .int bestThen_, .ref h0_cure, .ref h0_left, .ref h0_satIn])), (h0_subjectOf, .inl (cyI, 17, .inl (upd subjectOf_ v2.toNatClampNeg (subjectOf_ ((v2 + 1)).toNatClampNeg)))), (h0_teacherOf, .inl (cyI, 17, .inl (upd teacherOf_ v2.toNatClampNeg (teacherOf_ ((v2 + 1)).toNatClampNeg)))), (h0_seatsOf, .inl (cyI, 17, .inl (upd seatsOf_ v2.toNatClampNeg (seatsOf_ ((v2 + 1)).toNatClampNeg)))), (h0_columnOf, .inl (cyI, 17, .inl columnOf_))] H := hP
        have hD : va_D A [(h0, .inr (6, [.int thrown_, .int told_, .ref h0_row, .int columns_, .int rooms_, .int many_, .ref h0_subjectOf, .ref h0_teacherOf, .ref h0_seatsOf, .ref h0_columnOf, .ref h0_barsOf, .int pupils_, .ref h0_choices, .int kept_, .ref h0_tape, .int taped_, .int at_, .int to_, .int digit_, .int number_, .ref h0_was, .ref h0_readChoices, .int readMany_, .ref h0_open, .ref h0_wayOf, .int bestThen_, .ref h0_cure, .ref h0_left, .ref h0_satIn])), (h0_subjectOf, .inl (cyI, 17, .inl (upd subjectOf_ v2.toNatClampNeg (subjectOf_ ((v2 + 1)).toNatClampNeg)))), (h0_teacherOf, .inl (cyI, 17, .inl (upd teacherOf_ v2.toNatClampNeg (teacherOf_ ((v2 + 1)).toNatClampNeg)))), (h0_seatsOf, .inl (cyI, 17, .inl (upd seatsOf_ v2.toNatClampNeg (seatsOf_ ((v2 + 1)).toNatClampNeg)))), (h0_columnOf, .inl (cyI, 17, .inl columnOf_))] := hD
        refine lv_aload_n hx hb dX6_closes_77 rfl (lv_at hl 0 rfl) ?_
        refine va_get (D := (dC, dI)) (ci := 6) (v := .ref h0_columnOf) (C := RX6) (T := TX6) (N := 29) hx hb hts hiX6 hown hK hP 0 rfl rfl 9 (by decide) (hts (.fieldLink RX6 29 "OptionLatticeModel" "columnOf" "[I") (by decide +kernel)) (fun _ h9 => h9) rfl dX6_closes_78 ?_
        refine lv_iload_n hx hb dX6_closes_81 rfl (lv_at hl 1 rfl) ?_
        refine lv_aload_n hx hb dX6_closes_82 rfl (lv_at hl 0 rfl) ?_
        refine va_get (D := (dC, dI)) (ci := 6) (v := .ref h0_columnOf) (C := RX6) (T := TX6) (N := 29) hx hb hts hiX6 hown hK hP 0 rfl rfl 9 (by decide) (hts (.fieldLink RX6 29 "OptionLatticeModel" "columnOf" "[I") (by decide +kernel)) (fun _ h9 => h9) rfl dX6_closes_83 ?_
        refine lv_iload_n hx hb dX6_closes_86 rfl (lv_at hl 1 rfl) ?_
        refine lv_iconst (v := 1) hx hb dX6_closes_87 (by decide) ?_
        refine lv_iadd hx hb dX6_closes_88 ?_
        obtain ⟨g_, h⟩ := gd_some h
        refine va_iald hx hb hK hP 4 1 rfl rfl (inb_in g_) dX6_closes_89 ?_
        obtain ⟨g_, h⟩ := gd_some h
        refine va_iast hx hb hK hP hD hS 4 1 rfl rfl (inb_in g_) dX6_closes_90 (fun H locs hP hD hS => ?_)
        have hP : va_P (dC, dI) vwCl [(h0, .inr (6, [.int thrown_, .int told_, .ref h0_row, .int columns_, .int rooms_, .int many_, .ref h0_subjectOf, .ref h0_teacherOf, .ref h0_seatsOf, .ref h0_columnOf, .ref h0_barsOf, .int pupils_, .ref h0_choices, .int kept_, .ref h0_tape, .int taped_, .int at_, .int to_, .int digit_, .int number_, .ref h0_was, .ref h0_readChoices, .int readMany_, .ref h0_open, .ref h0_wayOf, .int bestThen_, .ref h0_cure, .ref h0_left, .ref h0_satIn])), (h0_subjectOf, .inl (cyI, 17, .inl (upd subjectOf_ v2.toNatClampNeg (subjectOf_ ((v2 + 1)).toNatClampNeg)))), (h0_teacherOf, .inl (cyI, 17, .inl (upd teacherOf_ v2.toNatClampNeg (teacherOf_ ((v2 + 1)).toNatClampNeg)))), (h0_seatsOf, .inl (cyI, 17, .inl (upd seatsOf_ v2.toNatClampNeg (seatsOf_ ((v2 + 1)).toNatClampNeg)))), (h0_columnOf, .inl (cyI, 17, .inl (upd columnOf_ v2.toNatClampNeg (columnOf_ ((v2 + 1)).toNatClampNeg))))] H := hP
        have hD : va_D A [(h0, .inr (6, [.int thrown_, .int told_, .ref h0_row, .int columns_, .int rooms_, .int many_, .ref h0_subjectOf, .ref h0_teacherOf, .ref h0_seatsOf, .ref h0_columnOf, .ref h0_barsOf, .int pupils_, .ref h0_choices, .int kept_, .ref h0_tape, .int taped_, .int at_, .int to_, .int digit_, .int number_, .ref h0_was, .ref h0_readChoices, .int readMany_, .ref h0_open, .ref h0_wayOf, .int bestThen_, .ref h0_cure, .ref h0_left, .ref h0_satIn])), (h0_subjectOf, .inl (cyI, 17, .inl (upd subjectOf_ v2.toNatClampNeg (subjectOf_ ((v2 + 1)).toNatClampNeg)))), (h0_teacherOf, .inl (cyI, 17, .inl (upd teacherOf_ v2.toNatClampNeg (teacherOf_ ((v2 + 1)).toNatClampNeg)))), (h0_seatsOf, .inl (cyI, 17, .inl (upd seatsOf_ v2.toNatClampNeg (seatsOf_ ((v2 + 1)).toNatClampNeg)))), (h0_columnOf, .inl (cyI, 17, .inl (upd columnOf_ v2.toNatClampNeg (columnOf_ ((v2 + 1)).toNatClampNeg))))] := hD
        obtain ⟨v2_1, e_v2_1⟩ : ∃ z : Int32, z = (v2 + 1) := ⟨_, rfl⟩
        have h := lt_use e_v2_1 h
        refine lv_iinc (v := v2_1) (lv' := [(2, .int v2_1), (0, .ref h0)]) hx hb dX6_closes_91 hl (k := 1) rfl (by rw [e_v2_1]; rfl) (by decide) rfl (fun ls hl => ?_)
        refine lv_goto (tgt := 27) hx hb dX6_closes_94 (by decide) ?_
        exact ih27 v2_1 (upd subjectOf_ v2.toNatClampNeg (subjectOf_ ((v2 + 1)).toNatClampNeg)) (upd teacherOf_ v2.toNatClampNeg (teacherOf_ ((v2 + 1)).toNatClampNeg)) (upd seatsOf_ v2.toNatClampNeg (seatsOf_ ((v2 + 1)).toNatClampNeg)) (upd columnOf_ v2.toNatClampNeg (columnOf_ ((v2 + 1)).toNatClampNeg)) h _ _ _ hP hD hS (lv_sub hl [1, 0] rfl)
  unfold m_X6_closes at h
  refine lv_aload_n hx hb dX6_closes_0 rfl (lv_at hl 0 rfl) ?_
  refine lv_iconst (v := 0) hx hb dX6_closes_1 (by decide) ?_
  refine va_put (D := (dC, dI)) (ci := 6) (v := .int 0) (ty := .int) (C := RX6) (T := TX6) (N := 29) hx hb hts hiX6 tyX6 tyX6_ok nmX6 hown hK hP hD hS 0 rfl rfl 0 (by decide) (hts (.fieldLink RX6 62 "OptionLatticeModel" "thrown" "I") (by decide +kernel)) (fun _ h9 => h9) rfl (by decide +kernel) rfl rfl (Nat.le_of_ble_eq_true rfl) dX6_closes_2 (fun H locs hP hD hS => ?_)
  have hP : va_P (dC, dI) vwCl [(h0, .inr (6, [.int 0, .int told_, .ref h0_row, .int columns_, .int rooms_, .int many_, .ref h0_subjectOf, .ref h0_teacherOf, .ref h0_seatsOf, .ref h0_columnOf, .ref h0_barsOf, .int pupils_, .ref h0_choices, .int kept_, .ref h0_tape, .int taped_, .int at_, .int to_, .int digit_, .int number_, .ref h0_was, .ref h0_readChoices, .int readMany_, .ref h0_open, .ref h0_wayOf, .int bestThen_, .ref h0_cure, .ref h0_left, .ref h0_satIn])), (h0_subjectOf, .inl (cyI, 17, .inl subjectOf_)), (h0_teacherOf, .inl (cyI, 17, .inl teacherOf_)), (h0_seatsOf, .inl (cyI, 17, .inl seatsOf_)), (h0_columnOf, .inl (cyI, 17, .inl columnOf_))] H := hP
  have hD : va_D A [(h0, .inr (6, [.int 0, .int told_, .ref h0_row, .int columns_, .int rooms_, .int many_, .ref h0_subjectOf, .ref h0_teacherOf, .ref h0_seatsOf, .ref h0_columnOf, .ref h0_barsOf, .int pupils_, .ref h0_choices, .int kept_, .ref h0_tape, .int taped_, .int at_, .int to_, .int digit_, .int number_, .ref h0_was, .ref h0_readChoices, .int readMany_, .ref h0_open, .ref h0_wayOf, .int bestThen_, .ref h0_cure, .ref h0_left, .ref h0_satIn])), (h0_subjectOf, .inl (cyI, 17, .inl subjectOf_)), (h0_teacherOf, .inl (cyI, 17, .inl teacherOf_)), (h0_seatsOf, .inl (cyI, 17, .inl seatsOf_)), (h0_columnOf, .inl (cyI, 17, .inl columnOf_))] := hD
  refine lv_aload_n hx hb dX6_closes_5 rfl (lv_at hl 0 rfl) ?_
  refine lv_iload_n hx hb dX6_closes_6 rfl (lv_at hl 1 rfl) ?_
  obtain ⟨r_2, hq, h⟩ := bd1_some h
  refine uV_i (b := h0) (As := [.int v1]) (rest := []) ⟨hx, hb, hml, hown, hts⟩ (c_X6_isSection l dC dI cyC cyI cyJ h0 h0_row h0_subjectOf h0_teacherOf h0_seatsOf h0_columnOf h0_barsOf h0_choices h0_tape h0_was h0_readChoices h0_open h0_wayOf h0_cure h0_left h0_satIn 0 told_ columns_ rooms_ many_ pupils_ kept_ taped_ at_ to_ digit_ number_ readMany_ bestThen_ v1 r_2 hq) (cwV 1 hts gX6_closes_X6_isSection rfl rfl rfl (by decide +kernel) ⟨Nat.le_of_ble_eq_true rfl, Nat.le_of_ble_eq_true rfl⟩) hK hE hA hP hD hS [0] rfl rfl rfl 6 0 rfl rfl rfl hl.1 rfl (Nat.le_of_ble_eq_true rfl) ⟨Nat.zero_le _, Nat.zero_le _⟩ dX6_closes_7 (fun H locs hP hD hS => ?_)
  have hP : va_P (dC, dI) vwCl [(h0, .inr (6, [.int 0, .int told_, .ref h0_row, .int columns_, .int rooms_, .int many_, .ref h0_subjectOf, .ref h0_teacherOf, .ref h0_seatsOf, .ref h0_columnOf, .ref h0_barsOf, .int pupils_, .ref h0_choices, .int kept_, .ref h0_tape, .int taped_, .int at_, .int to_, .int digit_, .int number_, .ref h0_was, .ref h0_readChoices, .int readMany_, .ref h0_open, .ref h0_wayOf, .int bestThen_, .ref h0_cure, .ref h0_left, .ref h0_satIn])), (h0_subjectOf, .inl (cyI, 17, .inl subjectOf_)), (h0_teacherOf, .inl (cyI, 17, .inl teacherOf_)), (h0_seatsOf, .inl (cyI, 17, .inl seatsOf_)), (h0_columnOf, .inl (cyI, 17, .inl columnOf_))] H := hP
  have hD : va_D A [(h0, .inr (6, [.int 0, .int told_, .ref h0_row, .int columns_, .int rooms_, .int many_, .ref h0_subjectOf, .ref h0_teacherOf, .ref h0_seatsOf, .ref h0_columnOf, .ref h0_barsOf, .int pupils_, .ref h0_choices, .int kept_, .ref h0_tape, .int taped_, .int at_, .int to_, .int digit_, .int number_, .ref h0_was, .ref h0_readChoices, .int readMany_, .ref h0_open, .ref h0_wayOf, .int bestThen_, .ref h0_cure, .ref h0_left, .ref h0_satIn])), (h0_subjectOf, .inl (cyI, 17, .inl subjectOf_)), (h0_teacherOf, .inl (cyI, 17, .inl teacherOf_)), (h0_seatsOf, .inl (cyI, 17, .inl seatsOf_)), (h0_columnOf, .inl (cyI, 17, .inl columnOf_))] := hD
  refine lv_if_ne (tgt := 15) hx hb dX6_closes_10 (by decide) (fun c_ => ?_) (fun c_ => ?_)
  · have h := (if_neg c_).symm.trans h
    refine lv_aload_n hx hb dX6_closes_15 rfl (lv_at hl 0 rfl) ?_
    refine lv_dup hx hb dX6_closes_16 rfl ?_
    refine va_get (D := (dC, dI)) (ci := 6) (v := .int many_) (C := RX6) (T := TX6) (N := 29) hx hb hts hiX6 hown hK hP 0 rfl rfl 5 (by decide) (hts (.fieldLink RX6 87 "OptionLatticeModel" "many" "I") (by decide +kernel)) (fun _ h9 => h9) rfl dX6_closes_17 ?_
    refine lv_iconst (v := 1) hx hb dX6_closes_20 (by decide) ?_
    refine lv_isub hx hb dX6_closes_21 ?_
    refine lv_topi (fun w_3 e_w_3 => ?_)
    have h := lt_use e_w_3 h
    refine va_put (D := (dC, dI)) (ci := 6) (v := .int w_3) (ty := .int) (C := RX6) (T := TX6) (N := 29) hx hb hts hiX6 tyX6 tyX6_ok nmX6 hown hK hP hD hS 0 rfl rfl 5 (by decide) (hts (.fieldLink RX6 87 "OptionLatticeModel" "many" "I") (by decide +kernel)) (fun _ h9 => h9) rfl (by decide +kernel) rfl rfl (Nat.le_of_ble_eq_true rfl) dX6_closes_22 (fun H locs hP hD hS => ?_)
    have hP : va_P (dC, dI) vwCl [(h0, .inr (6, [.int 0, .int told_, .ref h0_row, .int columns_, .int rooms_, .int w_3, .ref h0_subjectOf, .ref h0_teacherOf, .ref h0_seatsOf, .ref h0_columnOf, .ref h0_barsOf, .int pupils_, .ref h0_choices, .int kept_, .ref h0_tape, .int taped_, .int at_, .int to_, .int digit_, .int number_, .ref h0_was, .ref h0_readChoices, .int readMany_, .ref h0_open, .ref h0_wayOf, .int bestThen_, .ref h0_cure, .ref h0_left, .ref h0_satIn])), (h0_subjectOf, .inl (cyI, 17, .inl subjectOf_)), (h0_teacherOf, .inl (cyI, 17, .inl teacherOf_)), (h0_seatsOf, .inl (cyI, 17, .inl seatsOf_)), (h0_columnOf, .inl (cyI, 17, .inl columnOf_))] H := hP
    have hD : va_D A [(h0, .inr (6, [.int 0, .int told_, .ref h0_row, .int columns_, .int rooms_, .int w_3, .ref h0_subjectOf, .ref h0_teacherOf, .ref h0_seatsOf, .ref h0_columnOf, .ref h0_barsOf, .int pupils_, .ref h0_choices, .int kept_, .ref h0_tape, .int taped_, .int at_, .int to_, .int digit_, .int number_, .ref h0_was, .ref h0_readChoices, .int readMany_, .ref h0_open, .ref h0_wayOf, .int bestThen_, .ref h0_cure, .ref h0_left, .ref h0_satIn])), (h0_subjectOf, .inl (cyI, 17, .inl subjectOf_)), (h0_teacherOf, .inl (cyI, 17, .inl teacherOf_)), (h0_seatsOf, .inl (cyI, 17, .inl seatsOf_)), (h0_columnOf, .inl (cyI, 17, .inl columnOf_))] := hD
    refine lv_iload_n hx hb dX6_closes_25 rfl (lv_at hl 1 rfl) ?_
    refine lv_istore_n (lv' := [(2, .int v1), (0, .ref h0), (1, .int v1)]) hx hb dX6_closes_26 rfl hl (by decide) rfl (fun ls hl => ?_)
    exact L27 0 w_3 1100 v1 subjectOf_ teacherOf_ seatsOf_ columnOf_ h _ _ _ hP hD hS (lv_sub hl [1, 0] rfl)
  · have h := (if_pos c_).symm.trans h
    refine lv_iconst (v := (-1)) hx hb dX6_closes_13 (by decide) ?_
    have h : some ((-1), 0, many_, subjectOf_, teacherOf_, seatsOf_, columnOf_) = some (rr, o0, o1, o2, o3, o4, o5) := h
    have z0 := Option.some.inj h
    obtain ⟨rfl, z1⟩ := Prod.mk.inj z0
    obtain ⟨rfl, z2⟩ := Prod.mk.inj z1
    obtain ⟨rfl, z3⟩ := Prod.mk.inj z2
    obtain ⟨rfl, z4⟩ := Prod.mk.inj z3
    obtain ⟨rfl, z5⟩ := Prod.mk.inj z4
    obtain ⟨rfl, z6⟩ := Prod.mk.inj z5
    obtain rfl := z6
    exact hret _ _ _ _ hP hS rfl dX6_closes_14
