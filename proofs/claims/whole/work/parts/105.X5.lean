def m_X5_pupils_59 (text_size_ : Int32) (text_at_ : Int32) (roll_size_ : Int32) (roll_kept_ : Int32) (roll_choicesOf_ : Nat → Int32) (rollDraft_size_ : Int32) (rollDraft_kept_ : Int32) (rollDraft_choicesOf_ : Nat → Int32) (v2 : Int32) : Option (Int32 × Int32 × Int32 × Int32 × Int32 × (Nat → Int32) × Int32 × Int32 × (Nat → Int32)) :=
  bd1 (m_X3_empty text_size_) (fun text_size_1 => some (v2, text_size_1, text_at_, roll_size_, roll_kept_, roll_choicesOf_, rollDraft_size_, rollDraft_kept_, rollDraft_choicesOf_))
def m_X5_pupils_43 (text_size_ : Int32) (text_at_ : Int32) (roll_size_ : Int32) (roll_kept_ : Int32) (roll_choicesOf_ : Nat → Int32) (rollDraft_size_ : Int32) (rollDraft_kept_ : Int32) (rollDraft_choicesOf_ : Nat → Int32) (v1 : Int32) (t0 : Int32) : Option (Int32 × Int32 × Int32 × Int32 × Int32 × (Nat → Int32) × Int32 × Int32 × (Nat → Int32)) :=
  (if v1 = 0 then m_X5_pupils_59 text_size_ text_at_ roll_size_ roll_kept_ roll_choicesOf_ rollDraft_size_ rollDraft_kept_ rollDraft_choicesOf_ t0 else bd3 (m_X1_become roll_size_ roll_kept_ roll_choicesOf_ rollDraft_size_ rollDraft_kept_ rollDraft_choicesOf_) (fun roll_size_2 roll_kept_3 roll_choicesOf_4 => m_X5_pupils_59 text_size_ text_at_ roll_size_2 roll_kept_3 roll_choicesOf_4 rollDraft_size_ rollDraft_kept_ rollDraft_choicesOf_ t0))
def m_X5_pupils (text_size_ : Int32) (text_at_ : Int32) (text_signs_ : Nat → Int32) (roll_size_ : Int32) (roll_kept_ : Int32) (roll_choicesOf_ : Nat → Int32) (rollDraft_size_ : Int32) (rollDraft_kept_ : Int32) (rollDraft_choicesOf_ : Nat → Int32) : Option (Int32 × Int32 × Int32 × Int32 × Int32 × (Nat → Int32) × Int32 × Int32 × (Nat → Int32)) :=
  bd1 (m_X3_rewind text_at_) (fun text_at_5 => bd5 (m_X1_readFrom rollDraft_size_ rollDraft_kept_ rollDraft_choicesOf_ text_size_ text_at_5 text_signs_) (fun r_6 rollDraft_size_7 rollDraft_kept_8 rollDraft_choicesOf_9 text_at_10 => (if r_6 = 0 then m_X5_pupils_43 text_size_ text_at_10 roll_size_ roll_kept_ roll_choicesOf_ rollDraft_size_7 rollDraft_kept_8 rollDraft_choicesOf_9 r_6 ((-21 : Int32) - text_at_10) else m_X5_pupils_43 text_size_ text_at_10 roll_size_ roll_kept_ roll_choicesOf_ rollDraft_size_7 rollDraft_kept_8 rollDraft_choicesOf_9 r_6 rollDraft_size_7)))
abbrev rmX5_pupils : Room := { frames := 4, cells := 0, slots := 0, locals := 89 }
set_option maxHeartbeats 4000000 in
set_option maxRecDepth 100000 in
theorem c_X5_pupils (l : Launch) (dC : Nat → ClassId) (dI : Nat → Nat → Nat) (cyC cyI cyJ : ClassId) (h0 h0_text h0_text_signs h0_plan h0_planDraft h0_roll h0_roll_choicesOf h0_rollDraft h0_rollDraft_choicesOf h0_wayFinder h0_seating h0_demand h0_told : Nat) (toldCount_ : Int32) (text_size_ : Int32) (text_at_ : Int32) (text_signs_ : Nat → Int32) (roll_size_ : Int32) (roll_kept_ : Int32) (roll_choicesOf_ : Nat → Int32) (rollDraft_size_ : Int32) (rollDraft_kept_ : Int32) (rollDraft_choicesOf_ : Nat → Int32) (rr : Int32) (o0 : Int32) (o1 : Int32) (o2 : Int32) (o3 : Int32) (o4 : Nat → Int32) (o5 : Int32) (o6 : Int32) (o7 : Nat → Int32) (h : m_X5_pupils text_size_ text_at_ text_signs_ roll_size_ roll_kept_ roll_choicesOf_ rollDraft_size_ rollDraft_kept_ rollDraft_choicesOf_ = some (rr, o0, o1, o2, o3, o4, o5, o6, o7)) : uMi l yX5_pupils wsX5_pupils rmX5_pupils (dC, dI) [(cyC, .char), (cyI, .int), (cyJ, .long)] [.ref h0] [(h0, .inr (5, [.ref h0_text, .ref h0_plan, .ref h0_planDraft, .ref h0_roll, .ref h0_rollDraft, .ref h0_wayFinder, .ref h0_seating, .ref h0_demand, .ref h0_told, .int toldCount_])), (h0_text, .inr (3, [.ref h0_text_signs, .int text_size_, .int text_at_])), (h0_text_signs, .inl (cyC, 240, .inl text_signs_)), (h0_roll, .inr (1, [.ref h0_roll_choicesOf, .int roll_size_, .int roll_kept_])), (h0_roll_choicesOf, .inl (cyI, 24, .inl roll_choicesOf_)), (h0_rollDraft, .inr (1, [.ref h0_rollDraft_choicesOf, .int rollDraft_size_, .int rollDraft_kept_])), (h0_rollDraft_choicesOf, .inl (cyI, 24, .inl rollDraft_choicesOf_))] [(h0, .inr (5, [.ref h0_text, .ref h0_plan, .ref h0_planDraft, .ref h0_roll, .ref h0_rollDraft, .ref h0_wayFinder, .ref h0_seating, .ref h0_demand, .ref h0_told, .int toldCount_])), (h0_text, .inr (3, [.ref h0_text_signs, .int o0, .int o1])), (h0_text_signs, .inl (cyC, 240, .inl text_signs_)), (h0_roll, .inr (1, [.ref h0_roll_choicesOf, .int o2, .int o3])), (h0_roll_choicesOf, .inl (cyI, 24, .inl o4)), (h0_rollDraft, .inr (1, [.ref h0_rollDraft_choicesOf, .int o5, .int o6])), (h0_rollDraft_choicesOf, .inl (cyI, 24, .inl o7))] rr := by
  refine uMi.of (cc := cX5_pupils) (maxL := 3) (by decide) rfl (Nat.le_of_ble_eq_true rfl) (fun p e s m args below meth c A ls Q hx hb hml hown hts hA hP hK hD hE hS hl hret => ?_)
  have hown : s.vm.findClass RX5 = some m.cls := hown
  have hl : lv_has ls 3 [(0, .ref h0)] := hl
  have hiX1 : ∀ w ∈ u_ws RX1 TX1 3, w ∈ wsX5_pupils := fun _ h9 => List.mem_cons_of_mem _ (List.mem_append_left _ (List.mem_append_right _ h9))
  have hiX3 : ∀ w ∈ u_ws RX3 TX3 3, w ∈ wsX5_pupils := fun _ h9 => List.mem_cons_of_mem _ (List.mem_append_right _ h9)
  have hiX5 : ∀ w ∈ u_ws RX5 TX5 10, w ∈ wsX5_pupils := fun _ h9 => List.mem_cons_of_mem _ (List.mem_append_left _ (List.mem_append_left _ (List.mem_append_right _ h9)))
  have J59 : ∀ (v2 : Int32), ∀ (text_at_ : Int32), ∀ (roll_size_ : Int32), ∀ (roll_kept_ : Int32), ∀ (roll_choicesOf_ : Nat → Int32), ∀ (rollDraft_size_ : Int32), ∀ (rollDraft_kept_ : Int32), ∀ (rollDraft_choicesOf_ : Nat → Int32), m_X5_pupils_59 text_size_ text_at_ roll_size_ roll_kept_ roll_choicesOf_ rollDraft_size_ rollDraft_kept_ rollDraft_choicesOf_ v2 = some (rr, o0, o1, o2, o3, o4, o5, o6, o7) → ∀ (H : Heap) (locs : List Loc) (ls : Array Slot), va_P (dC, dI) vwCl [(h0, .inr (5, [.ref h0_text, .ref h0_plan, .ref h0_planDraft, .ref h0_roll, .ref h0_rollDraft, .ref h0_wayFinder, .ref h0_seating, .ref h0_demand, .ref h0_told, .int toldCount_])), (h0_text, .inr (3, [.ref h0_text_signs, .int text_size_, .int text_at_])), (h0_text_signs, .inl (cyC, 240, .inl text_signs_)), (h0_roll, .inr (1, [.ref h0_roll_choicesOf, .int roll_size_, .int roll_kept_])), (h0_roll_choicesOf, .inl (cyI, 24, .inl roll_choicesOf_)), (h0_rollDraft, .inr (1, [.ref h0_rollDraft_choicesOf, .int rollDraft_size_, .int rollDraft_kept_])), (h0_rollDraft_choicesOf, .inl (cyI, 24, .inl rollDraft_choicesOf_))] H → va_D A [(h0, .inr (5, [.ref h0_text, .ref h0_plan, .ref h0_planDraft, .ref h0_roll, .ref h0_rollDraft, .ref h0_wayFinder, .ref h0_seating, .ref h0_demand, .ref h0_told, .int toldCount_])), (h0_text, .inr (3, [.ref h0_text_signs, .int text_size_, .int text_at_])), (h0_text_signs, .inl (cyC, 240, .inl text_signs_)), (h0_roll, .inr (1, [.ref h0_roll_choicesOf, .int roll_size_, .int roll_kept_])), (h0_roll_choicesOf, .inl (cyI, 24, .inl roll_choicesOf_)), (h0_rollDraft, .inr (1, [.ref h0_rollDraft_choicesOf, .int rollDraft_size_, .int rollDraft_kept_])), (h0_rollDraft_choicesOf, .inl (cyI, 24, .inl rollDraft_choicesOf_))] → va_S A s.heap H locs → lv_has ls 3 [(0, .ref h0), (2, .int v2)] → W p l e rmX5_pupils s m args below meth c H locs 0 0 Q (F0 m 59 ls []) := by
    intro v2 text_at_ roll_size_ roll_kept_ roll_choicesOf_ rollDraft_size_ rollDraft_kept_ rollDraft_choicesOf_ h H locs ls hP hD hS hl
    unfold m_X5_pupils_59 at h
    refine lv_aload_n hx hb dX5_pupils_59 rfl (lv_at hl 0 rfl) ?_
    refine va_get (D := (dC, dI)) (ci := 5) (v := .ref h0_text) (C := RX5) (T := TX5) (N := 10) hx hb hts hiX5 hown hK hP 0 rfl rfl 0 (by decide) (hts (.fieldLink RX5 10 "OptionLattice" "text" "LOptionLattice$Signs;") (by decide +kernel)) (fun _ h9 => h9) rfl dX5_pupils_60 ?_
    obtain ⟨text_size_1, hq, h⟩ := bd1_some h
    refine uV_v (b := h0_text) (As := []) (rest := []) ⟨hx, hb, hml, hown, hts⟩ (c_X3_empty l dC dI cyC cyI cyJ h0_text h0_text_signs text_size_ text_at_ text_size_1 hq) (cwV 0 hts gX5_pupils_X3_empty rfl rfl rfl (by decide +kernel) ⟨Nat.le_of_ble_eq_true rfl, Nat.le_of_ble_eq_true rfl⟩) hK hE hA hP hD hS [1] rfl rfl rfl 3 0 rfl rfl rfl hl.1 rfl (Nat.le_of_ble_eq_true rfl) ⟨Nat.zero_le _, Nat.zero_le _⟩ dX5_pupils_63 (fun H locs hP hD hS => ?_)
    have hP : va_P (dC, dI) vwCl [(h0, .inr (5, [.ref h0_text, .ref h0_plan, .ref h0_planDraft, .ref h0_roll, .ref h0_rollDraft, .ref h0_wayFinder, .ref h0_seating, .ref h0_demand, .ref h0_told, .int toldCount_])), (h0_text, .inr (3, [.ref h0_text_signs, .int text_size_1, .int text_at_])), (h0_text_signs, .inl (cyC, 240, .inl text_signs_)), (h0_roll, .inr (1, [.ref h0_roll_choicesOf, .int roll_size_, .int roll_kept_])), (h0_roll_choicesOf, .inl (cyI, 24, .inl roll_choicesOf_)), (h0_rollDraft, .inr (1, [.ref h0_rollDraft_choicesOf, .int rollDraft_size_, .int rollDraft_kept_])), (h0_rollDraft_choicesOf, .inl (cyI, 24, .inl rollDraft_choicesOf_))] H := hP
    have hD : va_D A [(h0, .inr (5, [.ref h0_text, .ref h0_plan, .ref h0_planDraft, .ref h0_roll, .ref h0_rollDraft, .ref h0_wayFinder, .ref h0_seating, .ref h0_demand, .ref h0_told, .int toldCount_])), (h0_text, .inr (3, [.ref h0_text_signs, .int text_size_1, .int text_at_])), (h0_text_signs, .inl (cyC, 240, .inl text_signs_)), (h0_roll, .inr (1, [.ref h0_roll_choicesOf, .int roll_size_, .int roll_kept_])), (h0_roll_choicesOf, .inl (cyI, 24, .inl roll_choicesOf_)), (h0_rollDraft, .inr (1, [.ref h0_rollDraft_choicesOf, .int rollDraft_size_, .int rollDraft_kept_])), (h0_rollDraft_choicesOf, .inl (cyI, 24, .inl rollDraft_choicesOf_))] := hD
    refine lv_iload_n hx hb dX5_pupils_66 rfl (lv_at hl 1 rfl) ?_
    have h : some (v2, text_size_1, text_at_, roll_size_, roll_kept_, roll_choicesOf_, rollDraft_size_, rollDraft_kept_, rollDraft_choicesOf_) = some (rr, o0, o1, o2, o3, o4, o5, o6, o7) := h
    have z0 := Option.some.inj h
    obtain ⟨rfl, z1⟩ := Prod.mk.inj z0
    obtain ⟨rfl, z2⟩ := Prod.mk.inj z1
    obtain ⟨rfl, z3⟩ := Prod.mk.inj z2
    obtain ⟨rfl, z4⟩ := Prod.mk.inj z3
    obtain ⟨rfl, z5⟩ := Prod.mk.inj z4
    obtain ⟨rfl, z6⟩ := Prod.mk.inj z5
    obtain ⟨rfl, z7⟩ := Prod.mk.inj z6
    obtain ⟨rfl, z8⟩ := Prod.mk.inj z7
    obtain rfl := z8
    exact hret _ _ _ _ hP hS rfl dX5_pupils_67
  have J43 : ∀ (v1 : Int32), ∀ (t0 : Int32), ∀ (text_at_ : Int32), ∀ (rollDraft_size_ : Int32), ∀ (rollDraft_kept_ : Int32), ∀ (rollDraft_choicesOf_ : Nat → Int32), m_X5_pupils_43 text_size_ text_at_ roll_size_ roll_kept_ roll_choicesOf_ rollDraft_size_ rollDraft_kept_ rollDraft_choicesOf_ v1 t0 = some (rr, o0, o1, o2, o3, o4, o5, o6, o7) → ∀ (H : Heap) (locs : List Loc) (ls : Array Slot), va_P (dC, dI) vwCl [(h0, .inr (5, [.ref h0_text, .ref h0_plan, .ref h0_planDraft, .ref h0_roll, .ref h0_rollDraft, .ref h0_wayFinder, .ref h0_seating, .ref h0_demand, .ref h0_told, .int toldCount_])), (h0_text, .inr (3, [.ref h0_text_signs, .int text_size_, .int text_at_])), (h0_text_signs, .inl (cyC, 240, .inl text_signs_)), (h0_roll, .inr (1, [.ref h0_roll_choicesOf, .int roll_size_, .int roll_kept_])), (h0_roll_choicesOf, .inl (cyI, 24, .inl roll_choicesOf_)), (h0_rollDraft, .inr (1, [.ref h0_rollDraft_choicesOf, .int rollDraft_size_, .int rollDraft_kept_])), (h0_rollDraft_choicesOf, .inl (cyI, 24, .inl rollDraft_choicesOf_))] H → va_D A [(h0, .inr (5, [.ref h0_text, .ref h0_plan, .ref h0_planDraft, .ref h0_roll, .ref h0_rollDraft, .ref h0_wayFinder, .ref h0_seating, .ref h0_demand, .ref h0_told, .int toldCount_])), (h0_text, .inr (3, [.ref h0_text_signs, .int text_size_, .int text_at_])), (h0_text_signs, .inl (cyC, 240, .inl text_signs_)), (h0_roll, .inr (1, [.ref h0_roll_choicesOf, .int roll_size_, .int roll_kept_])), (h0_roll_choicesOf, .inl (cyI, 24, .inl roll_choicesOf_)), (h0_rollDraft, .inr (1, [.ref h0_rollDraft_choicesOf, .int rollDraft_size_, .int rollDraft_kept_])), (h0_rollDraft_choicesOf, .inl (cyI, 24, .inl rollDraft_choicesOf_))] → va_S A s.heap H locs → lv_has ls 3 [(0, .ref h0), (1, .int v1)] → W p l e rmX5_pupils s m args below meth c H locs 0 0 Q (F0 m 43 ls [.int t0]) := by
    intro v1 t0 text_at_ rollDraft_size_ rollDraft_kept_ rollDraft_choicesOf_ h H locs ls hP hD hS hl
    unfold m_X5_pupils_43 at h
    refine lv_istore_n (lv' := [(2, .int t0), (0, .ref h0), (1, .int v1)]) hx hb dX5_pupils_43 rfl hl (by decide) rfl (fun ls hl => ?_)
    refine lv_iload_n hx hb dX5_pupils_44 rfl (lv_at hl 2 rfl) ?_
    refine lv_if_eq (tgt := 59) hx hb dX5_pupils_45 (by decide) (fun c_ => ?_) (fun c_ => ?_)
    · have h := (if_pos c_).symm.trans h
      exact J59 t0 text_at_ roll_size_ roll_kept_ roll_choicesOf_ rollDraft_size_ rollDraft_kept_ rollDraft_choicesOf_ h _ _ _ hP hD hS (lv_sub hl [1, 0] rfl)
    · have h := (if_neg c_).symm.trans h
      refine lv_aload_n hx hb dX5_pupils_48 rfl (lv_at hl 1 rfl) ?_
      refine va_get (D := (dC, dI)) (ci := 5) (v := .ref h0_roll) (C := RX5) (T := TX5) (N := 10) hx hb hts hiX5 hown hK hP 0 rfl rfl 3 (by decide) (hts (.fieldLink RX5 29 "OptionLattice" "roll" "LOptionLattice$Roll;") (by decide +kernel)) (fun _ h9 => h9) rfl dX5_pupils_49 ?_
      refine lv_aload_n hx hb dX5_pupils_52 rfl (lv_at hl 1 rfl) ?_
      refine va_get (D := (dC, dI)) (ci := 5) (v := .ref h0_rollDraft) (C := RX5) (T := TX5) (N := 10) hx hb hts hiX5 hown hK hP 0 rfl rfl 4 (by decide) (hts (.fieldLink RX5 33 "OptionLattice" "rollDraft" "LOptionLattice$Roll;") (by decide +kernel)) (fun _ h9 => h9) rfl dX5_pupils_53 ?_
      obtain ⟨roll_size_2, roll_kept_3, roll_choicesOf_4, hq, h⟩ := bd3_some h
      refine uV_v (b := h0_roll) (As := [.ref h0_rollDraft]) (rest := []) ⟨hx, hb, hml, hown, hts⟩ (c_X1_become l dC dI cyC cyI cyJ h0_roll h0_roll_choicesOf h0_rollDraft h0_rollDraft_choicesOf roll_size_ roll_kept_ roll_choicesOf_ rollDraft_size_ rollDraft_kept_ rollDraft_choicesOf_ roll_size_2 roll_kept_3 roll_choicesOf_4 hq) (cwV 1 hts gX5_pupils_X1_become rfl rfl rfl (by decide +kernel) ⟨Nat.le_of_ble_eq_true rfl, Nat.le_of_ble_eq_true rfl⟩) hK hE hA hP hD hS [3, 4, 5, 6] rfl rfl rfl 1 0 rfl rfl rfl hl.1 rfl (Nat.le_of_ble_eq_true rfl) ⟨Nat.zero_le _, Nat.zero_le _⟩ dX5_pupils_56 (fun H locs hP hD hS => ?_)
      have hP : va_P (dC, dI) vwCl [(h0, .inr (5, [.ref h0_text, .ref h0_plan, .ref h0_planDraft, .ref h0_roll, .ref h0_rollDraft, .ref h0_wayFinder, .ref h0_seating, .ref h0_demand, .ref h0_told, .int toldCount_])), (h0_text, .inr (3, [.ref h0_text_signs, .int text_size_, .int text_at_])), (h0_text_signs, .inl (cyC, 240, .inl text_signs_)), (h0_roll, .inr (1, [.ref h0_roll_choicesOf, .int roll_size_2, .int roll_kept_3])), (h0_roll_choicesOf, .inl (cyI, 24, .inl roll_choicesOf_4)), (h0_rollDraft, .inr (1, [.ref h0_rollDraft_choicesOf, .int rollDraft_size_, .int rollDraft_kept_])), (h0_rollDraft_choicesOf, .inl (cyI, 24, .inl rollDraft_choicesOf_))] H := hP
      have hD : va_D A [(h0, .inr (5, [.ref h0_text, .ref h0_plan, .ref h0_planDraft, .ref h0_roll, .ref h0_rollDraft, .ref h0_wayFinder, .ref h0_seating, .ref h0_demand, .ref h0_told, .int toldCount_])), (h0_text, .inr (3, [.ref h0_text_signs, .int text_size_, .int text_at_])), (h0_text_signs, .inl (cyC, 240, .inl text_signs_)), (h0_roll, .inr (1, [.ref h0_roll_choicesOf, .int roll_size_2, .int roll_kept_3])), (h0_roll_choicesOf, .inl (cyI, 24, .inl roll_choicesOf_4)), (h0_rollDraft, .inr (1, [.ref h0_rollDraft_choicesOf, .int rollDraft_size_, .int rollDraft_kept_])), (h0_rollDraft_choicesOf, .inl (cyI, 24, .inl rollDraft_choicesOf_))] := hD
      exact J59 t0 text_at_ roll_size_2 roll_kept_3 roll_choicesOf_4 rollDraft_size_ rollDraft_kept_ rollDraft_choicesOf_ h _ _ _ hP hD hS (lv_sub hl [1, 0] rfl)
  unfold m_X5_pupils at h
  refine lv_aload_n hx hb dX5_pupils_0 rfl (lv_at hl 0 rfl) ?_
  refine va_get (D := (dC, dI)) (ci := 5) (v := .ref h0_text) (C := RX5) (T := TX5) (N := 10) hx hb hts hiX5 hown hK hP 0 rfl rfl 0 (by decide) (hts (.fieldLink RX5 10 "OptionLattice" "text" "LOptionLattice$Signs;") (by decide +kernel)) (fun _ h9 => h9) rfl dX5_pupils_1 ?_
  obtain ⟨text_at_5, hq, h⟩ := bd1_some h
  refine uV_v (b := h0_text) (As := []) (rest := []) ⟨hx, hb, hml, hown, hts⟩ (c_X3_rewind l dC dI cyC cyI cyJ h0_text h0_text_signs text_size_ text_at_ text_at_5 hq) (cwV 0 hts gX5_pupils_X3_rewind rfl rfl rfl (by decide +kernel) ⟨Nat.le_of_ble_eq_true rfl, Nat.le_of_ble_eq_true rfl⟩) hK hE hA hP hD hS [1] rfl rfl rfl 3 0 rfl rfl rfl hl.1 rfl (Nat.le_of_ble_eq_true rfl) ⟨Nat.zero_le _, Nat.zero_le _⟩ dX5_pupils_4 (fun H locs hP hD hS => ?_)
  have hP : va_P (dC, dI) vwCl [(h0, .inr (5, [.ref h0_text, .ref h0_plan, .ref h0_planDraft, .ref h0_roll, .ref h0_rollDraft, .ref h0_wayFinder, .ref h0_seating, .ref h0_demand, .ref h0_told, .int toldCount_])), (h0_text, .inr (3, [.ref h0_text_signs, .int text_size_, .int text_at_5])), (h0_text_signs, .inl (cyC, 240, .inl text_signs_)), (h0_roll, .inr (1, [.ref h0_roll_choicesOf, .int roll_size_, .int roll_kept_])), (h0_roll_choicesOf, .inl (cyI, 24, .inl roll_choicesOf_)), (h0_rollDraft, .inr (1, [.ref h0_rollDraft_choicesOf, .int rollDraft_size_, .int rollDraft_kept_])), (h0_rollDraft_choicesOf, .inl (cyI, 24, .inl rollDraft_choicesOf_))] H := hP
  have hD : va_D A [(h0, .inr (5, [.ref h0_text, .ref h0_plan, .ref h0_planDraft, .ref h0_roll, .ref h0_rollDraft, .ref h0_wayFinder, .ref h0_seating, .ref h0_demand, .ref h0_told, .int toldCount_])), (h0_text, .inr (3, [.ref h0_text_signs, .int text_size_, .int text_at_5])), (h0_text_signs, .inl (cyC, 240, .inl text_signs_)), (h0_roll, .inr (1, [.ref h0_roll_choicesOf, .int roll_size_, .int roll_kept_])), (h0_roll_choicesOf, .inl (cyI, 24, .inl roll_choicesOf_)), (h0_rollDraft, .inr (1, [.ref h0_rollDraft_choicesOf, .int rollDraft_size_, .int rollDraft_kept_])), (h0_rollDraft_choicesOf, .inl (cyI, 24, .inl rollDraft_choicesOf_))] := hD
  refine lv_aload_n hx hb dX5_pupils_7 rfl (lv_at hl 0 rfl) ?_
  refine va_get (D := (dC, dI)) (ci := 5) (v := .ref h0_rollDraft) (C := RX5) (T := TX5) (N := 10) hx hb hts hiX5 hown hK hP 0 rfl rfl 4 (by decide) (hts (.fieldLink RX5 33 "OptionLattice" "rollDraft" "LOptionLattice$Roll;") (by decide +kernel)) (fun _ h9 => h9) rfl dX5_pupils_8 ?_
  refine lv_aload_n hx hb dX5_pupils_11 rfl (lv_at hl 0 rfl) ?_
  refine va_get (D := (dC, dI)) (ci := 5) (v := .ref h0_text) (C := RX5) (T := TX5) (N := 10) hx hb hts hiX5 hown hK hP 0 rfl rfl 0 (by decide) (hts (.fieldLink RX5 10 "OptionLattice" "text" "LOptionLattice$Signs;") (by decide +kernel)) (fun _ h9 => h9) rfl dX5_pupils_12 ?_
  obtain ⟨r_6, rollDraft_size_7, rollDraft_kept_8, rollDraft_choicesOf_9, text_at_10, hq, h⟩ := bd5_some h
  refine uV_i (b := h0_rollDraft) (As := [.ref h0_text]) (rest := []) ⟨hx, hb, hml, hown, hts⟩ (c_X1_readFrom l dC dI cyC cyI cyJ h0_rollDraft h0_rollDraft_choicesOf h0_text h0_text_signs rollDraft_size_ rollDraft_kept_ rollDraft_choicesOf_ text_size_ text_at_5 text_signs_ r_6 rollDraft_size_7 rollDraft_kept_8 rollDraft_choicesOf_9 text_at_10 hq) (cwV 1 hts gX5_pupils_X1_readFrom rfl rfl rfl (by decide +kernel) ⟨Nat.le_of_ble_eq_true rfl, Nat.le_of_ble_eq_true rfl⟩) hK hE hA hP hD hS [5, 6, 1, 2] rfl rfl rfl 1 0 rfl rfl rfl hl.1 rfl (Nat.le_of_ble_eq_true rfl) ⟨Nat.zero_le _, Nat.zero_le _⟩ dX5_pupils_15 (fun H locs hP hD hS => ?_)
  have hP : va_P (dC, dI) vwCl [(h0, .inr (5, [.ref h0_text, .ref h0_plan, .ref h0_planDraft, .ref h0_roll, .ref h0_rollDraft, .ref h0_wayFinder, .ref h0_seating, .ref h0_demand, .ref h0_told, .int toldCount_])), (h0_text, .inr (3, [.ref h0_text_signs, .int text_size_, .int text_at_10])), (h0_text_signs, .inl (cyC, 240, .inl text_signs_)), (h0_roll, .inr (1, [.ref h0_roll_choicesOf, .int roll_size_, .int roll_kept_])), (h0_roll_choicesOf, .inl (cyI, 24, .inl roll_choicesOf_)), (h0_rollDraft, .inr (1, [.ref h0_rollDraft_choicesOf, .int rollDraft_size_7, .int rollDraft_kept_8])), (h0_rollDraft_choicesOf, .inl (cyI, 24, .inl rollDraft_choicesOf_9))] H := hP
  have hD : va_D A [(h0, .inr (5, [.ref h0_text, .ref h0_plan, .ref h0_planDraft, .ref h0_roll, .ref h0_rollDraft, .ref h0_wayFinder, .ref h0_seating, .ref h0_demand, .ref h0_told, .int toldCount_])), (h0_text, .inr (3, [.ref h0_text_signs, .int text_size_, .int text_at_10])), (h0_text_signs, .inl (cyC, 240, .inl text_signs_)), (h0_roll, .inr (1, [.ref h0_roll_choicesOf, .int roll_size_, .int roll_kept_])), (h0_roll_choicesOf, .inl (cyI, 24, .inl roll_choicesOf_)), (h0_rollDraft, .inr (1, [.ref h0_rollDraft_choicesOf, .int rollDraft_size_7, .int rollDraft_kept_8])), (h0_rollDraft_choicesOf, .inl (cyI, 24, .inl rollDraft_choicesOf_9))] := hD
  refine lv_istore_n (lv' := [(1, .int r_6), (0, .ref h0)]) hx hb dX5_pupils_18 rfl hl (by decide) rfl (fun ls hl => ?_)
  refine lv_iload_n hx hb dX5_pupils_19 rfl (lv_at hl 0 rfl) ?_
  refine lv_if_eq (tgt := 33) hx hb dX5_pupils_20 (by decide) (fun c_ => ?_) (fun c_ => ?_)
  · have h := (if_pos c_).symm.trans h
    refine lv_bipush (v := (-21)) hx hb dX5_pupils_33 (by decide) ?_
    refine lv_aload_n hx hb dX5_pupils_35 rfl (lv_at hl 1 rfl) ?_
    refine va_get (D := (dC, dI)) (ci := 5) (v := .ref h0_text) (C := RX5) (T := TX5) (N := 10) hx hb hts hiX5 hown hK hP 0 rfl rfl 0 (by decide) (hts (.fieldLink RX5 10 "OptionLattice" "text" "LOptionLattice$Signs;") (by decide +kernel)) (fun _ h9 => h9) rfl dX5_pupils_36 ?_
    refine va_getN (host := "OptionLattice") (D := (dC, dI)) (ci := 3) (v := .int text_at_10) (C := RX3) (T := TX3) (N := 3) hx hb hts hiX3 hown hK hP 1 rfl rfl 2 (by decide) (va_Nw.use rfl (hE.1 ("OptionLattice", 80, "OptionLattice$Signs", "at", "I") (List.mem_of_getElem? (i := 1) rfl))) (fun _ h9 => h9) rfl dX5_pupils_39 ?_
    refine lv_isub hx hb dX5_pupils_42 ?_
    exact J43 r_6 ((-21 : Int32) - text_at_10) text_at_10 rollDraft_size_7 rollDraft_kept_8 rollDraft_choicesOf_9 h _ _ _ hP hD hS (lv_sub hl [1, 0] rfl)
  · have h := (if_neg c_).symm.trans h
    refine lv_aload_n hx hb dX5_pupils_23 rfl (lv_at hl 1 rfl) ?_
    refine va_get (D := (dC, dI)) (ci := 5) (v := .ref h0_rollDraft) (C := RX5) (T := TX5) (N := 10) hx hb hts hiX5 hown hK hP 0 rfl rfl 4 (by decide) (hts (.fieldLink RX5 33 "OptionLattice" "rollDraft" "LOptionLattice$Roll;") (by decide +kernel)) (fun _ h9 => h9) rfl dX5_pupils_24 ?_
    refine va_getN (host := "OptionLattice") (D := (dC, dI)) (ci := 1) (v := .int rollDraft_size_7) (C := RX1) (T := TX1) (N := 3) hx hb hts hiX1 hown hK hP 5 rfl rfl 1 (by decide) (va_Nw.use rfl (hE.1 ("OptionLattice", 92, "OptionLattice$Roll", "size", "I") (List.mem_of_getElem? (i := 19) rfl))) (fun _ h9 => h9) rfl dX5_pupils_27 ?_
    refine lv_goto (tgt := 43) hx hb dX5_pupils_30 (by decide) ?_
    exact J43 r_6 rollDraft_size_7 text_at_10 rollDraft_size_7 rollDraft_kept_8 rollDraft_choicesOf_9 h _ _ _ hP hD hS (lv_sub hl [1, 0] rfl)

def m_X5_isSubject (v0 : Int32) : Option (Int32) :=
  (if v0 < 0 then some 0 else (if 10 ≤ v0 then some 0 else some 1))
abbrev rmX5_isSubject : Room := { frames := 0, cells := 0, slots := 0, locals := 0 }
set_option maxHeartbeats 4000000 in
set_option maxRecDepth 100000 in
theorem c_X5_isSubject (l : Launch) (dC : Nat → ClassId) (dI : Nat → Nat → Nat) (cyC cyI cyJ : ClassId) (v0 : Int32) (rr : Int32) (h : m_X5_isSubject v0 = some rr) : uMi l yX5_isSubject wsX5_isSubject rmX5_isSubject (dC, dI) [(cyC, .char), (cyI, .int), (cyJ, .long)] [.int v0] [] [] rr := by
  refine uMi.of (cc := cX5_isSubject) (maxL := 1) (by decide) rfl (Nat.le_of_ble_eq_true rfl) (fun p e s m args below meth c A ls Q hx hb hml hown hts hA hP hK hD hE hS hl hret => ?_)
  have hown : s.vm.findClass RX5 = some m.cls := hown
  have hl : lv_has ls 1 [(0, .int v0)] := hl
  unfold m_X5_isSubject at h
  refine lv_iload_n hx hb dX5_isSubject_0 rfl (lv_at hl 0 rfl) ?_
  refine lv_if_lt (tgt := 14) hx hb dX5_isSubject_1 (by decide) (fun c_ => ?_) (fun c_ => ?_)
  · have h := (if_pos c_).symm.trans h
    refine lv_iconst (v := 0) hx hb dX5_isSubject_14 (by decide) ?_
    have h : some 0 = some rr := h
    have z0 := Option.some.inj h
    obtain rfl := z0
    exact hret _ _ _ _ hP hS rfl dX5_isSubject_15
  · have h := (if_neg c_).symm.trans h
    refine lv_iload_n hx hb dX5_isSubject_4 rfl (lv_at hl 0 rfl) ?_
    refine lv_bipush (v := 10) hx hb dX5_isSubject_5 (by decide) ?_
    refine lv_icmp_ge (tgt := 14) hx hb dX5_isSubject_7 (by decide) (fun c_ => ?_) (fun c_ => ?_)
    · have h := (if_pos c_).symm.trans h
      refine lv_iconst (v := 0) hx hb dX5_isSubject_14 (by decide) ?_
      have h : some 0 = some rr := h
      have z0 := Option.some.inj h
      obtain rfl := z0
      exact hret _ _ _ _ hP hS rfl dX5_isSubject_15
    · have h := (if_neg c_).symm.trans h
      refine lv_iconst (v := 1) hx hb dX5_isSubject_10 (by decide) ?_
      refine lv_goto (tgt := 15) hx hb dX5_isSubject_11 (by decide) ?_
      have h : some 1 = some rr := h
      have z0 := Option.some.inj h
      obtain rfl := z0
      exact hret _ _ _ _ hP hS rfl dX5_isSubject_15

def m_X5_isTeacher (v0 : Int32) : Option (Int32) :=
  (if v0 < 0 then some 0 else (if 10 ≤ v0 then some 0 else some 1))
abbrev rmX5_isTeacher : Room := { frames := 0, cells := 0, slots := 0, locals := 0 }
set_option maxHeartbeats 4000000 in
set_option maxRecDepth 100000 in
theorem c_X5_isTeacher (l : Launch) (dC : Nat → ClassId) (dI : Nat → Nat → Nat) (cyC cyI cyJ : ClassId) (v0 : Int32) (rr : Int32) (h : m_X5_isTeacher v0 = some rr) : uMi l yX5_isTeacher wsX5_isTeacher rmX5_isTeacher (dC, dI) [(cyC, .char), (cyI, .int), (cyJ, .long)] [.int v0] [] [] rr := by
  refine uMi.of (cc := cX5_isTeacher) (maxL := 1) (by decide) rfl (Nat.le_of_ble_eq_true rfl) (fun p e s m args below meth c A ls Q hx hb hml hown hts hA hP hK hD hE hS hl hret => ?_)
  have hown : s.vm.findClass RX5 = some m.cls := hown
  have hl : lv_has ls 1 [(0, .int v0)] := hl
  unfold m_X5_isTeacher at h
  refine lv_iload_n hx hb dX5_isTeacher_0 rfl (lv_at hl 0 rfl) ?_
  refine lv_if_lt (tgt := 14) hx hb dX5_isTeacher_1 (by decide) (fun c_ => ?_) (fun c_ => ?_)
  · have h := (if_pos c_).symm.trans h
    refine lv_iconst (v := 0) hx hb dX5_isTeacher_14 (by decide) ?_
    have h : some 0 = some rr := h
    have z0 := Option.some.inj h
    obtain rfl := z0
    exact hret _ _ _ _ hP hS rfl dX5_isTeacher_15
  · have h := (if_neg c_).symm.trans h
    refine lv_iload_n hx hb dX5_isTeacher_4 rfl (lv_at hl 0 rfl) ?_
    refine lv_bipush (v := 10) hx hb dX5_isTeacher_5 (by decide) ?_
    refine lv_icmp_ge (tgt := 14) hx hb dX5_isTeacher_7 (by decide) (fun c_ => ?_) (fun c_ => ?_)
    · have h := (if_pos c_).symm.trans h
      refine lv_iconst (v := 0) hx hb dX5_isTeacher_14 (by decide) ?_
      have h : some 0 = some rr := h
      have z0 := Option.some.inj h
      obtain rfl := z0
      exact hret _ _ _ _ hP hS rfl dX5_isTeacher_15
    · have h := (if_neg c_).symm.trans h
      refine lv_iconst (v := 1) hx hb dX5_isTeacher_10 (by decide) ?_
      refine lv_goto (tgt := 15) hx hb dX5_isTeacher_11 (by decide) ?_
      have h : some 1 = some rr := h
      have z0 := Option.some.inj h
      obtain rfl := z0
      exact hret _ _ _ _ hP hS rfl dX5_isTeacher_15

def m_X5_areSeats (v0 : Int32) : Option (Int32) :=
  (if v0 < 1 then some 0 else (if 30 < v0 then some 0 else some 1))
abbrev rmX5_areSeats : Room := { frames := 0, cells := 0, slots := 0, locals := 0 }
set_option maxHeartbeats 4000000 in
set_option maxRecDepth 100000 in
theorem c_X5_areSeats (l : Launch) (dC : Nat → ClassId) (dI : Nat → Nat → Nat) (cyC cyI cyJ : ClassId) (v0 : Int32) (rr : Int32) (h : m_X5_areSeats v0 = some rr) : uMi l yX5_areSeats wsX5_areSeats rmX5_areSeats (dC, dI) [(cyC, .char), (cyI, .int), (cyJ, .long)] [.int v0] [] [] rr := by
  refine uMi.of (cc := cX5_areSeats) (maxL := 1) (by decide) rfl (Nat.le_of_ble_eq_true rfl) (fun p e s m args below meth c A ls Q hx hb hml hown hts hA hP hK hD hE hS hl hret => ?_)
  have hown : s.vm.findClass RX5 = some m.cls := hown
  have hl : lv_has ls 1 [(0, .int v0)] := hl
  unfold m_X5_areSeats at h
  refine lv_iload_n hx hb dX5_areSeats_0 rfl (lv_at hl 0 rfl) ?_
  refine lv_iconst (v := 1) hx hb dX5_areSeats_1 (by decide) ?_
  refine lv_icmp_lt (tgt := 15) hx hb dX5_areSeats_2 (by decide) (fun c_ => ?_) (fun c_ => ?_)
  · have h := (if_pos c_).symm.trans h
    refine lv_iconst (v := 0) hx hb dX5_areSeats_15 (by decide) ?_
    have h : some 0 = some rr := h
    have z0 := Option.some.inj h
    obtain rfl := z0
    exact hret _ _ _ _ hP hS rfl dX5_areSeats_16
  · have h := (if_neg c_).symm.trans h
    refine lv_iload_n hx hb dX5_areSeats_5 rfl (lv_at hl 0 rfl) ?_
    refine lv_bipush (v := 30) hx hb dX5_areSeats_6 (by decide) ?_
    refine lv_icmp_gt (tgt := 15) hx hb dX5_areSeats_8 (by decide) (fun c_ => ?_) (fun c_ => ?_)
    · have h := (if_pos c_).symm.trans h
      refine lv_iconst (v := 0) hx hb dX5_areSeats_15 (by decide) ?_
      have h : some 0 = some rr := h
      have z0 := Option.some.inj h
      obtain rfl := z0
      exact hret _ _ _ _ hP hS rfl dX5_areSeats_16
    · have h := (if_neg c_).symm.trans h
      refine lv_iconst (v := 1) hx hb dX5_areSeats_11 (by decide) ?_
      refine lv_goto (tgt := 16) hx hb dX5_areSeats_12 (by decide) ?_
      have h : some 1 = some rr := h
      have z0 := Option.some.inj h
      obtain rfl := z0
      exact hret _ _ _ _ hP hS rfl dX5_areSeats_16

def m_X5_opens (plan_size_ : Int32) (plan_subjectOf_ : Nat → Int32) (plan_teacherOf_ : Nat → Int32) (plan_seatsOf_ : Nat → Int32) (plan_columnOf_ : Nat → Int32) (plan_columnsWith_ : Nat → Int32) (v1 : Int32) (v2 : Int32) (v3 : Int32) : Option (Int32 × Int32 × (Nat → Int32) × (Nat → Int32) × (Nat → Int32) × (Nat → Int32) × (Nat → Int32)) :=
  bd1 (m_X5_isSubject v1) (fun r_1 => (if r_1 = 0 then some ((-1), plan_size_, plan_subjectOf_, plan_teacherOf_, plan_seatsOf_, plan_columnOf_, plan_columnsWith_) else bd1 (m_X5_isTeacher v2) (fun r_2 => (if r_2 = 0 then some ((-1), plan_size_, plan_subjectOf_, plan_teacherOf_, plan_seatsOf_, plan_columnOf_, plan_columnsWith_) else bd1 (m_X5_areSeats v3) (fun r_3 => (if r_3 = 0 then some ((-1), plan_size_, plan_subjectOf_, plan_teacherOf_, plan_seatsOf_, plan_columnOf_, plan_columnsWith_) else (if plan_size_ < 16 then bd6 (m_X0_add plan_size_ plan_subjectOf_ plan_teacherOf_ plan_seatsOf_ plan_columnOf_ plan_columnsWith_ v1 v2 v3 (-1)) (fun plan_size_4 plan_subjectOf_5 plan_teacherOf_6 plan_seatsOf_7 plan_columnOf_8 plan_columnsWith_9 => some ((plan_size_4 - 1), plan_size_4, plan_subjectOf_5, plan_teacherOf_6, plan_seatsOf_7, plan_columnOf_8, plan_columnsWith_9)) else some ((-2), plan_size_, plan_subjectOf_, plan_teacherOf_, plan_seatsOf_, plan_columnOf_, plan_columnsWith_))))))))
abbrev rmX5_opens : Room := { frames := 3, cells := 0, slots := 0, locals := 69 }
set_option maxHeartbeats 4000000 in
set_option maxRecDepth 100000 in
theorem c_X5_opens (l : Launch) (dC : Nat → ClassId) (dI : Nat → Nat → Nat) (cyC cyI cyJ : ClassId) (h0 h0_text h0_plan h0_plan_barsOf h0_plan_subjectOf h0_plan_teacherOf h0_plan_seatsOf h0_plan_columnOf h0_plan_columnsWith h0_planDraft h0_roll h0_rollDraft h0_wayFinder h0_seating h0_demand h0_told : Nat) (toldCount_ : Int32) (plan_columnCount_ : Int32) (plan_roomCount_ : Int32) (plan_size_ : Int32) (plan_subjectOf_ : Nat → Int32) (plan_teacherOf_ : Nat → Int32) (plan_seatsOf_ : Nat → Int32) (plan_columnOf_ : Nat → Int32) (plan_columnsWith_ : Nat → Int32) (v1 : Int32) (v2 : Int32) (v3 : Int32) (rr : Int32) (o0 : Int32) (o1 : Nat → Int32) (o2 : Nat → Int32) (o3 : Nat → Int32) (o4 : Nat → Int32) (o5 : Nat → Int32) (h : m_X5_opens plan_size_ plan_subjectOf_ plan_teacherOf_ plan_seatsOf_ plan_columnOf_ plan_columnsWith_ v1 v2 v3 = some (rr, o0, o1, o2, o3, o4, o5)) : uMi l yX5_opens wsX5_opens rmX5_opens (dC, dI) [(cyC, .char), (cyI, .int), (cyJ, .long)] [.ref h0, .int v1, .int v2, .int v3] [(h0, .inr (5, [.ref h0_text, .ref h0_plan, .ref h0_planDraft, .ref h0_roll, .ref h0_rollDraft, .ref h0_wayFinder, .ref h0_seating, .ref h0_demand, .ref h0_told, .int toldCount_])), (h0_plan, .inr (0, [.int plan_columnCount_, .int plan_roomCount_, .int plan_size_, .ref h0_plan_barsOf, .ref h0_plan_subjectOf, .ref h0_plan_teacherOf, .ref h0_plan_seatsOf, .ref h0_plan_columnOf, .ref h0_plan_columnsWith])), (h0_plan_subjectOf, .inl (cyI, 16, .inl plan_subjectOf_)), (h0_plan_teacherOf, .inl (cyI, 16, .inl plan_teacherOf_)), (h0_plan_seatsOf, .inl (cyI, 16, .inl plan_seatsOf_)), (h0_plan_columnOf, .inl (cyI, 16, .inl plan_columnOf_)), (h0_plan_columnsWith, .inl (cyI, 10, .inl plan_columnsWith_))] [(h0, .inr (5, [.ref h0_text, .ref h0_plan, .ref h0_planDraft, .ref h0_roll, .ref h0_rollDraft, .ref h0_wayFinder, .ref h0_seating, .ref h0_demand, .ref h0_told, .int toldCount_])), (h0_plan, .inr (0, [.int plan_columnCount_, .int plan_roomCount_, .int o0, .ref h0_plan_barsOf, .ref h0_plan_subjectOf, .ref h0_plan_teacherOf, .ref h0_plan_seatsOf, .ref h0_plan_columnOf, .ref h0_plan_columnsWith])), (h0_plan_subjectOf, .inl (cyI, 16, .inl o1)), (h0_plan_teacherOf, .inl (cyI, 16, .inl o2)), (h0_plan_seatsOf, .inl (cyI, 16, .inl o3)), (h0_plan_columnOf, .inl (cyI, 16, .inl o4)), (h0_plan_columnsWith, .inl (cyI, 10, .inl o5))] rr := by
  refine uMi.of (cc := cX5_opens) (maxL := 4) (by decide) rfl (Nat.le_of_ble_eq_true rfl) (fun p e s m args below meth c A ls Q hx hb hml hown hts hA hP hK hD hE hS hl hret => ?_)
  have hown : s.vm.findClass RX5 = some m.cls := hown
  have hl : lv_has ls 4 [(0, .ref h0), (1, .int v1), (2, .int v2), (3, .int v3)] := hl
  have hiX0 : ∀ w ∈ u_ws RX0 TX0 9, w ∈ wsX5_opens := fun _ h9 => List.mem_cons_of_mem _ (List.mem_append_right _ h9)
  have hiX5 : ∀ w ∈ u_ws RX5 TX5 10, w ∈ wsX5_opens := fun _ h9 => List.mem_cons_of_mem _ (List.mem_append_left _ (List.mem_append_right _ h9))
  unfold m_X5_opens at h
  refine lv_iload_n hx hb dX5_opens_0 rfl (lv_at hl 1 rfl) ?_
  obtain ⟨r_1, hq, h⟩ := bd1_some h
  refine uS_i (As := [.int v1]) (rest := []) ⟨hx, hb, hml, hown, hts⟩ (c_X5_isSubject l dC dI cyC cyI cyJ v1 r_1 hq) (va_cwS 1 hts gX5_opens_X5_isSubject rfl rfl rfl (by decide +kernel) ⟨Nat.le_of_ble_eq_true rfl, Nat.le_of_ble_eq_true rfl⟩) hK hE hA hP hD hS [] rfl rfl rfl rfl hl.1 rfl (Nat.le_of_ble_eq_true rfl) ⟨Nat.zero_le _, Nat.zero_le _⟩ dX5_opens_1 (fun H locs hP hD hS => ?_)
  have hP : va_P (dC, dI) vwCl [(h0, .inr (5, [.ref h0_text, .ref h0_plan, .ref h0_planDraft, .ref h0_roll, .ref h0_rollDraft, .ref h0_wayFinder, .ref h0_seating, .ref h0_demand, .ref h0_told, .int toldCount_])), (h0_plan, .inr (0, [.int plan_columnCount_, .int plan_roomCount_, .int plan_size_, .ref h0_plan_barsOf, .ref h0_plan_subjectOf, .ref h0_plan_teacherOf, .ref h0_plan_seatsOf, .ref h0_plan_columnOf, .ref h0_plan_columnsWith])), (h0_plan_subjectOf, .inl (cyI, 16, .inl plan_subjectOf_)), (h0_plan_teacherOf, .inl (cyI, 16, .inl plan_teacherOf_)), (h0_plan_seatsOf, .inl (cyI, 16, .inl plan_seatsOf_)), (h0_plan_columnOf, .inl (cyI, 16, .inl plan_columnOf_)), (h0_plan_columnsWith, .inl (cyI, 10, .inl plan_columnsWith_))] H := hP
  have hD : va_D A [(h0, .inr (5, [.ref h0_text, .ref h0_plan, .ref h0_planDraft, .ref h0_roll, .ref h0_rollDraft, .ref h0_wayFinder, .ref h0_seating, .ref h0_demand, .ref h0_told, .int toldCount_])), (h0_plan, .inr (0, [.int plan_columnCount_, .int plan_roomCount_, .int plan_size_, .ref h0_plan_barsOf, .ref h0_plan_subjectOf, .ref h0_plan_teacherOf, .ref h0_plan_seatsOf, .ref h0_plan_columnOf, .ref h0_plan_columnsWith])), (h0_plan_subjectOf, .inl (cyI, 16, .inl plan_subjectOf_)), (h0_plan_teacherOf, .inl (cyI, 16, .inl plan_teacherOf_)), (h0_plan_seatsOf, .inl (cyI, 16, .inl plan_seatsOf_)), (h0_plan_columnOf, .inl (cyI, 16, .inl plan_columnOf_)), (h0_plan_columnsWith, .inl (cyI, 10, .inl plan_columnsWith_))] := hD
  refine lv_if_eq (tgt := 21) hx hb dX5_opens_4 (by decide) (fun c_ => ?_) (fun c_ => ?_)
  · have h := (if_pos c_).symm.trans h
    refine lv_iconst (v := (-1)) hx hb dX5_opens_21 (by decide) ?_
    have h : some ((-1), plan_size_, plan_subjectOf_, plan_teacherOf_, plan_seatsOf_, plan_columnOf_, plan_columnsWith_) = some (rr, o0, o1, o2, o3, o4, o5) := h
    have z0 := Option.some.inj h
    obtain ⟨rfl, z1⟩ := Prod.mk.inj z0
    obtain ⟨rfl, z2⟩ := Prod.mk.inj z1
    obtain ⟨rfl, z3⟩ := Prod.mk.inj z2
    obtain ⟨rfl, z4⟩ := Prod.mk.inj z3
    obtain ⟨rfl, z5⟩ := Prod.mk.inj z4
    obtain ⟨rfl, z6⟩ := Prod.mk.inj z5
    obtain rfl := z6
    exact hret _ _ _ _ hP hS rfl dX5_opens_22
  · have h := (if_neg c_).symm.trans h
    refine lv_iload_n hx hb dX5_opens_7 rfl (lv_at hl 2 rfl) ?_
    obtain ⟨r_2, hq, h⟩ := bd1_some h
    refine uS_i (As := [.int v2]) (rest := []) ⟨hx, hb, hml, hown, hts⟩ (c_X5_isTeacher l dC dI cyC cyI cyJ v2 r_2 hq) (va_cwS 1 hts gX5_opens_X5_isTeacher rfl rfl rfl (by decide +kernel) ⟨Nat.le_of_ble_eq_true rfl, Nat.le_of_ble_eq_true rfl⟩) hK hE hA hP hD hS [] rfl rfl rfl rfl hl.1 rfl (Nat.le_of_ble_eq_true rfl) ⟨Nat.zero_le _, Nat.zero_le _⟩ dX5_opens_8 (fun H locs hP hD hS => ?_)
    have hP : va_P (dC, dI) vwCl [(h0, .inr (5, [.ref h0_text, .ref h0_plan, .ref h0_planDraft, .ref h0_roll, .ref h0_rollDraft, .ref h0_wayFinder, .ref h0_seating, .ref h0_demand, .ref h0_told, .int toldCount_])), (h0_plan, .inr (0, [.int plan_columnCount_, .int plan_roomCount_, .int plan_size_, .ref h0_plan_barsOf, .ref h0_plan_subjectOf, .ref h0_plan_teacherOf, .ref h0_plan_seatsOf, .ref h0_plan_columnOf, .ref h0_plan_columnsWith])), (h0_plan_subjectOf, .inl (cyI, 16, .inl plan_subjectOf_)), (h0_plan_teacherOf, .inl (cyI, 16, .inl plan_teacherOf_)), (h0_plan_seatsOf, .inl (cyI, 16, .inl plan_seatsOf_)), (h0_plan_columnOf, .inl (cyI, 16, .inl plan_columnOf_)), (h0_plan_columnsWith, .inl (cyI, 10, .inl plan_columnsWith_))] H := hP
    have hD : va_D A [(h0, .inr (5, [.ref h0_text, .ref h0_plan, .ref h0_planDraft, .ref h0_roll, .ref h0_rollDraft, .ref h0_wayFinder, .ref h0_seating, .ref h0_demand, .ref h0_told, .int toldCount_])), (h0_plan, .inr (0, [.int plan_columnCount_, .int plan_roomCount_, .int plan_size_, .ref h0_plan_barsOf, .ref h0_plan_subjectOf, .ref h0_plan_teacherOf, .ref h0_plan_seatsOf, .ref h0_plan_columnOf, .ref h0_plan_columnsWith])), (h0_plan_subjectOf, .inl (cyI, 16, .inl plan_subjectOf_)), (h0_plan_teacherOf, .inl (cyI, 16, .inl plan_teacherOf_)), (h0_plan_seatsOf, .inl (cyI, 16, .inl plan_seatsOf_)), (h0_plan_columnOf, .inl (cyI, 16, .inl plan_columnOf_)), (h0_plan_columnsWith, .inl (cyI, 10, .inl plan_columnsWith_))] := hD
    refine lv_if_eq (tgt := 21) hx hb dX5_opens_11 (by decide) (fun c_ => ?_) (fun c_ => ?_)
    · have h := (if_pos c_).symm.trans h
      refine lv_iconst (v := (-1)) hx hb dX5_opens_21 (by decide) ?_
      have h : some ((-1), plan_size_, plan_subjectOf_, plan_teacherOf_, plan_seatsOf_, plan_columnOf_, plan_columnsWith_) = some (rr, o0, o1, o2, o3, o4, o5) := h
      have z0 := Option.some.inj h
      obtain ⟨rfl, z1⟩ := Prod.mk.inj z0
      obtain ⟨rfl, z2⟩ := Prod.mk.inj z1
      obtain ⟨rfl, z3⟩ := Prod.mk.inj z2
      obtain ⟨rfl, z4⟩ := Prod.mk.inj z3
      obtain ⟨rfl, z5⟩ := Prod.mk.inj z4
      obtain ⟨rfl, z6⟩ := Prod.mk.inj z5
      obtain rfl := z6
      exact hret _ _ _ _ hP hS rfl dX5_opens_22
    · have h := (if_neg c_).symm.trans h
      refine lv_iload_n hx hb dX5_opens_14 rfl (lv_at hl 3 rfl) ?_
      obtain ⟨r_3, hq, h⟩ := bd1_some h
      refine uS_i (As := [.int v3]) (rest := []) ⟨hx, hb, hml, hown, hts⟩ (c_X5_areSeats l dC dI cyC cyI cyJ v3 r_3 hq) (va_cwS 1 hts gX5_opens_X5_areSeats rfl rfl rfl (by decide +kernel) ⟨Nat.le_of_ble_eq_true rfl, Nat.le_of_ble_eq_true rfl⟩) hK hE hA hP hD hS [] rfl rfl rfl rfl hl.1 rfl (Nat.le_of_ble_eq_true rfl) ⟨Nat.zero_le _, Nat.zero_le _⟩ dX5_opens_15 (fun H locs hP hD hS => ?_)
      have hP : va_P (dC, dI) vwCl [(h0, .inr (5, [.ref h0_text, .ref h0_plan, .ref h0_planDraft, .ref h0_roll, .ref h0_rollDraft, .ref h0_wayFinder, .ref h0_seating, .ref h0_demand, .ref h0_told, .int toldCount_])), (h0_plan, .inr (0, [.int plan_columnCount_, .int plan_roomCount_, .int plan_size_, .ref h0_plan_barsOf, .ref h0_plan_subjectOf, .ref h0_plan_teacherOf, .ref h0_plan_seatsOf, .ref h0_plan_columnOf, .ref h0_plan_columnsWith])), (h0_plan_subjectOf, .inl (cyI, 16, .inl plan_subjectOf_)), (h0_plan_teacherOf, .inl (cyI, 16, .inl plan_teacherOf_)), (h0_plan_seatsOf, .inl (cyI, 16, .inl plan_seatsOf_)), (h0_plan_columnOf, .inl (cyI, 16, .inl plan_columnOf_)), (h0_plan_columnsWith, .inl (cyI, 10, .inl plan_columnsWith_))] H := hP
      have hD : va_D A [(h0, .inr (5, [.ref h0_text, .ref h0_plan, .ref h0_planDraft, .ref h0_roll, .ref h0_rollDraft, .ref h0_wayFinder, .ref h0_seating, .ref h0_demand, .ref h0_told, .int toldCount_])), (h0_plan, .inr (0, [.int plan_columnCount_, .int plan_roomCount_, .int plan_size_, .ref h0_plan_barsOf, .ref h0_plan_subjectOf, .ref h0_plan_teacherOf, .ref h0_plan_seatsOf, .ref h0_plan_columnOf, .ref h0_plan_columnsWith])), (h0_plan_subjectOf, .inl (cyI, 16, .inl plan_subjectOf_)), (h0_plan_teacherOf, .inl (cyI, 16, .inl plan_teacherOf_)), (h0_plan_seatsOf, .inl (cyI, 16, .inl plan_seatsOf_)), (h0_plan_columnOf, .inl (cyI, 16, .inl plan_columnOf_)), (h0_plan_columnsWith, .inl (cyI, 10, .inl plan_columnsWith_))] := hD
      refine lv_if_ne (tgt := 23) hx hb dX5_opens_18 (by decide) (fun c_ => ?_) (fun c_ => ?_)
      · have h := (if_neg c_).symm.trans h
        refine lv_aload_n hx hb dX5_opens_23 rfl (lv_at hl 0 rfl) ?_
        refine va_get (D := (dC, dI)) (ci := 5) (v := .ref h0_plan) (C := RX5) (T := TX5) (N := 10) hx hb hts hiX5 hown hK hP 0 rfl rfl 1 (by decide) (hts (.fieldLink RX5 19 "OptionLattice" "plan" "LOptionLattice$Plan;") (by decide +kernel)) (fun _ h9 => h9) rfl dX5_opens_24 ?_
        refine va_getN (host := "OptionLattice") (D := (dC, dI)) (ci := 0) (v := .int plan_size_) (C := RX0) (T := TX0) (N := 9) hx hb hts hiX0 hown hK hP 1 rfl rfl 2 (by decide) (va_Nw.use rfl (hE.1 ("OptionLattice", 79, "OptionLattice$Plan", "size", "I") (List.mem_of_getElem? (i := 5) rfl))) (fun _ h9 => h9) rfl dX5_opens_27 ?_
        refine lv_bipush (v := 16) hx hb dX5_opens_30 (by decide) ?_
        refine lv_icmp_lt (tgt := 38) hx hb dX5_opens_32 (by decide) (fun c_ => ?_) (fun c_ => ?_)
        · have h := (if_pos c_).symm.trans h
          refine lv_aload_n hx hb dX5_opens_38 rfl (lv_at hl 0 rfl) ?_
          refine va_get (D := (dC, dI)) (ci := 5) (v := .ref h0_plan) (C := RX5) (T := TX5) (N := 10) hx hb hts hiX5 hown hK hP 0 rfl rfl 1 (by decide) (hts (.fieldLink RX5 19 "OptionLattice" "plan" "LOptionLattice$Plan;") (by decide +kernel)) (fun _ h9 => h9) rfl dX5_opens_39 ?_
          refine lv_iload_n hx hb dX5_opens_42 rfl (lv_at hl 1 rfl) ?_
          refine lv_iload_n hx hb dX5_opens_43 rfl (lv_at hl 2 rfl) ?_
          refine lv_iload_n hx hb dX5_opens_44 rfl (lv_at hl 3 rfl) ?_
          refine lv_iconst (v := (-1)) hx hb dX5_opens_45 (by decide) ?_
          obtain ⟨plan_size_4, plan_subjectOf_5, plan_teacherOf_6, plan_seatsOf_7, plan_columnOf_8, plan_columnsWith_9, hq, h⟩ := bd6_some h
          refine uV_v (b := h0_plan) (As := [.int v1, .int v2, .int v3, .int (-1)]) (rest := []) ⟨hx, hb, hml, hown, hts⟩ (c_X0_add l dC dI cyC cyI cyJ h0_plan h0_plan_barsOf h0_plan_subjectOf h0_plan_teacherOf h0_plan_seatsOf h0_plan_columnOf h0_plan_columnsWith plan_columnCount_ plan_roomCount_ plan_size_ plan_subjectOf_ plan_teacherOf_ plan_seatsOf_ plan_columnOf_ plan_columnsWith_ v1 v2 v3 (-1) plan_size_4 plan_subjectOf_5 plan_teacherOf_6 plan_seatsOf_7 plan_columnOf_8 plan_columnsWith_9 hq) (cwV 4 hts gX5_opens_X0_add rfl rfl rfl (by decide +kernel) ⟨Nat.le_of_ble_eq_true rfl, Nat.le_of_ble_eq_true rfl⟩) hK hE hA hP hD hS [1, 2, 3, 4, 5, 6] rfl rfl rfl 0 0 rfl rfl rfl hl.1 rfl (Nat.le_of_ble_eq_true rfl) ⟨Nat.zero_le _, Nat.zero_le _⟩ dX5_opens_46 (fun H locs hP hD hS => ?_)
          have hP : va_P (dC, dI) vwCl [(h0, .inr (5, [.ref h0_text, .ref h0_plan, .ref h0_planDraft, .ref h0_roll, .ref h0_rollDraft, .ref h0_wayFinder, .ref h0_seating, .ref h0_demand, .ref h0_told, .int toldCount_])), (h0_plan, .inr (0, [.int plan_columnCount_, .int plan_roomCount_, .int plan_size_4, .ref h0_plan_barsOf, .ref h0_plan_subjectOf, .ref h0_plan_teacherOf, .ref h0_plan_seatsOf, .ref h0_plan_columnOf, .ref h0_plan_columnsWith])), (h0_plan_subjectOf, .inl (cyI, 16, .inl plan_subjectOf_5)), (h0_plan_teacherOf, .inl (cyI, 16, .inl plan_teacherOf_6)), (h0_plan_seatsOf, .inl (cyI, 16, .inl plan_seatsOf_7)), (h0_plan_columnOf, .inl (cyI, 16, .inl plan_columnOf_8)), (h0_plan_columnsWith, .inl (cyI, 10, .inl plan_columnsWith_9))] H := hP
          have hD : va_D A [(h0, .inr (5, [.ref h0_text, .ref h0_plan, .ref h0_planDraft, .ref h0_roll, .ref h0_rollDraft, .ref h0_wayFinder, .ref h0_seating, .ref h0_demand, .ref h0_told, .int toldCount_])), (h0_plan, .inr (0, [.int plan_columnCount_, .int plan_roomCount_, .int plan_size_4, .ref h0_plan_barsOf, .ref h0_plan_subjectOf, .ref h0_plan_teacherOf, .ref h0_plan_seatsOf, .ref h0_plan_columnOf, .ref h0_plan_columnsWith])), (h0_plan_subjectOf, .inl (cyI, 16, .inl plan_subjectOf_5)), (h0_plan_teacherOf, .inl (cyI, 16, .inl plan_teacherOf_6)), (h0_plan_seatsOf, .inl (cyI, 16, .inl plan_seatsOf_7)), (h0_plan_columnOf, .inl (cyI, 16, .inl plan_columnOf_8)), (h0_plan_columnsWith, .inl (cyI, 10, .inl plan_columnsWith_9))] := hD
          refine lv_aload_n hx hb dX5_opens_49 rfl (lv_at hl 0 rfl) ?_
          refine va_get (D := (dC, dI)) (ci := 5) (v := .ref h0_plan) (C := RX5) (T := TX5) (N := 10) hx hb hts hiX5 hown hK hP 0 rfl rfl 1 (by decide) (hts (.fieldLink RX5 19 "OptionLattice" "plan" "LOptionLattice$Plan;") (by decide +kernel)) (fun _ h9 => h9) rfl dX5_opens_50 ?_
          refine va_getN (host := "OptionLattice") (D := (dC, dI)) (ci := 0) (v := .int plan_size_4) (C := RX0) (T := TX0) (N := 9) hx hb hts hiX0 hown hK hP 1 rfl rfl 2 (by decide) (va_Nw.use rfl (hE.1 ("OptionLattice", 79, "OptionLattice$Plan", "size", "I") (List.mem_of_getElem? (i := 5) rfl))) (fun _ h9 => h9) rfl dX5_opens_53 ?_
          refine lv_iconst (v := 1) hx hb dX5_opens_56 (by decide) ?_
          refine lv_isub hx hb dX5_opens_57 ?_
          have h : some ((plan_size_4 - 1), plan_size_4, plan_subjectOf_5, plan_teacherOf_6, plan_seatsOf_7, plan_columnOf_8, plan_columnsWith_9) = some (rr, o0, o1, o2, o3, o4, o5) := h
          have z0 := Option.some.inj h
          obtain ⟨rfl, z1⟩ := Prod.mk.inj z0
          obtain ⟨rfl, z2⟩ := Prod.mk.inj z1
          obtain ⟨rfl, z3⟩ := Prod.mk.inj z2
          obtain ⟨rfl, z4⟩ := Prod.mk.inj z3
          obtain ⟨rfl, z5⟩ := Prod.mk.inj z4
          obtain ⟨rfl, z6⟩ := Prod.mk.inj z5
          obtain rfl := z6
          exact hret _ _ _ _ hP hS rfl dX5_opens_58
        · have h := (if_neg c_).symm.trans h
          refine lv_bipush (v := (-2)) hx hb dX5_opens_35 (by decide) ?_
          have h : some ((-2), plan_size_, plan_subjectOf_, plan_teacherOf_, plan_seatsOf_, plan_columnOf_, plan_columnsWith_) = some (rr, o0, o1, o2, o3, o4, o5) := h
          have z0 := Option.some.inj h
          obtain ⟨rfl, z1⟩ := Prod.mk.inj z0
          obtain ⟨rfl, z2⟩ := Prod.mk.inj z1
          obtain ⟨rfl, z3⟩ := Prod.mk.inj z2
          obtain ⟨rfl, z4⟩ := Prod.mk.inj z3
          obtain ⟨rfl, z5⟩ := Prod.mk.inj z4
          obtain ⟨rfl, z6⟩ := Prod.mk.inj z5
          obtain rfl := z6
          exact hret _ _ _ _ hP hS rfl dX5_opens_37
      · have h := (if_pos c_).symm.trans h
        refine lv_iconst (v := (-1)) hx hb dX5_opens_21 (by decide) ?_
        have h : some ((-1), plan_size_, plan_subjectOf_, plan_teacherOf_, plan_seatsOf_, plan_columnOf_, plan_columnsWith_) = some (rr, o0, o1, o2, o3, o4, o5) := h
        have z0 := Option.some.inj h
        obtain ⟨rfl, z1⟩ := Prod.mk.inj z0
        obtain ⟨rfl, z2⟩ := Prod.mk.inj z1
        obtain ⟨rfl, z3⟩ := Prod.mk.inj z2
        obtain ⟨rfl, z4⟩ := Prod.mk.inj z3
        obtain ⟨rfl, z5⟩ := Prod.mk.inj z4
        obtain ⟨rfl, z6⟩ := Prod.mk.inj z5
        obtain rfl := z6
        exact hret _ _ _ _ hP hS rfl dX5_opens_22

def m_X5_closes (plan_size_ : Int32) (plan_subjectOf_ : Nat → Int32) (plan_teacherOf_ : Nat → Int32) (plan_seatsOf_ : Nat → Int32) (plan_columnOf_ : Nat → Int32) (plan_columnsWith_ : Nat → Int32) (v1 : Int32) : Option (Int32 × Int32 × (Nat → Int32) × (Nat → Int32) × (Nat → Int32) × (Nat → Int32) × (Nat → Int32)) :=
  bd1 (m_X0_has plan_size_ v1) (fun r_1 => (if r_1 = 0 then some ((-1), plan_size_, plan_subjectOf_, plan_teacherOf_, plan_seatsOf_, plan_columnOf_, plan_columnsWith_) else bd6 (m_X0_remove plan_size_ plan_subjectOf_ plan_teacherOf_ plan_seatsOf_ plan_columnOf_ plan_columnsWith_ v1) (fun plan_size_2 plan_subjectOf_3 plan_teacherOf_4 plan_seatsOf_5 plan_columnOf_6 plan_columnsWith_7 => some (plan_size_2, plan_size_2, plan_subjectOf_3, plan_teacherOf_4, plan_seatsOf_5, plan_columnOf_6, plan_columnsWith_7))))
abbrev rmX5_closes : Room := { frames := 3, cells := 0, slots := 0, locals := 68 }
set_option maxHeartbeats 4000000 in
set_option maxRecDepth 100000 in
theorem c_X5_closes (l : Launch) (dC : Nat → ClassId) (dI : Nat → Nat → Nat) (cyC cyI cyJ : ClassId) (h0 h0_text h0_plan h0_plan_barsOf h0_plan_subjectOf h0_plan_teacherOf h0_plan_seatsOf h0_plan_columnOf h0_plan_columnsWith h0_planDraft h0_roll h0_rollDraft h0_wayFinder h0_seating h0_demand h0_told : Nat) (toldCount_ : Int32) (plan_columnCount_ : Int32) (plan_roomCount_ : Int32) (plan_size_ : Int32) (plan_subjectOf_ : Nat → Int32) (plan_teacherOf_ : Nat → Int32) (plan_seatsOf_ : Nat → Int32) (plan_columnOf_ : Nat → Int32) (plan_columnsWith_ : Nat → Int32) (v1 : Int32) (rr : Int32) (o0 : Int32) (o1 : Nat → Int32) (o2 : Nat → Int32) (o3 : Nat → Int32) (o4 : Nat → Int32) (o5 : Nat → Int32) (h : m_X5_closes plan_size_ plan_subjectOf_ plan_teacherOf_ plan_seatsOf_ plan_columnOf_ plan_columnsWith_ v1 = some (rr, o0, o1, o2, o3, o4, o5)) : uMi l yX5_closes wsX5_closes rmX5_closes (dC, dI) [(cyC, .char), (cyI, .int), (cyJ, .long)] [.ref h0, .int v1] [(h0, .inr (5, [.ref h0_text, .ref h0_plan, .ref h0_planDraft, .ref h0_roll, .ref h0_rollDraft, .ref h0_wayFinder, .ref h0_seating, .ref h0_demand, .ref h0_told, .int toldCount_])), (h0_plan, .inr (0, [.int plan_columnCount_, .int plan_roomCount_, .int plan_size_, .ref h0_plan_barsOf, .ref h0_plan_subjectOf, .ref h0_plan_teacherOf, .ref h0_plan_seatsOf, .ref h0_plan_columnOf, .ref h0_plan_columnsWith])), (h0_plan_subjectOf, .inl (cyI, 16, .inl plan_subjectOf_)), (h0_plan_teacherOf, .inl (cyI, 16, .inl plan_teacherOf_)), (h0_plan_seatsOf, .inl (cyI, 16, .inl plan_seatsOf_)), (h0_plan_columnOf, .inl (cyI, 16, .inl plan_columnOf_)), (h0_plan_columnsWith, .inl (cyI, 10, .inl plan_columnsWith_))] [(h0, .inr (5, [.ref h0_text, .ref h0_plan, .ref h0_planDraft, .ref h0_roll, .ref h0_rollDraft, .ref h0_wayFinder, .ref h0_seating, .ref h0_demand, .ref h0_told, .int toldCount_])), (h0_plan, .inr (0, [.int plan_columnCount_, .int plan_roomCount_, .int o0, .ref h0_plan_barsOf, .ref h0_plan_subjectOf, .ref h0_plan_teacherOf, .ref h0_plan_seatsOf, .ref h0_plan_columnOf, .ref h0_plan_columnsWith])), (h0_plan_subjectOf, .inl (cyI, 16, .inl o1)), (h0_plan_teacherOf, .inl (cyI, 16, .inl o2)), (h0_plan_seatsOf, .inl (cyI, 16, .inl o3)), (h0_plan_columnOf, .inl (cyI, 16, .inl o4)), (h0_plan_columnsWith, .inl (cyI, 10, .inl o5))] rr := by
  refine uMi.of (cc := cX5_closes) (maxL := 2) (by decide) rfl (Nat.le_of_ble_eq_true rfl) (fun p e s m args below meth c A ls Q hx hb hml hown hts hA hP hK hD hE hS hl hret => ?_)
  have hown : s.vm.findClass RX5 = some m.cls := hown
  have hl : lv_has ls 2 [(0, .ref h0), (1, .int v1)] := hl
  have hiX0 : ∀ w ∈ u_ws RX0 TX0 9, w ∈ wsX5_closes := fun _ h9 => List.mem_cons_of_mem _ (List.mem_append_right _ h9)
  have hiX5 : ∀ w ∈ u_ws RX5 TX5 10, w ∈ wsX5_closes := fun _ h9 => List.mem_cons_of_mem _ (List.mem_append_left _ (List.mem_append_right _ h9))
  unfold m_X5_closes at h
  refine lv_aload_n hx hb dX5_closes_0 rfl (lv_at hl 0 rfl) ?_
  refine va_get (D := (dC, dI)) (ci := 5) (v := .ref h0_plan) (C := RX5) (T := TX5) (N := 10) hx hb hts hiX5 hown hK hP 0 rfl rfl 1 (by decide) (hts (.fieldLink RX5 19 "OptionLattice" "plan" "LOptionLattice$Plan;") (by decide +kernel)) (fun _ h9 => h9) rfl dX5_closes_1 ?_
  refine lv_iload_n hx hb dX5_closes_4 rfl (lv_at hl 1 rfl) ?_
  obtain ⟨r_1, hq, h⟩ := bd1_some h
  refine uV_i (b := h0_plan) (As := [.int v1]) (rest := []) ⟨hx, hb, hml, hown, hts⟩ (c_X0_has l dC dI cyC cyI cyJ h0_plan h0_plan_barsOf h0_plan_subjectOf h0_plan_teacherOf h0_plan_seatsOf h0_plan_columnOf h0_plan_columnsWith plan_columnCount_ plan_roomCount_ plan_size_ v1 r_1 hq) (cwV 1 hts gX5_closes_X0_has rfl rfl rfl (by decide +kernel) ⟨Nat.le_of_ble_eq_true rfl, Nat.le_of_ble_eq_true rfl⟩) hK hE hA hP hD hS [1] rfl rfl rfl 0 0 rfl rfl rfl hl.1 rfl (Nat.le_of_ble_eq_true rfl) ⟨Nat.zero_le _, Nat.zero_le _⟩ dX5_closes_5 (fun H locs hP hD hS => ?_)
  have hP : va_P (dC, dI) vwCl [(h0, .inr (5, [.ref h0_text, .ref h0_plan, .ref h0_planDraft, .ref h0_roll, .ref h0_rollDraft, .ref h0_wayFinder, .ref h0_seating, .ref h0_demand, .ref h0_told, .int toldCount_])), (h0_plan, .inr (0, [.int plan_columnCount_, .int plan_roomCount_, .int plan_size_, .ref h0_plan_barsOf, .ref h0_plan_subjectOf, .ref h0_plan_teacherOf, .ref h0_plan_seatsOf, .ref h0_plan_columnOf, .ref h0_plan_columnsWith])), (h0_plan_subjectOf, .inl (cyI, 16, .inl plan_subjectOf_)), (h0_plan_teacherOf, .inl (cyI, 16, .inl plan_teacherOf_)), (h0_plan_seatsOf, .inl (cyI, 16, .inl plan_seatsOf_)), (h0_plan_columnOf, .inl (cyI, 16, .inl plan_columnOf_)), (h0_plan_columnsWith, .inl (cyI, 10, .inl plan_columnsWith_))] H := hP
  have hD : va_D A [(h0, .inr (5, [.ref h0_text, .ref h0_plan, .ref h0_planDraft, .ref h0_roll, .ref h0_rollDraft, .ref h0_wayFinder, .ref h0_seating, .ref h0_demand, .ref h0_told, .int toldCount_])), (h0_plan, .inr (0, [.int plan_columnCount_, .int plan_roomCount_, .int plan_size_, .ref h0_plan_barsOf, .ref h0_plan_subjectOf, .ref h0_plan_teacherOf, .ref h0_plan_seatsOf, .ref h0_plan_columnOf, .ref h0_plan_columnsWith])), (h0_plan_subjectOf, .inl (cyI, 16, .inl plan_subjectOf_)), (h0_plan_teacherOf, .inl (cyI, 16, .inl plan_teacherOf_)), (h0_plan_seatsOf, .inl (cyI, 16, .inl plan_seatsOf_)), (h0_plan_columnOf, .inl (cyI, 16, .inl plan_columnOf_)), (h0_plan_columnsWith, .inl (cyI, 10, .inl plan_columnsWith_))] := hD
  refine lv_if_ne (tgt := 13) hx hb dX5_closes_8 (by decide) (fun c_ => ?_) (fun c_ => ?_)
  · have h := (if_neg c_).symm.trans h
    refine lv_aload_n hx hb dX5_closes_13 rfl (lv_at hl 0 rfl) ?_
    refine va_get (D := (dC, dI)) (ci := 5) (v := .ref h0_plan) (C := RX5) (T := TX5) (N := 10) hx hb hts hiX5 hown hK hP 0 rfl rfl 1 (by decide) (hts (.fieldLink RX5 19 "OptionLattice" "plan" "LOptionLattice$Plan;") (by decide +kernel)) (fun _ h9 => h9) rfl dX5_closes_14 ?_
    refine lv_iload_n hx hb dX5_closes_17 rfl (lv_at hl 1 rfl) ?_
    obtain ⟨plan_size_2, plan_subjectOf_3, plan_teacherOf_4, plan_seatsOf_5, plan_columnOf_6, plan_columnsWith_7, hq, h⟩ := bd6_some h
    refine uV_v (b := h0_plan) (As := [.int v1]) (rest := []) ⟨hx, hb, hml, hown, hts⟩ (c_X0_remove l dC dI cyC cyI cyJ h0_plan h0_plan_barsOf h0_plan_subjectOf h0_plan_teacherOf h0_plan_seatsOf h0_plan_columnOf h0_plan_columnsWith plan_columnCount_ plan_roomCount_ plan_size_ plan_subjectOf_ plan_teacherOf_ plan_seatsOf_ plan_columnOf_ plan_columnsWith_ v1 plan_size_2 plan_subjectOf_3 plan_teacherOf_4 plan_seatsOf_5 plan_columnOf_6 plan_columnsWith_7 hq) (cwV 1 hts gX5_closes_X0_remove rfl rfl rfl (by decide +kernel) ⟨Nat.le_of_ble_eq_true rfl, Nat.le_of_ble_eq_true rfl⟩) hK hE hA hP hD hS [1, 2, 3, 4, 5, 6] rfl rfl rfl 0 0 rfl rfl rfl hl.1 rfl (Nat.le_of_ble_eq_true rfl) ⟨Nat.zero_le _, Nat.zero_le _⟩ dX5_closes_18 (fun H locs hP hD hS => ?_)
    have hP : va_P (dC, dI) vwCl [(h0, .inr (5, [.ref h0_text, .ref h0_plan, .ref h0_planDraft, .ref h0_roll, .ref h0_rollDraft, .ref h0_wayFinder, .ref h0_seating, .ref h0_demand, .ref h0_told, .int toldCount_])), (h0_plan, .inr (0, [.int plan_columnCount_, .int plan_roomCount_, .int plan_size_2, .ref h0_plan_barsOf, .ref h0_plan_subjectOf, .ref h0_plan_teacherOf, .ref h0_plan_seatsOf, .ref h0_plan_columnOf, .ref h0_plan_columnsWith])), (h0_plan_subjectOf, .inl (cyI, 16, .inl plan_subjectOf_3)), (h0_plan_teacherOf, .inl (cyI, 16, .inl plan_teacherOf_4)), (h0_plan_seatsOf, .inl (cyI, 16, .inl plan_seatsOf_5)), (h0_plan_columnOf, .inl (cyI, 16, .inl plan_columnOf_6)), (h0_plan_columnsWith, .inl (cyI, 10, .inl plan_columnsWith_7))] H := hP
    have hD : va_D A [(h0, .inr (5, [.ref h0_text, .ref h0_plan, .ref h0_planDraft, .ref h0_roll, .ref h0_rollDraft, .ref h0_wayFinder, .ref h0_seating, .ref h0_demand, .ref h0_told, .int toldCount_])), (h0_plan, .inr (0, [.int plan_columnCount_, .int plan_roomCount_, .int plan_size_2, .ref h0_plan_barsOf, .ref h0_plan_subjectOf, .ref h0_plan_teacherOf, .ref h0_plan_seatsOf, .ref h0_plan_columnOf, .ref h0_plan_columnsWith])), (h0_plan_subjectOf, .inl (cyI, 16, .inl plan_subjectOf_3)), (h0_plan_teacherOf, .inl (cyI, 16, .inl plan_teacherOf_4)), (h0_plan_seatsOf, .inl (cyI, 16, .inl plan_seatsOf_5)), (h0_plan_columnOf, .inl (cyI, 16, .inl plan_columnOf_6)), (h0_plan_columnsWith, .inl (cyI, 10, .inl plan_columnsWith_7))] := hD
    refine lv_aload_n hx hb dX5_closes_21 rfl (lv_at hl 0 rfl) ?_
    refine va_get (D := (dC, dI)) (ci := 5) (v := .ref h0_plan) (C := RX5) (T := TX5) (N := 10) hx hb hts hiX5 hown hK hP 0 rfl rfl 1 (by decide) (hts (.fieldLink RX5 19 "OptionLattice" "plan" "LOptionLattice$Plan;") (by decide +kernel)) (fun _ h9 => h9) rfl dX5_closes_22 ?_
    refine va_getN (host := "OptionLattice") (D := (dC, dI)) (ci := 0) (v := .int plan_size_2) (C := RX0) (T := TX0) (N := 9) hx hb hts hiX0 hown hK hP 1 rfl rfl 2 (by decide) (va_Nw.use rfl (hE.1 ("OptionLattice", 79, "OptionLattice$Plan", "size", "I") (List.mem_of_getElem? (i := 5) rfl))) (fun _ h9 => h9) rfl dX5_closes_25 ?_
    have h : some (plan_size_2, plan_size_2, plan_subjectOf_3, plan_teacherOf_4, plan_seatsOf_5, plan_columnOf_6, plan_columnsWith_7) = some (rr, o0, o1, o2, o3, o4, o5) := h
    have z0 := Option.some.inj h
    obtain ⟨rfl, z1⟩ := Prod.mk.inj z0
    obtain ⟨rfl, z2⟩ := Prod.mk.inj z1
    obtain ⟨rfl, z3⟩ := Prod.mk.inj z2
    obtain ⟨rfl, z4⟩ := Prod.mk.inj z3
    obtain ⟨rfl, z5⟩ := Prod.mk.inj z4
    obtain ⟨rfl, z6⟩ := Prod.mk.inj z5
    obtain rfl := z6
    exact hret _ _ _ _ hP hS rfl dX5_closes_28
  · have h := (if_pos c_).symm.trans h
    refine lv_iconst (v := (-1)) hx hb dX5_closes_11 (by decide) ?_
    have h : some ((-1), plan_size_, plan_subjectOf_, plan_teacherOf_, plan_seatsOf_, plan_columnOf_, plan_columnsWith_) = some (rr, o0, o1, o2, o3, o4, o5) := h
    have z0 := Option.some.inj h
    obtain ⟨rfl, z1⟩ := Prod.mk.inj z0
    obtain ⟨rfl, z2⟩ := Prod.mk.inj z1
    obtain ⟨rfl, z3⟩ := Prod.mk.inj z2
    obtain ⟨rfl, z4⟩ := Prod.mk.inj z3
    obtain ⟨rfl, z5⟩ := Prod.mk.inj z4
    obtain ⟨rfl, z6⟩ := Prod.mk.inj z5
    obtain rfl := z6
    exact hret _ _ _ _ hP hS rfl dX5_closes_12

def m_X5_seats (plan_size_ : Int32) (plan_seatsOf_ : Nat → Int32) (v1 : Int32) (v2 : Int32) : Option (Int32 × (Nat → Int32)) :=
  bd1 (m_X0_has plan_size_ v1) (fun r_1 => (if r_1 = 0 then some ((-1), plan_seatsOf_) else bd1 (m_X5_areSeats v2) (fun r_2 => (if r_2 = 0 then some ((-1), plan_seatsOf_) else gd (inb v1 16) (lt' (plan_seatsOf_ v1.toNatClampNeg) (fun v3_3 => gd (inb v1 16) (some (v3_3, (upd plan_seatsOf_ v1.toNatClampNeg v2)))))))))
abbrev rmX5_seats : Room := { frames := 1, cells := 0, slots := 0, locals := 21 }
set_option maxHeartbeats 4000000 in
set_option maxRecDepth 100000 in
theorem c_X5_seats (l : Launch) (dC : Nat → ClassId) (dI : Nat → Nat → Nat) (cyC cyI cyJ : ClassId) (h0 h0_text h0_plan h0_plan_barsOf h0_plan_subjectOf h0_plan_teacherOf h0_plan_seatsOf h0_plan_columnOf h0_plan_columnsWith h0_planDraft h0_roll h0_rollDraft h0_wayFinder h0_seating h0_demand h0_told : Nat) (toldCount_ : Int32) (plan_columnCount_ : Int32) (plan_roomCount_ : Int32) (plan_size_ : Int32) (plan_seatsOf_ : Nat → Int32) (v1 : Int32) (v2 : Int32) (rr : Int32) (o0 : Nat → Int32) (h : m_X5_seats plan_size_ plan_seatsOf_ v1 v2 = some (rr, o0)) : uMi l yX5_seats wsX5_seats rmX5_seats (dC, dI) [(cyC, .char), (cyI, .int), (cyJ, .long)] [.ref h0, .int v1, .int v2] [(h0, .inr (5, [.ref h0_text, .ref h0_plan, .ref h0_planDraft, .ref h0_roll, .ref h0_rollDraft, .ref h0_wayFinder, .ref h0_seating, .ref h0_demand, .ref h0_told, .int toldCount_])), (h0_plan, .inr (0, [.int plan_columnCount_, .int plan_roomCount_, .int plan_size_, .ref h0_plan_barsOf, .ref h0_plan_subjectOf, .ref h0_plan_teacherOf, .ref h0_plan_seatsOf, .ref h0_plan_columnOf, .ref h0_plan_columnsWith])), (h0_plan_seatsOf, .inl (cyI, 16, .inl plan_seatsOf_))] [(h0, .inr (5, [.ref h0_text, .ref h0_plan, .ref h0_planDraft, .ref h0_roll, .ref h0_rollDraft, .ref h0_wayFinder, .ref h0_seating, .ref h0_demand, .ref h0_told, .int toldCount_])), (h0_plan, .inr (0, [.int plan_columnCount_, .int plan_roomCount_, .int plan_size_, .ref h0_plan_barsOf, .ref h0_plan_subjectOf, .ref h0_plan_teacherOf, .ref h0_plan_seatsOf, .ref h0_plan_columnOf, .ref h0_plan_columnsWith])), (h0_plan_seatsOf, .inl (cyI, 16, .inl o0))] rr := by
  refine uMi.of (cc := cX5_seats) (maxL := 4) (by decide) rfl (Nat.le_of_ble_eq_true rfl) (fun p e s m args below meth c A ls Q hx hb hml hown hts hA hP hK hD hE hS hl hret => ?_)
  have hown : s.vm.findClass RX5 = some m.cls := hown
  have hl : lv_has ls 4 [(0, .ref h0), (1, .int v1), (2, .int v2)] := hl
  have hiX0 : ∀ w ∈ u_ws RX0 TX0 9, w ∈ wsX5_seats := fun _ h9 => List.mem_cons_of_mem _ (List.mem_append_right _ h9)
  have hiX5 : ∀ w ∈ u_ws RX5 TX5 10, w ∈ wsX5_seats := fun _ h9 => List.mem_cons_of_mem _ (List.mem_append_left _ (List.mem_append_right _ h9))
  unfold m_X5_seats at h
  refine lv_aload_n hx hb dX5_seats_0 rfl (lv_at hl 0 rfl) ?_
  refine va_get (D := (dC, dI)) (ci := 5) (v := .ref h0_plan) (C := RX5) (T := TX5) (N := 10) hx hb hts hiX5 hown hK hP 0 rfl rfl 1 (by decide) (hts (.fieldLink RX5 19 "OptionLattice" "plan" "LOptionLattice$Plan;") (by decide +kernel)) (fun _ h9 => h9) rfl dX5_seats_1 ?_
  refine lv_iload_n hx hb dX5_seats_4 rfl (lv_at hl 1 rfl) ?_
  obtain ⟨r_1, hq, h⟩ := bd1_some h
  refine uV_i (b := h0_plan) (As := [.int v1]) (rest := []) ⟨hx, hb, hml, hown, hts⟩ (c_X0_has l dC dI cyC cyI cyJ h0_plan h0_plan_barsOf h0_plan_subjectOf h0_plan_teacherOf h0_plan_seatsOf h0_plan_columnOf h0_plan_columnsWith plan_columnCount_ plan_roomCount_ plan_size_ v1 r_1 hq) (cwV 1 hts gX5_seats_X0_has rfl rfl rfl (by decide +kernel) ⟨Nat.le_of_ble_eq_true rfl, Nat.le_of_ble_eq_true rfl⟩) hK hE hA hP hD hS [1] rfl rfl rfl 0 0 rfl rfl rfl hl.1 rfl (Nat.le_of_ble_eq_true rfl) ⟨Nat.zero_le _, Nat.zero_le _⟩ dX5_seats_5 (fun H locs hP hD hS => ?_)
  have hP : va_P (dC, dI) vwCl [(h0, .inr (5, [.ref h0_text, .ref h0_plan, .ref h0_planDraft, .ref h0_roll, .ref h0_rollDraft, .ref h0_wayFinder, .ref h0_seating, .ref h0_demand, .ref h0_told, .int toldCount_])), (h0_plan, .inr (0, [.int plan_columnCount_, .int plan_roomCount_, .int plan_size_, .ref h0_plan_barsOf, .ref h0_plan_subjectOf, .ref h0_plan_teacherOf, .ref h0_plan_seatsOf, .ref h0_plan_columnOf, .ref h0_plan_columnsWith])), (h0_plan_seatsOf, .inl (cyI, 16, .inl plan_seatsOf_))] H := hP
  have hD : va_D A [(h0, .inr (5, [.ref h0_text, .ref h0_plan, .ref h0_planDraft, .ref h0_roll, .ref h0_rollDraft, .ref h0_wayFinder, .ref h0_seating, .ref h0_demand, .ref h0_told, .int toldCount_])), (h0_plan, .inr (0, [.int plan_columnCount_, .int plan_roomCount_, .int plan_size_, .ref h0_plan_barsOf, .ref h0_plan_subjectOf, .ref h0_plan_teacherOf, .ref h0_plan_seatsOf, .ref h0_plan_columnOf, .ref h0_plan_columnsWith])), (h0_plan_seatsOf, .inl (cyI, 16, .inl plan_seatsOf_))] := hD
  refine lv_if_eq (tgt := 18) hx hb dX5_seats_8 (by decide) (fun c_ => ?_) (fun c_ => ?_)
  · have h := (if_pos c_).symm.trans h
    refine lv_iconst (v := (-1)) hx hb dX5_seats_18 (by decide) ?_
    have h : some ((-1), plan_seatsOf_) = some (rr, o0) := h
    have z0 := Option.some.inj h
    obtain ⟨rfl, z1⟩ := Prod.mk.inj z0
    obtain rfl := z1
    exact hret _ _ _ _ hP hS rfl dX5_seats_19
  · have h := (if_neg c_).symm.trans h
    refine lv_iload_n hx hb dX5_seats_11 rfl (lv_at hl 2 rfl) ?_
    obtain ⟨r_2, hq, h⟩ := bd1_some h
    refine uS_i (As := [.int v2]) (rest := []) ⟨hx, hb, hml, hown, hts⟩ (c_X5_areSeats l dC dI cyC cyI cyJ v2 r_2 hq) (va_cwS 1 hts gX5_seats_X5_areSeats rfl rfl rfl (by decide +kernel) ⟨Nat.le_of_ble_eq_true rfl, Nat.le_of_ble_eq_true rfl⟩) hK hE hA hP hD hS [] rfl rfl rfl rfl hl.1 rfl (Nat.le_of_ble_eq_true rfl) ⟨Nat.zero_le _, Nat.zero_le _⟩ dX5_seats_12 (fun H locs hP hD hS => ?_)
    have hP : va_P (dC, dI) vwCl [(h0, .inr (5, [.ref h0_text, .ref h0_plan, .ref h0_planDraft, .ref h0_roll, .ref h0_rollDraft, .ref h0_wayFinder, .ref h0_seating, .ref h0_demand, .ref h0_told, .int toldCount_])), (h0_plan, .inr (0, [.int plan_columnCount_, .int plan_roomCount_, .int plan_size_, .ref h0_plan_barsOf, .ref h0_plan_subjectOf, .ref h0_plan_teacherOf, .ref h0_plan_seatsOf, .ref h0_plan_columnOf, .ref h0_plan_columnsWith])), (h0_plan_seatsOf, .inl (cyI, 16, .inl plan_seatsOf_))] H := hP
    have hD : va_D A [(h0, .inr (5, [.ref h0_text, .ref h0_plan, .ref h0_planDraft, .ref h0_roll, .ref h0_rollDraft, .ref h0_wayFinder, .ref h0_seating, .ref h0_demand, .ref h0_told, .int toldCount_])), (h0_plan, .inr (0, [.int plan_columnCount_, .int plan_roomCount_, .int plan_size_, .ref h0_plan_barsOf, .ref h0_plan_subjectOf, .ref h0_plan_teacherOf, .ref h0_plan_seatsOf, .ref h0_plan_columnOf, .ref h0_plan_columnsWith])), (h0_plan_seatsOf, .inl (cyI, 16, .inl plan_seatsOf_))] := hD
    refine lv_if_ne (tgt := 20) hx hb dX5_seats_15 (by decide) (fun c_ => ?_) (fun c_ => ?_)
    · have h := (if_neg c_).symm.trans h
      refine lv_aload_n hx hb dX5_seats_20 rfl (lv_at hl 0 rfl) ?_
      refine va_get (D := (dC, dI)) (ci := 5) (v := .ref h0_plan) (C := RX5) (T := TX5) (N := 10) hx hb hts hiX5 hown hK hP 0 rfl rfl 1 (by decide) (hts (.fieldLink RX5 19 "OptionLattice" "plan" "LOptionLattice$Plan;") (by decide +kernel)) (fun _ h9 => h9) rfl dX5_seats_21 ?_
      refine va_getN (host := "OptionLattice") (D := (dC, dI)) (ci := 0) (v := .ref h0_plan_seatsOf) (C := RX0) (T := TX0) (N := 9) hx hb hts hiX0 hown hK hP 1 rfl rfl 6 (by decide) (va_Nw.use rfl (hE.1 ("OptionLattice", 116, "OptionLattice$Plan", "seatsOf", "[I") (List.mem_of_getElem? (i := 11) rfl))) (fun _ h9 => h9) rfl dX5_seats_24 ?_
      refine lv_iload_n hx hb dX5_seats_27 rfl (lv_at hl 1 rfl) ?_
      obtain ⟨g_, h⟩ := gd_some h
      refine va_iald hx hb hK hP 2 1 rfl rfl (inb_in g_) dX5_seats_28 ?_
      refine lv_topi (fun v3_3 e_v3_3 => ?_)
      have h := lt_use e_v3_3 h
      refine lv_istore_n (lv' := [(3, .int v3_3), (0, .ref h0), (1, .int v1), (2, .int v2)]) hx hb dX5_seats_29 rfl hl (by decide) rfl (fun ls hl => ?_)
      refine lv_aload_n hx hb dX5_seats_30 rfl (lv_at hl 1 rfl) ?_
      refine va_get (D := (dC, dI)) (ci := 5) (v := .ref h0_plan) (C := RX5) (T := TX5) (N := 10) hx hb hts hiX5 hown hK hP 0 rfl rfl 1 (by decide) (hts (.fieldLink RX5 19 "OptionLattice" "plan" "LOptionLattice$Plan;") (by decide +kernel)) (fun _ h9 => h9) rfl dX5_seats_31 ?_
      refine va_getN (host := "OptionLattice") (D := (dC, dI)) (ci := 0) (v := .ref h0_plan_seatsOf) (C := RX0) (T := TX0) (N := 9) hx hb hts hiX0 hown hK hP 1 rfl rfl 6 (by decide) (va_Nw.use rfl (hE.1 ("OptionLattice", 116, "OptionLattice$Plan", "seatsOf", "[I") (List.mem_of_getElem? (i := 11) rfl))) (fun _ h9 => h9) rfl dX5_seats_34 ?_
      refine lv_iload_n hx hb dX5_seats_37 rfl (lv_at hl 2 rfl) ?_
      refine lv_iload_n hx hb dX5_seats_38 rfl (lv_at hl 3 rfl) ?_
      obtain ⟨g_, h⟩ := gd_some h
      refine va_iast hx hb hK hP hD hS 2 1 rfl rfl (inb_in g_) dX5_seats_39 (fun H locs hP hD hS => ?_)
      have hP : va_P (dC, dI) vwCl [(h0, .inr (5, [.ref h0_text, .ref h0_plan, .ref h0_planDraft, .ref h0_roll, .ref h0_rollDraft, .ref h0_wayFinder, .ref h0_seating, .ref h0_demand, .ref h0_told, .int toldCount_])), (h0_plan, .inr (0, [.int plan_columnCount_, .int plan_roomCount_, .int plan_size_, .ref h0_plan_barsOf, .ref h0_plan_subjectOf, .ref h0_plan_teacherOf, .ref h0_plan_seatsOf, .ref h0_plan_columnOf, .ref h0_plan_columnsWith])), (h0_plan_seatsOf, .inl (cyI, 16, .inl (upd plan_seatsOf_ v1.toNatClampNeg v2)))] H := hP
      have hD : va_D A [(h0, .inr (5, [.ref h0_text, .ref h0_plan, .ref h0_planDraft, .ref h0_roll, .ref h0_rollDraft, .ref h0_wayFinder, .ref h0_seating, .ref h0_demand, .ref h0_told, .int toldCount_])), (h0_plan, .inr (0, [.int plan_columnCount_, .int plan_roomCount_, .int plan_size_, .ref h0_plan_barsOf, .ref h0_plan_subjectOf, .ref h0_plan_teacherOf, .ref h0_plan_seatsOf, .ref h0_plan_columnOf, .ref h0_plan_columnsWith])), (h0_plan_seatsOf, .inl (cyI, 16, .inl (upd plan_seatsOf_ v1.toNatClampNeg v2)))] := hD
      refine lv_iload_n hx hb dX5_seats_40 rfl (lv_at hl 0 rfl) ?_
      have h : some (v3_3, (upd plan_seatsOf_ v1.toNatClampNeg v2)) = some (rr, o0) := h
      have z0 := Option.some.inj h
      obtain ⟨rfl, z1⟩ := Prod.mk.inj z0
      obtain rfl := z1
      exact hret _ _ _ _ hP hS rfl dX5_seats_41
    · have h := (if_pos c_).symm.trans h
      refine lv_iconst (v := (-1)) hx hb dX5_seats_18 (by decide) ?_
      have h : some ((-1), plan_seatsOf_) = some (rr, o0) := h
      have z0 := Option.some.inj h
      obtain ⟨rfl, z1⟩ := Prod.mk.inj z0
      obtain rfl := z1
      exact hret _ _ _ _ hP hS rfl dX5_seats_19

def m_X5_fittingAnew_54 (v3 : Int32) (v4 : Int32) (t0 : Int32) (rec5 : Int32 → Int32 → Option (Int32)) : Option (Int32) :=
  (if t0 = 0 then lt' (v3 ||| 0) (fun v3_1 => lt' (v4 + 1) (fun v4_2 => rec5 v3_1 v4_2)) else lt' (v3 ||| ((1 : Int32) <<< (v4 &&& 31))) (fun v3_3 => lt' (v4 + 1) (fun v4_4 => rec5 v3_3 v4_4)))
def m_X5_fittingAnew_5 (plan_columnsWith_ : Nat → Int32) (roll_size_ : Int32) (roll_choicesOf_ : Nat → Int32) (v1 : Int32) (v2 : Int32) (rec5 : Int32 → Int32 → Option (Int32)) : Int32 → Int32 → Option (Int32) := fun v3 v4 =>
  (if roll_size_ ≤ v4 then some v3 else gd (inb v4 24) (lt' (roll_choicesOf_ v4.toNatClampNeg) (fun v5_5 => (if (v5_5 &&& v2) = 0 then bd1 (m_X5_hasBit v1 v4) (fun r_7 => m_X5_fittingAnew_54 v3 v4 r_7 rec5) else bd1 (m_X0_hasWay plan_columnsWith_ v5_5) (fun r_6 => m_X5_fittingAnew_54 v3 v4 r_6 rec5)))))
def m_X5_fittingAnew (plan_columnsWith_ : Nat → Int32) (roll_size_ : Int32) (roll_choicesOf_ : Nat → Int32) (v1 : Int32) (v2 : Int32) : Option (Int32) :=
  it2 (m_X5_fittingAnew_5 plan_columnsWith_ roll_size_ roll_choicesOf_ v1 v2) 1100 0 0
abbrev rmX5_fittingAnew : Room := { frames := 4, cells := 0, slots := 0, locals := 91 }
set_option maxHeartbeats 4000000 in
set_option maxRecDepth 100000 in
theorem c_X5_fittingAnew (l : Launch) (dC : Nat → ClassId) (dI : Nat → Nat → Nat) (cyC cyI cyJ : ClassId) (h0 h0_text h0_plan h0_plan_barsOf h0_plan_subjectOf h0_plan_teacherOf h0_plan_seatsOf h0_plan_columnOf h0_plan_columnsWith h0_planDraft h0_roll h0_roll_choicesOf h0_rollDraft h0_wayFinder h0_seating h0_demand h0_told : Nat) (toldCount_ : Int32) (plan_columnCount_ : Int32) (plan_roomCount_ : Int32) (plan_size_ : Int32) (plan_columnsWith_ : Nat → Int32) (roll_size_ : Int32) (roll_kept_ : Int32) (roll_choicesOf_ : Nat → Int32) (v1 : Int32) (v2 : Int32) (rr : Int32) (h : m_X5_fittingAnew plan_columnsWith_ roll_size_ roll_choicesOf_ v1 v2 = some rr) : uMi l yX5_fittingAnew wsX5_fittingAnew rmX5_fittingAnew (dC, dI) [(cyC, .char), (cyI, .int), (cyJ, .long)] [.ref h0, .int v1, .int v2] [(h0, .inr (5, [.ref h0_text, .ref h0_plan, .ref h0_planDraft, .ref h0_roll, .ref h0_rollDraft, .ref h0_wayFinder, .ref h0_seating, .ref h0_demand, .ref h0_told, .int toldCount_])), (h0_plan, .inr (0, [.int plan_columnCount_, .int plan_roomCount_, .int plan_size_, .ref h0_plan_barsOf, .ref h0_plan_subjectOf, .ref h0_plan_teacherOf, .ref h0_plan_seatsOf, .ref h0_plan_columnOf, .ref h0_plan_columnsWith])), (h0_plan_columnsWith, .inl (cyI, 10, .inl plan_columnsWith_)), (h0_roll, .inr (1, [.ref h0_roll_choicesOf, .int roll_size_, .int roll_kept_])), (h0_roll_choicesOf, .inl (cyI, 24, .inl roll_choicesOf_))] [(h0, .inr (5, [.ref h0_text, .ref h0_plan, .ref h0_planDraft, .ref h0_roll, .ref h0_rollDraft, .ref h0_wayFinder, .ref h0_seating, .ref h0_demand, .ref h0_told, .int toldCount_])), (h0_plan, .inr (0, [.int plan_columnCount_, .int plan_roomCount_, .int plan_size_, .ref h0_plan_barsOf, .ref h0_plan_subjectOf, .ref h0_plan_teacherOf, .ref h0_plan_seatsOf, .ref h0_plan_columnOf, .ref h0_plan_columnsWith])), (h0_plan_columnsWith, .inl (cyI, 10, .inl plan_columnsWith_)), (h0_roll, .inr (1, [.ref h0_roll_choicesOf, .int roll_size_, .int roll_kept_])), (h0_roll_choicesOf, .inl (cyI, 24, .inl roll_choicesOf_))] rr := by
  refine uMi.of (cc := cX5_fittingAnew) (maxL := 7) (by decide) rfl (Nat.le_of_ble_eq_true rfl) (fun p e s m args below meth c A ls Q hx hb hml hown hts hA hP hK hD hE hS hl hret => ?_)
  have hown : s.vm.findClass RX5 = some m.cls := hown
  have hl : lv_has ls 7 [(0, .ref h0), (1, .int v1), (2, .int v2)] := hl
  have hiX1 : ∀ w ∈ u_ws RX1 TX1 3, w ∈ wsX5_fittingAnew := fun _ h9 => List.mem_cons_of_mem _ (List.mem_append_left _ (List.mem_append_right _ h9))
  have hiX5 : ∀ w ∈ u_ws RX5 TX5 10, w ∈ wsX5_fittingAnew := fun _ h9 => List.mem_cons_of_mem _ (List.mem_append_left _ (List.mem_append_left _ (List.mem_append_right _ h9)))
  have L5 : ∀ (n5 : Nat), ∀ (v3 : Int32), ∀ (v4 : Int32), it2 (m_X5_fittingAnew_5 plan_columnsWith_ roll_size_ roll_choicesOf_ v1 v2) n5 v3 v4 = some rr → ∀ (H : Heap) (locs : List Loc) (ls : Array Slot), va_P (dC, dI) vwCl [(h0, .inr (5, [.ref h0_text, .ref h0_plan, .ref h0_planDraft, .ref h0_roll, .ref h0_rollDraft, .ref h0_wayFinder, .ref h0_seating, .ref h0_demand, .ref h0_told, .int toldCount_])), (h0_plan, .inr (0, [.int plan_columnCount_, .int plan_roomCount_, .int plan_size_, .ref h0_plan_barsOf, .ref h0_plan_subjectOf, .ref h0_plan_teacherOf, .ref h0_plan_seatsOf, .ref h0_plan_columnOf, .ref h0_plan_columnsWith])), (h0_plan_columnsWith, .inl (cyI, 10, .inl plan_columnsWith_)), (h0_roll, .inr (1, [.ref h0_roll_choicesOf, .int roll_size_, .int roll_kept_])), (h0_roll_choicesOf, .inl (cyI, 24, .inl roll_choicesOf_))] H → va_D A [(h0, .inr (5, [.ref h0_text, .ref h0_plan, .ref h0_planDraft, .ref h0_roll, .ref h0_rollDraft, .ref h0_wayFinder, .ref h0_seating, .ref h0_demand, .ref h0_told, .int toldCount_])), (h0_plan, .inr (0, [.int plan_columnCount_, .int plan_roomCount_, .int plan_size_, .ref h0_plan_barsOf, .ref h0_plan_subjectOf, .ref h0_plan_teacherOf, .ref h0_plan_seatsOf, .ref h0_plan_columnOf, .ref h0_plan_columnsWith])), (h0_plan_columnsWith, .inl (cyI, 10, .inl plan_columnsWith_)), (h0_roll, .inr (1, [.ref h0_roll_choicesOf, .int roll_size_, .int roll_kept_])), (h0_roll_choicesOf, .inl (cyI, 24, .inl roll_choicesOf_))] → va_S A s.heap H locs → lv_has ls 7 [(0, .ref h0), (1, .int v1), (2, .int v2), (3, .int v3), (4, .int v4)] → W p l e rmX5_fittingAnew s m args below meth c H locs 0 0 Q (F0 m 5 ls []) := by
    intro n5
    induction n5 with
    | zero => intro v3 v4 h; exact absurd h (fun z => it2_z z)
    | succ n5 ih5 =>
      have J54 : ∀ (v3 : Int32), ∀ (v4 : Int32), ∀ (t0 : Int32), m_X5_fittingAnew_54 v3 v4 t0 (it2 (m_X5_fittingAnew_5 plan_columnsWith_ roll_size_ roll_choicesOf_ v1 v2) n5) = some rr → ∀ (H : Heap) (locs : List Loc) (ls : Array Slot), va_P (dC, dI) vwCl [(h0, .inr (5, [.ref h0_text, .ref h0_plan, .ref h0_planDraft, .ref h0_roll, .ref h0_rollDraft, .ref h0_wayFinder, .ref h0_seating, .ref h0_demand, .ref h0_told, .int toldCount_])), (h0_plan, .inr (0, [.int plan_columnCount_, .int plan_roomCount_, .int plan_size_, .ref h0_plan_barsOf, .ref h0_plan_subjectOf, .ref h0_plan_teacherOf, .ref h0_plan_seatsOf, .ref h0_plan_columnOf, .ref h0_plan_columnsWith])), (h0_plan_columnsWith, .inl (cyI, 10, .inl plan_columnsWith_)), (h0_roll, .inr (1, [.ref h0_roll_choicesOf, .int roll_size_, .int roll_kept_])), (h0_roll_choicesOf, .inl (cyI, 24, .inl roll_choicesOf_))] H → va_D A [(h0, .inr (5, [.ref h0_text, .ref h0_plan, .ref h0_planDraft, .ref h0_roll, .ref h0_rollDraft, .ref h0_wayFinder, .ref h0_seating, .ref h0_demand, .ref h0_told, .int toldCount_])), (h0_plan, .inr (0, [.int plan_columnCount_, .int plan_roomCount_, .int plan_size_, .ref h0_plan_barsOf, .ref h0_plan_subjectOf, .ref h0_plan_teacherOf, .ref h0_plan_seatsOf, .ref h0_plan_columnOf, .ref h0_plan_columnsWith])), (h0_plan_columnsWith, .inl (cyI, 10, .inl plan_columnsWith_)), (h0_roll, .inr (1, [.ref h0_roll_choicesOf, .int roll_size_, .int roll_kept_])), (h0_roll_choicesOf, .inl (cyI, 24, .inl roll_choicesOf_))] → va_S A s.heap H locs → lv_has ls 7 [(0, .ref h0), (1, .int v1), (2, .int v2), (3, .int v3), (4, .int v4)] → W p l e rmX5_fittingAnew s m args below meth c H locs 0 0 Q (F0 m 54 ls [.int t0]) := by
        intro v3 v4 t0 h H locs ls hP hD hS hl
        unfold m_X5_fittingAnew_54 at h
        refine lv_istore (lv' := [(6, .int t0), (0, .ref h0), (1, .int v1), (2, .int v2), (3, .int v3), (4, .int v4)]) hx hb dX5_fittingAnew_54 hl (by decide) rfl (fun ls hl => ?_)
        refine lv_iload_n hx hb dX5_fittingAnew_56 rfl (lv_at hl 4 rfl) ?_
        refine lv_iload hx hb dX5_fittingAnew_57 (lv_at hl 0 rfl) ?_
        refine lv_if_eq (tgt := 69) hx hb dX5_fittingAnew_59 (by decide) (fun c_ => ?_) (fun c_ => ?_)
        · have h := (if_pos c_).symm.trans h
          refine lv_iconst (v := 0) hx hb dX5_fittingAnew_69 (by decide) ?_
          refine lv_ior hx hb dX5_fittingAnew_70 ?_
          refine lv_topi (fun v3_1 e_v3_1 => ?_)
          have h := lt_use e_v3_1 h
          refine lv_istore_n (lv' := [(3, .int v3_1), (6, .int t0), (0, .ref h0), (1, .int v1), (2, .int v2), (4, .int v4)]) hx hb dX5_fittingAnew_71 rfl hl (by decide) rfl (fun ls hl => ?_)
          obtain ⟨v4_2, e_v4_2⟩ : ∃ z : Int32, z = (v4 + 1) := ⟨_, rfl⟩
          have h := lt_use e_v4_2 h
          refine lv_iinc (v := v4_2) (lv' := [(4, .int v4_2), (3, .int v3_1), (6, .int t0), (0, .ref h0), (1, .int v1), (2, .int v2)]) hx hb dX5_fittingAnew_72 hl (k := 5) rfl (by rw [e_v4_2]; rfl) (by decide) rfl (fun ls hl => ?_)
          refine lv_goto (tgt := 5) hx hb dX5_fittingAnew_75 (by decide) ?_
          exact ih5 v3_1 v4_2 h _ _ _ hP hD hS (lv_sub hl [3, 4, 5, 1, 0] rfl)
        · have h := (if_neg c_).symm.trans h
          refine lv_iconst (v := 1) hx hb dX5_fittingAnew_62 (by decide) ?_
          refine lv_iload hx hb dX5_fittingAnew_63 (lv_at hl 5 rfl) ?_
          refine lv_ishl hx hb dX5_fittingAnew_65 ?_
          refine lv_goto (tgt := 70) hx hb dX5_fittingAnew_66 (by decide) ?_
          refine lv_ior hx hb dX5_fittingAnew_70 ?_
          refine lv_topi (fun v3_3 e_v3_3 => ?_)
          have h := lt_use e_v3_3 h
          refine lv_istore_n (lv' := [(3, .int v3_3), (6, .int t0), (0, .ref h0), (1, .int v1), (2, .int v2), (4, .int v4)]) hx hb dX5_fittingAnew_71 rfl hl (by decide) rfl (fun ls hl => ?_)
          obtain ⟨v4_4, e_v4_4⟩ : ∃ z : Int32, z = (v4 + 1) := ⟨_, rfl⟩
          have h := lt_use e_v4_4 h
          refine lv_iinc (v := v4_4) (lv' := [(4, .int v4_4), (3, .int v3_3), (6, .int t0), (0, .ref h0), (1, .int v1), (2, .int v2)]) hx hb dX5_fittingAnew_72 hl (k := 5) rfl (by rw [e_v4_4]; rfl) (by decide) rfl (fun ls hl => ?_)
          refine lv_goto (tgt := 5) hx hb dX5_fittingAnew_75 (by decide) ?_
          exact ih5 v3_3 v4_4 h _ _ _ hP hD hS (lv_sub hl [3, 4, 5, 1, 0] rfl)
      intro v3 v4 h H locs ls hP hD hS hl
      have h : m_X5_fittingAnew_5 plan_columnsWith_ roll_size_ roll_choicesOf_ v1 v2 (it2 (m_X5_fittingAnew_5 plan_columnsWith_ roll_size_ roll_choicesOf_ v1 v2) n5) v3 v4 = some rr := h
      unfold m_X5_fittingAnew_5 at h
      refine lv_iload hx hb dX5_fittingAnew_5 (lv_at hl 4 rfl) ?_
      refine lv_aload_n hx hb dX5_fittingAnew_7 rfl (lv_at hl 0 rfl) ?_
      refine va_get (D := (dC, dI)) (ci := 5) (v := .ref h0_roll) (C := RX5) (T := TX5) (N := 10) hx hb hts hiX5 hown hK hP 0 rfl rfl 3 (by decide) (hts (.fieldLink RX5 29 "OptionLattice" "roll" "LOptionLattice$Roll;") (by decide +kernel)) (fun _ h9 => h9) rfl dX5_fittingAnew_8 ?_
      refine va_getN (host := "OptionLattice") (D := (dC, dI)) (ci := 1) (v := .int roll_size_) (C := RX1) (T := TX1) (N := 3) hx hb hts hiX1 hown hK hP 3 rfl rfl 1 (by decide) (va_Nw.use rfl (hE.1 ("OptionLattice", 92, "OptionLattice$Roll", "size", "I") (List.mem_of_getElem? (i := 19) rfl))) (fun _ h9 => h9) rfl dX5_fittingAnew_11 ?_
      refine lv_icmp_ge (tgt := 78) hx hb dX5_fittingAnew_14 (by decide) (fun c_ => ?_) (fun c_ => ?_)
      · have h := (if_pos c_).symm.trans h
        refine lv_iload_n hx hb dX5_fittingAnew_78 rfl (lv_at hl 3 rfl) ?_
        have h : some v3 = some rr := h
        have z0 := Option.some.inj h
        obtain rfl := z0
        exact hret _ _ _ _ hP hS rfl dX5_fittingAnew_79
      · have h := (if_neg c_).symm.trans h
        refine lv_aload_n hx hb dX5_fittingAnew_17 rfl (lv_at hl 0 rfl) ?_
        refine va_get (D := (dC, dI)) (ci := 5) (v := .ref h0_roll) (C := RX5) (T := TX5) (N := 10) hx hb hts hiX5 hown hK hP 0 rfl rfl 3 (by decide) (hts (.fieldLink RX5 29 "OptionLattice" "roll" "LOptionLattice$Roll;") (by decide +kernel)) (fun _ h9 => h9) rfl dX5_fittingAnew_18 ?_
        refine va_getN (host := "OptionLattice") (D := (dC, dI)) (ci := 1) (v := .ref h0_roll_choicesOf) (C := RX1) (T := TX1) (N := 3) hx hb hts hiX1 hown hK hP 3 rfl rfl 0 (by decide) (va_Nw.use rfl (hE.1 ("OptionLattice", 168, "OptionLattice$Roll", "choicesOf", "[I") (List.mem_of_getElem? (i := 17) rfl))) (fun _ h9 => h9) rfl dX5_fittingAnew_21 ?_
        refine lv_iload hx hb dX5_fittingAnew_24 (lv_at hl 4 rfl) ?_
        obtain ⟨g_, h⟩ := gd_some h
        refine va_iald hx hb hK hP 4 1 rfl rfl (inb_in g_) dX5_fittingAnew_26 ?_
        refine lv_topi (fun v5_5 e_v5_5 => ?_)
        have h := lt_use e_v5_5 h
        refine lv_istore (lv' := [(5, .int v5_5), (0, .ref h0), (1, .int v1), (2, .int v2), (3, .int v3), (4, .int v4)]) hx hb dX5_fittingAnew_27 hl (by decide) rfl (fun ls hl => ?_)
        refine lv_iload hx hb dX5_fittingAnew_29 (lv_at hl 0 rfl) ?_
        refine lv_iload_n hx hb dX5_fittingAnew_31 rfl (lv_at hl 3 rfl) ?_
        refine lv_iand hx hb dX5_fittingAnew_32 ?_
        refine lv_if_ne (tgt := 45) hx hb dX5_fittingAnew_33 (by decide) (fun c_ => ?_) (fun c_ => ?_)
        · have h := (if_neg c_).symm.trans h
          refine lv_aload_n hx hb dX5_fittingAnew_45 rfl (lv_at hl 1 rfl) ?_
          refine va_get (D := (dC, dI)) (ci := 5) (v := .ref h0_plan) (C := RX5) (T := TX5) (N := 10) hx hb hts hiX5 hown hK hP 0 rfl rfl 1 (by decide) (hts (.fieldLink RX5 19 "OptionLattice" "plan" "LOptionLattice$Plan;") (by decide +kernel)) (fun _ h9 => h9) rfl dX5_fittingAnew_46 ?_
          refine lv_iload hx hb dX5_fittingAnew_49 (lv_at hl 0 rfl) ?_
          obtain ⟨r_6, hq, h⟩ := bd1_some h
          refine uV_i (b := h0_plan) (As := [.int v5_5]) (rest := []) ⟨hx, hb, hml, hown, hts⟩ (c_X0_hasWay l dC dI cyC cyI cyJ h0_plan h0_plan_barsOf h0_plan_subjectOf h0_plan_teacherOf h0_plan_seatsOf h0_plan_columnOf h0_plan_columnsWith plan_columnCount_ plan_roomCount_ plan_size_ plan_columnsWith_ v5_5 r_6 hq) (cwV 1 hts gX5_fittingAnew_X0_hasWay rfl rfl rfl (by decide +kernel) ⟨Nat.le_of_ble_eq_true rfl, Nat.le_of_ble_eq_true rfl⟩) hK hE hA hP hD hS [1, 2] rfl rfl rfl 0 0 rfl rfl rfl hl.1 rfl (Nat.le_of_ble_eq_true rfl) ⟨Nat.zero_le _, Nat.zero_le _⟩ dX5_fittingAnew_51 (fun H locs hP hD hS => ?_)
          have hP : va_P (dC, dI) vwCl [(h0, .inr (5, [.ref h0_text, .ref h0_plan, .ref h0_planDraft, .ref h0_roll, .ref h0_rollDraft, .ref h0_wayFinder, .ref h0_seating, .ref h0_demand, .ref h0_told, .int toldCount_])), (h0_plan, .inr (0, [.int plan_columnCount_, .int plan_roomCount_, .int plan_size_, .ref h0_plan_barsOf, .ref h0_plan_subjectOf, .ref h0_plan_teacherOf, .ref h0_plan_seatsOf, .ref h0_plan_columnOf, .ref h0_plan_columnsWith])), (h0_plan_columnsWith, .inl (cyI, 10, .inl plan_columnsWith_)), (h0_roll, .inr (1, [.ref h0_roll_choicesOf, .int roll_size_, .int roll_kept_])), (h0_roll_choicesOf, .inl (cyI, 24, .inl roll_choicesOf_))] H := hP
          have hD : va_D A [(h0, .inr (5, [.ref h0_text, .ref h0_plan, .ref h0_planDraft, .ref h0_roll, .ref h0_rollDraft, .ref h0_wayFinder, .ref h0_seating, .ref h0_demand, .ref h0_told, .int toldCount_])), (h0_plan, .inr (0, [.int plan_columnCount_, .int plan_roomCount_, .int plan_size_, .ref h0_plan_barsOf, .ref h0_plan_subjectOf, .ref h0_plan_teacherOf, .ref h0_plan_seatsOf, .ref h0_plan_columnOf, .ref h0_plan_columnsWith])), (h0_plan_columnsWith, .inl (cyI, 10, .inl plan_columnsWith_)), (h0_roll, .inr (1, [.ref h0_roll_choicesOf, .int roll_size_, .int roll_kept_])), (h0_roll_choicesOf, .inl (cyI, 24, .inl roll_choicesOf_))] := hD
          exact J54 v3 v4 r_6 h _ _ _ hP hD hS (lv_sub hl [1, 2, 3, 4, 5] rfl)
        · have h := (if_pos c_).symm.trans h
          refine lv_iload_n hx hb dX5_fittingAnew_36 rfl (lv_at hl 2 rfl) ?_
          refine lv_iload hx hb dX5_fittingAnew_37 (lv_at hl 5 rfl) ?_
          obtain ⟨r_7, hq, h⟩ := bd1_some h
          refine uS_i (As := [.int v1, .int v4]) (rest := []) ⟨hx, hb, hml, hown, hts⟩ (c_X5_hasBit l dC dI cyC cyI cyJ v1 v4 r_7 hq) (va_cwS 2 hts gX5_fittingAnew_X5_hasBit rfl rfl rfl (by decide +kernel) ⟨Nat.le_of_ble_eq_true rfl, Nat.le_of_ble_eq_true rfl⟩) hK hE hA hP hD hS [] rfl rfl rfl rfl hl.1 rfl (Nat.le_of_ble_eq_true rfl) ⟨Nat.zero_le _, Nat.zero_le _⟩ dX5_fittingAnew_39 (fun H locs hP hD hS => ?_)
          have hP : va_P (dC, dI) vwCl [(h0, .inr (5, [.ref h0_text, .ref h0_plan, .ref h0_planDraft, .ref h0_roll, .ref h0_rollDraft, .ref h0_wayFinder, .ref h0_seating, .ref h0_demand, .ref h0_told, .int toldCount_])), (h0_plan, .inr (0, [.int plan_columnCount_, .int plan_roomCount_, .int plan_size_, .ref h0_plan_barsOf, .ref h0_plan_subjectOf, .ref h0_plan_teacherOf, .ref h0_plan_seatsOf, .ref h0_plan_columnOf, .ref h0_plan_columnsWith])), (h0_plan_columnsWith, .inl (cyI, 10, .inl plan_columnsWith_)), (h0_roll, .inr (1, [.ref h0_roll_choicesOf, .int roll_size_, .int roll_kept_])), (h0_roll_choicesOf, .inl (cyI, 24, .inl roll_choicesOf_))] H := hP
          have hD : va_D A [(h0, .inr (5, [.ref h0_text, .ref h0_plan, .ref h0_planDraft, .ref h0_roll, .ref h0_rollDraft, .ref h0_wayFinder, .ref h0_seating, .ref h0_demand, .ref h0_told, .int toldCount_])), (h0_plan, .inr (0, [.int plan_columnCount_, .int plan_roomCount_, .int plan_size_, .ref h0_plan_barsOf, .ref h0_plan_subjectOf, .ref h0_plan_teacherOf, .ref h0_plan_seatsOf, .ref h0_plan_columnOf, .ref h0_plan_columnsWith])), (h0_plan_columnsWith, .inl (cyI, 10, .inl plan_columnsWith_)), (h0_roll, .inr (1, [.ref h0_roll_choicesOf, .int roll_size_, .int roll_kept_])), (h0_roll_choicesOf, .inl (cyI, 24, .inl roll_choicesOf_))] := hD
          refine lv_goto (tgt := 54) hx hb dX5_fittingAnew_42 (by decide) ?_
          exact J54 v3 v4 r_7 h _ _ _ hP hD hS (lv_sub hl [1, 2, 3, 4, 5] rfl)
  unfold m_X5_fittingAnew at h
  refine lv_iconst (v := 0) hx hb dX5_fittingAnew_0 (by decide) ?_
  refine lv_istore_n (lv' := [(3, .int 0), (0, .ref h0), (1, .int v1), (2, .int v2)]) hx hb dX5_fittingAnew_1 rfl hl (by decide) rfl (fun ls hl => ?_)
  refine lv_iconst (v := 0) hx hb dX5_fittingAnew_2 (by decide) ?_
  refine lv_istore (lv' := [(4, .int 0), (3, .int 0), (0, .ref h0), (1, .int v1), (2, .int v2)]) hx hb dX5_fittingAnew_3 hl (by decide) rfl (fun ls hl => ?_)
  exact L5  1100 0 0 h _ _ _ hP hD hS (lv_sub hl [2, 3, 4, 1, 0] rfl)

def m_X5_fitting (plan_columnsWith_ : Nat → Int32) (roll_size_ : Int32) (roll_choicesOf_ : Nat → Int32) : Option (Int32) :=
  bd1 (m_X5_fittingAnew plan_columnsWith_ roll_size_ roll_choicesOf_ 0 1023) (fun r_1 => some r_1)
abbrev rmX5_fitting : Room := { frames := 5, cells := 0, slots := 0, locals := 117 }
set_option maxHeartbeats 4000000 in
set_option maxRecDepth 100000 in
theorem c_X5_fitting (l : Launch) (dC : Nat → ClassId) (dI : Nat → Nat → Nat) (cyC cyI cyJ : ClassId) (h0 h0_text h0_plan h0_plan_barsOf h0_plan_subjectOf h0_plan_teacherOf h0_plan_seatsOf h0_plan_columnOf h0_plan_columnsWith h0_planDraft h0_roll h0_roll_choicesOf h0_rollDraft h0_wayFinder h0_seating h0_demand h0_told : Nat) (toldCount_ : Int32) (plan_columnCount_ : Int32) (plan_roomCount_ : Int32) (plan_size_ : Int32) (plan_columnsWith_ : Nat → Int32) (roll_size_ : Int32) (roll_kept_ : Int32) (roll_choicesOf_ : Nat → Int32) (rr : Int32) (h : m_X5_fitting plan_columnsWith_ roll_size_ roll_choicesOf_ = some rr) : uMi l yX5_fitting wsX5_fitting rmX5_fitting (dC, dI) [(cyC, .char), (cyI, .int), (cyJ, .long)] [.ref h0] [(h0, .inr (5, [.ref h0_text, .ref h0_plan, .ref h0_planDraft, .ref h0_roll, .ref h0_rollDraft, .ref h0_wayFinder, .ref h0_seating, .ref h0_demand, .ref h0_told, .int toldCount_])), (h0_plan, .inr (0, [.int plan_columnCount_, .int plan_roomCount_, .int plan_size_, .ref h0_plan_barsOf, .ref h0_plan_subjectOf, .ref h0_plan_teacherOf, .ref h0_plan_seatsOf, .ref h0_plan_columnOf, .ref h0_plan_columnsWith])), (h0_plan_columnsWith, .inl (cyI, 10, .inl plan_columnsWith_)), (h0_roll, .inr (1, [.ref h0_roll_choicesOf, .int roll_size_, .int roll_kept_])), (h0_roll_choicesOf, .inl (cyI, 24, .inl roll_choicesOf_))] [(h0, .inr (5, [.ref h0_text, .ref h0_plan, .ref h0_planDraft, .ref h0_roll, .ref h0_rollDraft, .ref h0_wayFinder, .ref h0_seating, .ref h0_demand, .ref h0_told, .int toldCount_])), (h0_plan, .inr (0, [.int plan_columnCount_, .int plan_roomCount_, .int plan_size_, .ref h0_plan_barsOf, .ref h0_plan_subjectOf, .ref h0_plan_teacherOf, .ref h0_plan_seatsOf, .ref h0_plan_columnOf, .ref h0_plan_columnsWith])), (h0_plan_columnsWith, .inl (cyI, 10, .inl plan_columnsWith_)), (h0_roll, .inr (1, [.ref h0_roll_choicesOf, .int roll_size_, .int roll_kept_])), (h0_roll_choicesOf, .inl (cyI, 24, .inl roll_choicesOf_))] rr := by
  refine uMi.of (cc := cX5_fitting) (maxL := 1) (by decide) rfl (Nat.le_of_ble_eq_true rfl) (fun p e s m args below meth c A ls Q hx hb hml hown hts hA hP hK hD hE hS hl hret => ?_)
  have hown : s.vm.findClass RX5 = some m.cls := hown
  have hl : lv_has ls 1 [(0, .ref h0)] := hl
  unfold m_X5_fitting at h
  refine lv_aload_n hx hb dX5_fitting_0 rfl (lv_at hl 0 rfl) ?_
  refine lv_iconst (v := 0) hx hb dX5_fitting_1 (by decide) ?_
  refine lv_sipush (v := 1023) hx hb dX5_fitting_2 (by decide) ?_
  obtain ⟨r_1, hq, h⟩ := bd1_some h
  refine uV_i (b := h0) (As := [.int 0, .int 1023]) (rest := []) ⟨hx, hb, hml, hown, hts⟩ (c_X5_fittingAnew l dC dI cyC cyI cyJ h0 h0_text h0_plan h0_plan_barsOf h0_plan_subjectOf h0_plan_teacherOf h0_plan_seatsOf h0_plan_columnOf h0_plan_columnsWith h0_planDraft h0_roll h0_roll_choicesOf h0_rollDraft h0_wayFinder h0_seating h0_demand h0_told toldCount_ plan_columnCount_ plan_roomCount_ plan_size_ plan_columnsWith_ roll_size_ roll_kept_ roll_choicesOf_ 0 1023 r_1 hq) (cwV 2 hts gX5_fitting_X5_fittingAnew rfl rfl rfl (by decide +kernel) ⟨Nat.le_of_ble_eq_true rfl, Nat.le_of_ble_eq_true rfl⟩) hK hE hA hP hD hS [0, 1, 2, 3, 4] rfl rfl rfl 5 0 rfl rfl rfl hl.1 rfl (Nat.le_of_ble_eq_true rfl) ⟨Nat.zero_le _, Nat.zero_le _⟩ dX5_fitting_5 (fun H locs hP hD hS => ?_)
  have hP : va_P (dC, dI) vwCl [(h0, .inr (5, [.ref h0_text, .ref h0_plan, .ref h0_planDraft, .ref h0_roll, .ref h0_rollDraft, .ref h0_wayFinder, .ref h0_seating, .ref h0_demand, .ref h0_told, .int toldCount_])), (h0_plan, .inr (0, [.int plan_columnCount_, .int plan_roomCount_, .int plan_size_, .ref h0_plan_barsOf, .ref h0_plan_subjectOf, .ref h0_plan_teacherOf, .ref h0_plan_seatsOf, .ref h0_plan_columnOf, .ref h0_plan_columnsWith])), (h0_plan_columnsWith, .inl (cyI, 10, .inl plan_columnsWith_)), (h0_roll, .inr (1, [.ref h0_roll_choicesOf, .int roll_size_, .int roll_kept_])), (h0_roll_choicesOf, .inl (cyI, 24, .inl roll_choicesOf_))] H := hP
  have hD : va_D A [(h0, .inr (5, [.ref h0_text, .ref h0_plan, .ref h0_planDraft, .ref h0_roll, .ref h0_rollDraft, .ref h0_wayFinder, .ref h0_seating, .ref h0_demand, .ref h0_told, .int toldCount_])), (h0_plan, .inr (0, [.int plan_columnCount_, .int plan_roomCount_, .int plan_size_, .ref h0_plan_barsOf, .ref h0_plan_subjectOf, .ref h0_plan_teacherOf, .ref h0_plan_seatsOf, .ref h0_plan_columnOf, .ref h0_plan_columnsWith])), (h0_plan_columnsWith, .inl (cyI, 10, .inl plan_columnsWith_)), (h0_roll, .inr (1, [.ref h0_roll_choicesOf, .int roll_size_, .int roll_kept_])), (h0_roll_choicesOf, .inl (cyI, 24, .inl roll_choicesOf_))] := hD
  have h : some r_1 = some rr := h
  have z0 := Option.some.inj h
  obtain rfl := z0
  exact hret _ _ _ _ hP hS rfl dX5_fitting_8

def m_X5_puts (plan_columnCount_ : Int32) (plan_roomCount_ : Int32) (plan_size_ : Int32) (plan_barsOf_ : Nat → Int32) (plan_subjectOf_ : Nat → Int32) (plan_teacherOf_ : Nat → Int32) (plan_columnOf_ : Nat → Int32) (plan_columnsWith_ : Nat → Int32) (roll_size_ : Int32) (roll_choicesOf_ : Nat → Int32) (v1 : Int32) (v2 : Int32) : Option (Int32 × (Nat → Int32) × (Nat → Int32)) :=
  bd1 (m_X0_has plan_size_ v1) (fun r_1 => (if r_1 = 0 then some ((-1), plan_columnOf_, plan_columnsWith_) else bd1 (m_X0_hasColumn plan_columnCount_ v2) (fun r_2 => (if r_2 = 0 then some ((-1), plan_columnOf_, plan_columnsWith_) else gd (inb v1 16) ((if (plan_columnOf_ v1.toNatClampNeg) = v2 then some ((-2), plan_columnOf_, plan_columnsWith_) else bd1 (m_X0_mayMove plan_roomCount_ plan_size_ plan_barsOf_ plan_teacherOf_ plan_columnOf_ v1 v2) (fun r_3 => (if r_3 = 0 then some ((-3), plan_columnOf_, plan_columnsWith_) else bd2 (m_X0_place plan_size_ plan_subjectOf_ plan_columnOf_ plan_columnsWith_ v1 v2) (fun plan_columnOf_4 plan_columnsWith_5 => bd1 (m_X5_fitting plan_columnsWith_5 roll_size_ roll_choicesOf_) (fun r_6 => bd1 (m_J6_bitCount_0f7a4 r_6) (fun r_7 => some (r_7, plan_columnOf_4, plan_columnsWith_5))))))))))))
abbrev rmX5_puts : Room := { frames := 6, cells := 0, slots := 0, locals := 137 }
set_option maxHeartbeats 4000000 in
set_option maxRecDepth 100000 in
theorem c_X5_puts (l : Launch) (dC : Nat → ClassId) (dI : Nat → Nat → Nat) (cyC cyI cyJ : ClassId) (h0 h0_text h0_plan h0_plan_barsOf h0_plan_subjectOf h0_plan_teacherOf h0_plan_seatsOf h0_plan_columnOf h0_plan_columnsWith h0_planDraft h0_roll h0_roll_choicesOf h0_rollDraft h0_wayFinder h0_seating h0_demand h0_told : Nat) (toldCount_ : Int32) (plan_columnCount_ : Int32) (plan_roomCount_ : Int32) (plan_size_ : Int32) (plan_barsOf_ : Nat → Int32) (plan_subjectOf_ : Nat → Int32) (plan_teacherOf_ : Nat → Int32) (plan_columnOf_ : Nat → Int32) (plan_columnsWith_ : Nat → Int32) (roll_size_ : Int32) (roll_kept_ : Int32) (roll_choicesOf_ : Nat → Int32) (v1 : Int32) (v2 : Int32) (rr : Int32) (o0 : Nat → Int32) (o1 : Nat → Int32) (h : m_X5_puts plan_columnCount_ plan_roomCount_ plan_size_ plan_barsOf_ plan_subjectOf_ plan_teacherOf_ plan_columnOf_ plan_columnsWith_ roll_size_ roll_choicesOf_ v1 v2 = some (rr, o0, o1)) : uMi l yX5_puts wsX5_puts rmX5_puts (dC, dI) [(cyC, .char), (cyI, .int), (cyJ, .long)] [.ref h0, .int v1, .int v2] [(h0, .inr (5, [.ref h0_text, .ref h0_plan, .ref h0_planDraft, .ref h0_roll, .ref h0_rollDraft, .ref h0_wayFinder, .ref h0_seating, .ref h0_demand, .ref h0_told, .int toldCount_])), (h0_plan, .inr (0, [.int plan_columnCount_, .int plan_roomCount_, .int plan_size_, .ref h0_plan_barsOf, .ref h0_plan_subjectOf, .ref h0_plan_teacherOf, .ref h0_plan_seatsOf, .ref h0_plan_columnOf, .ref h0_plan_columnsWith])), (h0_plan_barsOf, .inl (cyI, 10, .inl plan_barsOf_)), (h0_plan_subjectOf, .inl (cyI, 16, .inl plan_subjectOf_)), (h0_plan_teacherOf, .inl (cyI, 16, .inl plan_teacherOf_)), (h0_plan_columnOf, .inl (cyI, 16, .inl plan_columnOf_)), (h0_plan_columnsWith, .inl (cyI, 10, .inl plan_columnsWith_)), (h0_roll, .inr (1, [.ref h0_roll_choicesOf, .int roll_size_, .int roll_kept_])), (h0_roll_choicesOf, .inl (cyI, 24, .inl roll_choicesOf_))] [(h0, .inr (5, [.ref h0_text, .ref h0_plan, .ref h0_planDraft, .ref h0_roll, .ref h0_rollDraft, .ref h0_wayFinder, .ref h0_seating, .ref h0_demand, .ref h0_told, .int toldCount_])), (h0_plan, .inr (0, [.int plan_columnCount_, .int plan_roomCount_, .int plan_size_, .ref h0_plan_barsOf, .ref h0_plan_subjectOf, .ref h0_plan_teacherOf, .ref h0_plan_seatsOf, .ref h0_plan_columnOf, .ref h0_plan_columnsWith])), (h0_plan_barsOf, .inl (cyI, 10, .inl plan_barsOf_)), (h0_plan_subjectOf, .inl (cyI, 16, .inl plan_subjectOf_)), (h0_plan_teacherOf, .inl (cyI, 16, .inl plan_teacherOf_)), (h0_plan_columnOf, .inl (cyI, 16, .inl o0)), (h0_plan_columnsWith, .inl (cyI, 10, .inl o1)), (h0_roll, .inr (1, [.ref h0_roll_choicesOf, .int roll_size_, .int roll_kept_])), (h0_roll_choicesOf, .inl (cyI, 24, .inl roll_choicesOf_))] rr := by
  refine uMi.of (cc := cX5_puts) (maxL := 3) (by decide) rfl (Nat.le_of_ble_eq_true rfl) (fun p e s m args below meth c A ls Q hx hb hml hown hts hA hP hK hD hE hS hl hret => ?_)
  have hown : s.vm.findClass RX5 = some m.cls := hown
  have hl : lv_has ls 3 [(0, .ref h0), (1, .int v1), (2, .int v2)] := hl
  have hiX0 : ∀ w ∈ u_ws RX0 TX0 9, w ∈ wsX5_puts := fun _ h9 => List.mem_cons_of_mem _ (List.mem_append_left _ (List.mem_append_right _ h9))
  have hiX5 : ∀ w ∈ u_ws RX5 TX5 10, w ∈ wsX5_puts := fun _ h9 => List.mem_cons_of_mem _ (List.mem_append_left _ (List.mem_append_left _ (List.mem_append_right _ h9)))
  unfold m_X5_puts at h
  refine lv_aload_n hx hb dX5_puts_0 rfl (lv_at hl 0 rfl) ?_
  refine va_get (D := (dC, dI)) (ci := 5) (v := .ref h0_plan) (C := RX5) (T := TX5) (N := 10) hx hb hts hiX5 hown hK hP 0 rfl rfl 1 (by decide) (hts (.fieldLink RX5 19 "OptionLattice" "plan" "LOptionLattice$Plan;") (by decide +kernel)) (fun _ h9 => h9) rfl dX5_puts_1 ?_
  refine lv_iload_n hx hb dX5_puts_4 rfl (lv_at hl 1 rfl) ?_
  obtain ⟨r_1, hq, h⟩ := bd1_some h
  refine uV_i (b := h0_plan) (As := [.int v1]) (rest := []) ⟨hx, hb, hml, hown, hts⟩ (c_X0_has l dC dI cyC cyI cyJ h0_plan h0_plan_barsOf h0_plan_subjectOf h0_plan_teacherOf h0_plan_seatsOf h0_plan_columnOf h0_plan_columnsWith plan_columnCount_ plan_roomCount_ plan_size_ v1 r_1 hq) (cwV 1 hts gX5_puts_X0_has rfl rfl rfl (by decide +kernel) ⟨Nat.le_of_ble_eq_true rfl, Nat.le_of_ble_eq_true rfl⟩) hK hE hA hP hD hS [1] rfl rfl rfl 0 0 rfl rfl rfl hl.1 rfl (Nat.le_of_ble_eq_true rfl) ⟨Nat.zero_le _, Nat.zero_le _⟩ dX5_puts_5 (fun H locs hP hD hS => ?_)
  have hP : va_P (dC, dI) vwCl [(h0, .inr (5, [.ref h0_text, .ref h0_plan, .ref h0_planDraft, .ref h0_roll, .ref h0_rollDraft, .ref h0_wayFinder, .ref h0_seating, .ref h0_demand, .ref h0_told, .int toldCount_])), (h0_plan, .inr (0, [.int plan_columnCount_, .int plan_roomCount_, .int plan_size_, .ref h0_plan_barsOf, .ref h0_plan_subjectOf, .ref h0_plan_teacherOf, .ref h0_plan_seatsOf, .ref h0_plan_columnOf, .ref h0_plan_columnsWith])), (h0_plan_barsOf, .inl (cyI, 10, .inl plan_barsOf_)), (h0_plan_subjectOf, .inl (cyI, 16, .inl plan_subjectOf_)), (h0_plan_teacherOf, .inl (cyI, 16, .inl plan_teacherOf_)), (h0_plan_columnOf, .inl (cyI, 16, .inl plan_columnOf_)), (h0_plan_columnsWith, .inl (cyI, 10, .inl plan_columnsWith_)), (h0_roll, .inr (1, [.ref h0_roll_choicesOf, .int roll_size_, .int roll_kept_])), (h0_roll_choicesOf, .inl (cyI, 24, .inl roll_choicesOf_))] H := hP
  have hD : va_D A [(h0, .inr (5, [.ref h0_text, .ref h0_plan, .ref h0_planDraft, .ref h0_roll, .ref h0_rollDraft, .ref h0_wayFinder, .ref h0_seating, .ref h0_demand, .ref h0_told, .int toldCount_])), (h0_plan, .inr (0, [.int plan_columnCount_, .int plan_roomCount_, .int plan_size_, .ref h0_plan_barsOf, .ref h0_plan_subjectOf, .ref h0_plan_teacherOf, .ref h0_plan_seatsOf, .ref h0_plan_columnOf, .ref h0_plan_columnsWith])), (h0_plan_barsOf, .inl (cyI, 10, .inl plan_barsOf_)), (h0_plan_subjectOf, .inl (cyI, 16, .inl plan_subjectOf_)), (h0_plan_teacherOf, .inl (cyI, 16, .inl plan_teacherOf_)), (h0_plan_columnOf, .inl (cyI, 16, .inl plan_columnOf_)), (h0_plan_columnsWith, .inl (cyI, 10, .inl plan_columnsWith_)), (h0_roll, .inr (1, [.ref h0_roll_choicesOf, .int roll_size_, .int roll_kept_])), (h0_roll_choicesOf, .inl (cyI, 24, .inl roll_choicesOf_))] := hD
  refine lv_if_eq (tgt := 22) hx hb dX5_puts_8 (by decide) (fun c_ => ?_) (fun c_ => ?_)
  · have h := (if_pos c_).symm.trans h
    refine lv_iconst (v := (-1)) hx hb dX5_puts_22 (by decide) ?_
    have h : some ((-1), plan_columnOf_, plan_columnsWith_) = some (rr, o0, o1) := h
    have z0 := Option.some.inj h
    obtain ⟨rfl, z1⟩ := Prod.mk.inj z0
    obtain ⟨rfl, z2⟩ := Prod.mk.inj z1
    obtain rfl := z2
    exact hret _ _ _ _ hP hS rfl dX5_puts_23
  · have h := (if_neg c_).symm.trans h
    refine lv_aload_n hx hb dX5_puts_11 rfl (lv_at hl 0 rfl) ?_
    refine va_get (D := (dC, dI)) (ci := 5) (v := .ref h0_plan) (C := RX5) (T := TX5) (N := 10) hx hb hts hiX5 hown hK hP 0 rfl rfl 1 (by decide) (hts (.fieldLink RX5 19 "OptionLattice" "plan" "LOptionLattice$Plan;") (by decide +kernel)) (fun _ h9 => h9) rfl dX5_puts_12 ?_
    refine lv_iload_n hx hb dX5_puts_15 rfl (lv_at hl 2 rfl) ?_
    obtain ⟨r_2, hq, h⟩ := bd1_some h
    refine uV_i (b := h0_plan) (As := [.int v2]) (rest := []) ⟨hx, hb, hml, hown, hts⟩ (c_X0_hasColumn l dC dI cyC cyI cyJ h0_plan h0_plan_barsOf h0_plan_subjectOf h0_plan_teacherOf h0_plan_seatsOf h0_plan_columnOf h0_plan_columnsWith plan_columnCount_ plan_roomCount_ plan_size_ v2 r_2 hq) (cwV 1 hts gX5_puts_X0_hasColumn rfl rfl rfl (by decide +kernel) ⟨Nat.le_of_ble_eq_true rfl, Nat.le_of_ble_eq_true rfl⟩) hK hE hA hP hD hS [1] rfl rfl rfl 0 0 rfl rfl rfl hl.1 rfl (Nat.le_of_ble_eq_true rfl) ⟨Nat.zero_le _, Nat.zero_le _⟩ dX5_puts_16 (fun H locs hP hD hS => ?_)
    have hP : va_P (dC, dI) vwCl [(h0, .inr (5, [.ref h0_text, .ref h0_plan, .ref h0_planDraft, .ref h0_roll, .ref h0_rollDraft, .ref h0_wayFinder, .ref h0_seating, .ref h0_demand, .ref h0_told, .int toldCount_])), (h0_plan, .inr (0, [.int plan_columnCount_, .int plan_roomCount_, .int plan_size_, .ref h0_plan_barsOf, .ref h0_plan_subjectOf, .ref h0_plan_teacherOf, .ref h0_plan_seatsOf, .ref h0_plan_columnOf, .ref h0_plan_columnsWith])), (h0_plan_barsOf, .inl (cyI, 10, .inl plan_barsOf_)), (h0_plan_subjectOf, .inl (cyI, 16, .inl plan_subjectOf_)), (h0_plan_teacherOf, .inl (cyI, 16, .inl plan_teacherOf_)), (h0_plan_columnOf, .inl (cyI, 16, .inl plan_columnOf_)), (h0_plan_columnsWith, .inl (cyI, 10, .inl plan_columnsWith_)), (h0_roll, .inr (1, [.ref h0_roll_choicesOf, .int roll_size_, .int roll_kept_])), (h0_roll_choicesOf, .inl (cyI, 24, .inl roll_choicesOf_))] H := hP
    have hD : va_D A [(h0, .inr (5, [.ref h0_text, .ref h0_plan, .ref h0_planDraft, .ref h0_roll, .ref h0_rollDraft, .ref h0_wayFinder, .ref h0_seating, .ref h0_demand, .ref h0_told, .int toldCount_])), (h0_plan, .inr (0, [.int plan_columnCount_, .int plan_roomCount_, .int plan_size_, .ref h0_plan_barsOf, .ref h0_plan_subjectOf, .ref h0_plan_teacherOf, .ref h0_plan_seatsOf, .ref h0_plan_columnOf, .ref h0_plan_columnsWith])), (h0_plan_barsOf, .inl (cyI, 10, .inl plan_barsOf_)), (h0_plan_subjectOf, .inl (cyI, 16, .inl plan_subjectOf_)), (h0_plan_teacherOf, .inl (cyI, 16, .inl plan_teacherOf_)), (h0_plan_columnOf, .inl (cyI, 16, .inl plan_columnOf_)), (h0_plan_columnsWith, .inl (cyI, 10, .inl plan_columnsWith_)), (h0_roll, .inr (1, [.ref h0_roll_choicesOf, .int roll_size_, .int roll_kept_])), (h0_roll_choicesOf, .inl (cyI, 24, .inl roll_choicesOf_))] := hD
    refine lv_if_ne (tgt := 24) hx hb dX5_puts_19 (by decide) (fun c_ => ?_) (fun c_ => ?_)
    · have h := (if_neg c_).symm.trans h
      refine lv_aload_n hx hb dX5_puts_24 rfl (lv_at hl 0 rfl) ?_
      refine va_get (D := (dC, dI)) (ci := 5) (v := .ref h0_plan) (C := RX5) (T := TX5) (N := 10) hx hb hts hiX5 hown hK hP 0 rfl rfl 1 (by decide) (hts (.fieldLink RX5 19 "OptionLattice" "plan" "LOptionLattice$Plan;") (by decide +kernel)) (fun _ h9 => h9) rfl dX5_puts_25 ?_
      refine va_getN (host := "OptionLattice") (D := (dC, dI)) (ci := 0) (v := .ref h0_plan_columnOf) (C := RX0) (T := TX0) (N := 9) hx hb hts hiX0 hown hK hP 1 rfl rfl 7 (by decide) (va_Nw.use rfl (hE.1 ("OptionLattice", 122, "OptionLattice$Plan", "columnOf", "[I") (List.mem_of_getElem? (i := 13) rfl))) (fun _ h9 => h9) rfl dX5_puts_28 ?_
      refine lv_iload_n hx hb dX5_puts_31 rfl (lv_at hl 1 rfl) ?_
      obtain ⟨g_, h⟩ := gd_some h
      refine va_iald hx hb hK hP 5 1 rfl rfl (inb_in g_) dX5_puts_32 ?_
      refine lv_iload_n hx hb dX5_puts_33 rfl (lv_at hl 2 rfl) ?_
      refine lv_icmp_ne (tgt := 40) hx hb dX5_puts_34 (by decide) (fun c_ => ?_) (fun c_ => ?_)
      · have h := (if_neg c_).symm.trans h
        refine lv_aload_n hx hb dX5_puts_40 rfl (lv_at hl 0 rfl) ?_
        refine va_get (D := (dC, dI)) (ci := 5) (v := .ref h0_plan) (C := RX5) (T := TX5) (N := 10) hx hb hts hiX5 hown hK hP 0 rfl rfl 1 (by decide) (hts (.fieldLink RX5 19 "OptionLattice" "plan" "LOptionLattice$Plan;") (by decide +kernel)) (fun _ h9 => h9) rfl dX5_puts_41 ?_
        refine lv_iload_n hx hb dX5_puts_44 rfl (lv_at hl 1 rfl) ?_
        refine lv_iload_n hx hb dX5_puts_45 rfl (lv_at hl 2 rfl) ?_
        obtain ⟨r_3, hq, h⟩ := bd1_some h
        refine uV_i (b := h0_plan) (As := [.int v1, .int v2]) (rest := []) ⟨hx, hb, hml, hown, hts⟩ (c_X0_mayMove l dC dI cyC cyI cyJ h0_plan h0_plan_barsOf h0_plan_subjectOf h0_plan_teacherOf h0_plan_seatsOf h0_plan_columnOf h0_plan_columnsWith plan_columnCount_ plan_roomCount_ plan_size_ plan_barsOf_ plan_teacherOf_ plan_columnOf_ v1 v2 r_3 hq) (cwV 2 hts gX5_puts_X0_mayMove rfl rfl rfl (by decide +kernel) ⟨Nat.le_of_ble_eq_true rfl, Nat.le_of_ble_eq_true rfl⟩) hK hE hA hP hD hS [1, 2, 4, 5] rfl rfl rfl 0 0 rfl rfl rfl hl.1 rfl (Nat.le_of_ble_eq_true rfl) ⟨Nat.zero_le _, Nat.zero_le _⟩ dX5_puts_46 (fun H locs hP hD hS => ?_)
        have hP : va_P (dC, dI) vwCl [(h0, .inr (5, [.ref h0_text, .ref h0_plan, .ref h0_planDraft, .ref h0_roll, .ref h0_rollDraft, .ref h0_wayFinder, .ref h0_seating, .ref h0_demand, .ref h0_told, .int toldCount_])), (h0_plan, .inr (0, [.int plan_columnCount_, .int plan_roomCount_, .int plan_size_, .ref h0_plan_barsOf, .ref h0_plan_subjectOf, .ref h0_plan_teacherOf, .ref h0_plan_seatsOf, .ref h0_plan_columnOf, .ref h0_plan_columnsWith])), (h0_plan_barsOf, .inl (cyI, 10, .inl plan_barsOf_)), (h0_plan_subjectOf, .inl (cyI, 16, .inl plan_subjectOf_)), (h0_plan_teacherOf, .inl (cyI, 16, .inl plan_teacherOf_)), (h0_plan_columnOf, .inl (cyI, 16, .inl plan_columnOf_)), (h0_plan_columnsWith, .inl (cyI, 10, .inl plan_columnsWith_)), (h0_roll, .inr (1, [.ref h0_roll_choicesOf, .int roll_size_, .int roll_kept_])), (h0_roll_choicesOf, .inl (cyI, 24, .inl roll_choicesOf_))] H := hP
        have hD : va_D A [(h0, .inr (5, [.ref h0_text, .ref h0_plan, .ref h0_planDraft, .ref h0_roll, .ref h0_rollDraft, .ref h0_wayFinder, .ref h0_seating, .ref h0_demand, .ref h0_told, .int toldCount_])), (h0_plan, .inr (0, [.int plan_columnCount_, .int plan_roomCount_, .int plan_size_, .ref h0_plan_barsOf, .ref h0_plan_subjectOf, .ref h0_plan_teacherOf, .ref h0_plan_seatsOf, .ref h0_plan_columnOf, .ref h0_plan_columnsWith])), (h0_plan_barsOf, .inl (cyI, 10, .inl plan_barsOf_)), (h0_plan_subjectOf, .inl (cyI, 16, .inl plan_subjectOf_)), (h0_plan_teacherOf, .inl (cyI, 16, .inl plan_teacherOf_)), (h0_plan_columnOf, .inl (cyI, 16, .inl plan_columnOf_)), (h0_plan_columnsWith, .inl (cyI, 10, .inl plan_columnsWith_)), (h0_roll, .inr (1, [.ref h0_roll_choicesOf, .int roll_size_, .int roll_kept_])), (h0_roll_choicesOf, .inl (cyI, 24, .inl roll_choicesOf_))] := hD
        refine lv_if_ne (tgt := 55) hx hb dX5_puts_49 (by decide) (fun c_ => ?_) (fun c_ => ?_)
        · have h := (if_neg c_).symm.trans h
          refine lv_aload_n hx hb dX5_puts_55 rfl (lv_at hl 0 rfl) ?_
          refine va_get (D := (dC, dI)) (ci := 5) (v := .ref h0_plan) (C := RX5) (T := TX5) (N := 10) hx hb hts hiX5 hown hK hP 0 rfl rfl 1 (by decide) (hts (.fieldLink RX5 19 "OptionLattice" "plan" "LOptionLattice$Plan;") (by decide +kernel)) (fun _ h9 => h9) rfl dX5_puts_56 ?_
          refine lv_iload_n hx hb dX5_puts_59 rfl (lv_at hl 1 rfl) ?_
          refine lv_iload_n hx hb dX5_puts_60 rfl (lv_at hl 2 rfl) ?_
          obtain ⟨plan_columnOf_4, plan_columnsWith_5, hq, h⟩ := bd2_some h
          refine uV_v (b := h0_plan) (As := [.int v1, .int v2]) (rest := []) ⟨hx, hb, hml, hown, hts⟩ (c_X0_place l dC dI cyC cyI cyJ h0_plan h0_plan_barsOf h0_plan_subjectOf h0_plan_teacherOf h0_plan_seatsOf h0_plan_columnOf h0_plan_columnsWith plan_columnCount_ plan_roomCount_ plan_size_ plan_subjectOf_ plan_columnOf_ plan_columnsWith_ v1 v2 plan_columnOf_4 plan_columnsWith_5 hq) (cwV 2 hts gX5_puts_X0_place rfl rfl rfl (by decide +kernel) ⟨Nat.le_of_ble_eq_true rfl, Nat.le_of_ble_eq_true rfl⟩) hK hE hA hP hD hS [1, 3, 5, 6] rfl rfl rfl 0 0 rfl rfl rfl hl.1 rfl (Nat.le_of_ble_eq_true rfl) ⟨Nat.zero_le _, Nat.zero_le _⟩ dX5_puts_61 (fun H locs hP hD hS => ?_)
          have hP : va_P (dC, dI) vwCl [(h0, .inr (5, [.ref h0_text, .ref h0_plan, .ref h0_planDraft, .ref h0_roll, .ref h0_rollDraft, .ref h0_wayFinder, .ref h0_seating, .ref h0_demand, .ref h0_told, .int toldCount_])), (h0_plan, .inr (0, [.int plan_columnCount_, .int plan_roomCount_, .int plan_size_, .ref h0_plan_barsOf, .ref h0_plan_subjectOf, .ref h0_plan_teacherOf, .ref h0_plan_seatsOf, .ref h0_plan_columnOf, .ref h0_plan_columnsWith])), (h0_plan_barsOf, .inl (cyI, 10, .inl plan_barsOf_)), (h0_plan_subjectOf, .inl (cyI, 16, .inl plan_subjectOf_)), (h0_plan_teacherOf, .inl (cyI, 16, .inl plan_teacherOf_)), (h0_plan_columnOf, .inl (cyI, 16, .inl plan_columnOf_4)), (h0_plan_columnsWith, .inl (cyI, 10, .inl plan_columnsWith_5)), (h0_roll, .inr (1, [.ref h0_roll_choicesOf, .int roll_size_, .int roll_kept_])), (h0_roll_choicesOf, .inl (cyI, 24, .inl roll_choicesOf_))] H := hP
          have hD : va_D A [(h0, .inr (5, [.ref h0_text, .ref h0_plan, .ref h0_planDraft, .ref h0_roll, .ref h0_rollDraft, .ref h0_wayFinder, .ref h0_seating, .ref h0_demand, .ref h0_told, .int toldCount_])), (h0_plan, .inr (0, [.int plan_columnCount_, .int plan_roomCount_, .int plan_size_, .ref h0_plan_barsOf, .ref h0_plan_subjectOf, .ref h0_plan_teacherOf, .ref h0_plan_seatsOf, .ref h0_plan_columnOf, .ref h0_plan_columnsWith])), (h0_plan_barsOf, .inl (cyI, 10, .inl plan_barsOf_)), (h0_plan_subjectOf, .inl (cyI, 16, .inl plan_subjectOf_)), (h0_plan_teacherOf, .inl (cyI, 16, .inl plan_teacherOf_)), (h0_plan_columnOf, .inl (cyI, 16, .inl plan_columnOf_4)), (h0_plan_columnsWith, .inl (cyI, 10, .inl plan_columnsWith_5)), (h0_roll, .inr (1, [.ref h0_roll_choicesOf, .int roll_size_, .int roll_kept_])), (h0_roll_choicesOf, .inl (cyI, 24, .inl roll_choicesOf_))] := hD
          refine lv_aload_n hx hb dX5_puts_64 rfl (lv_at hl 0 rfl) ?_
          obtain ⟨r_6, hq, h⟩ := bd1_some h
          refine uV_i (b := h0) (As := []) (rest := []) ⟨hx, hb, hml, hown, hts⟩ (c_X5_fitting l dC dI cyC cyI cyJ h0 h0_text h0_plan h0_plan_barsOf h0_plan_subjectOf h0_plan_teacherOf h0_plan_seatsOf h0_plan_columnOf h0_plan_columnsWith h0_planDraft h0_roll h0_roll_choicesOf h0_rollDraft h0_wayFinder h0_seating h0_demand h0_told toldCount_ plan_columnCount_ plan_roomCount_ plan_size_ plan_columnsWith_5 roll_size_ roll_kept_ roll_choicesOf_ r_6 hq) (cwV 0 hts gX5_puts_X5_fitting rfl rfl rfl (by decide +kernel) ⟨Nat.le_of_ble_eq_true rfl, Nat.le_of_ble_eq_true rfl⟩) hK hE hA hP hD hS [0, 1, 6, 7, 8] rfl rfl rfl 5 0 rfl rfl rfl hl.1 rfl (Nat.le_of_ble_eq_true rfl) ⟨Nat.zero_le _, Nat.zero_le _⟩ dX5_puts_65 (fun H locs hP hD hS => ?_)
          have hP : va_P (dC, dI) vwCl [(h0, .inr (5, [.ref h0_text, .ref h0_plan, .ref h0_planDraft, .ref h0_roll, .ref h0_rollDraft, .ref h0_wayFinder, .ref h0_seating, .ref h0_demand, .ref h0_told, .int toldCount_])), (h0_plan, .inr (0, [.int plan_columnCount_, .int plan_roomCount_, .int plan_size_, .ref h0_plan_barsOf, .ref h0_plan_subjectOf, .ref h0_plan_teacherOf, .ref h0_plan_seatsOf, .ref h0_plan_columnOf, .ref h0_plan_columnsWith])), (h0_plan_barsOf, .inl (cyI, 10, .inl plan_barsOf_)), (h0_plan_subjectOf, .inl (cyI, 16, .inl plan_subjectOf_)), (h0_plan_teacherOf, .inl (cyI, 16, .inl plan_teacherOf_)), (h0_plan_columnOf, .inl (cyI, 16, .inl plan_columnOf_4)), (h0_plan_columnsWith, .inl (cyI, 10, .inl plan_columnsWith_5)), (h0_roll, .inr (1, [.ref h0_roll_choicesOf, .int roll_size_, .int roll_kept_])), (h0_roll_choicesOf, .inl (cyI, 24, .inl roll_choicesOf_))] H := hP
          have hD : va_D A [(h0, .inr (5, [.ref h0_text, .ref h0_plan, .ref h0_planDraft, .ref h0_roll, .ref h0_rollDraft, .ref h0_wayFinder, .ref h0_seating, .ref h0_demand, .ref h0_told, .int toldCount_])), (h0_plan, .inr (0, [.int plan_columnCount_, .int plan_roomCount_, .int plan_size_, .ref h0_plan_barsOf, .ref h0_plan_subjectOf, .ref h0_plan_teacherOf, .ref h0_plan_seatsOf, .ref h0_plan_columnOf, .ref h0_plan_columnsWith])), (h0_plan_barsOf, .inl (cyI, 10, .inl plan_barsOf_)), (h0_plan_subjectOf, .inl (cyI, 16, .inl plan_subjectOf_)), (h0_plan_teacherOf, .inl (cyI, 16, .inl plan_teacherOf_)), (h0_plan_columnOf, .inl (cyI, 16, .inl plan_columnOf_4)), (h0_plan_columnsWith, .inl (cyI, 10, .inl plan_columnsWith_5)), (h0_roll, .inr (1, [.ref h0_roll_choicesOf, .int roll_size_, .int roll_kept_])), (h0_roll_choicesOf, .inl (cyI, 24, .inl roll_choicesOf_))] := hD
          obtain ⟨r_7, hq, h⟩ := bd1_some h
          refine uS_i (As := [.int r_6]) (rest := []) ⟨hx, hb, hml, hown, hts⟩ (c_J6_bitCount_0f7a4 l dC dI cyC cyI cyJ r_6 r_7 hq) (va_cwS 1 hts gX5_puts_J6_bitCount_0f7a4 rfl rfl rfl (by decide +kernel) ⟨Nat.le_of_ble_eq_true rfl, Nat.le_of_ble_eq_true rfl⟩) hK hE hA hP hD hS [] rfl rfl rfl rfl hl.1 rfl (Nat.le_of_ble_eq_true rfl) ⟨Nat.zero_le _, Nat.zero_le _⟩ dX5_puts_68 (fun H locs hP hD hS => ?_)
          have hP : va_P (dC, dI) vwCl [(h0, .inr (5, [.ref h0_text, .ref h0_plan, .ref h0_planDraft, .ref h0_roll, .ref h0_rollDraft, .ref h0_wayFinder, .ref h0_seating, .ref h0_demand, .ref h0_told, .int toldCount_])), (h0_plan, .inr (0, [.int plan_columnCount_, .int plan_roomCount_, .int plan_size_, .ref h0_plan_barsOf, .ref h0_plan_subjectOf, .ref h0_plan_teacherOf, .ref h0_plan_seatsOf, .ref h0_plan_columnOf, .ref h0_plan_columnsWith])), (h0_plan_barsOf, .inl (cyI, 10, .inl plan_barsOf_)), (h0_plan_subjectOf, .inl (cyI, 16, .inl plan_subjectOf_)), (h0_plan_teacherOf, .inl (cyI, 16, .inl plan_teacherOf_)), (h0_plan_columnOf, .inl (cyI, 16, .inl plan_columnOf_4)), (h0_plan_columnsWith, .inl (cyI, 10, .inl plan_columnsWith_5)), (h0_roll, .inr (1, [.ref h0_roll_choicesOf, .int roll_size_, .int roll_kept_])), (h0_roll_choicesOf, .inl (cyI, 24, .inl roll_choicesOf_))] H := hP
          have hD : va_D A [(h0, .inr (5, [.ref h0_text, .ref h0_plan, .ref h0_planDraft, .ref h0_roll, .ref h0_rollDraft, .ref h0_wayFinder, .ref h0_seating, .ref h0_demand, .ref h0_told, .int toldCount_])), (h0_plan, .inr (0, [.int plan_columnCount_, .int plan_roomCount_, .int plan_size_, .ref h0_plan_barsOf, .ref h0_plan_subjectOf, .ref h0_plan_teacherOf, .ref h0_plan_seatsOf, .ref h0_plan_columnOf, .ref h0_plan_columnsWith])), (h0_plan_barsOf, .inl (cyI, 10, .inl plan_barsOf_)), (h0_plan_subjectOf, .inl (cyI, 16, .inl plan_subjectOf_)), (h0_plan_teacherOf, .inl (cyI, 16, .inl plan_teacherOf_)), (h0_plan_columnOf, .inl (cyI, 16, .inl plan_columnOf_4)), (h0_plan_columnsWith, .inl (cyI, 10, .inl plan_columnsWith_5)), (h0_roll, .inr (1, [.ref h0_roll_choicesOf, .int roll_size_, .int roll_kept_])), (h0_roll_choicesOf, .inl (cyI, 24, .inl roll_choicesOf_))] := hD
          have h : some (r_7, plan_columnOf_4, plan_columnsWith_5) = some (rr, o0, o1) := h
          have z0 := Option.some.inj h
          obtain ⟨rfl, z1⟩ := Prod.mk.inj z0
          obtain ⟨rfl, z2⟩ := Prod.mk.inj z1
          obtain rfl := z2
          exact hret _ _ _ _ hP hS rfl dX5_puts_71
        · have h := (if_pos c_).symm.trans h
          refine lv_bipush (v := (-3)) hx hb dX5_puts_52 (by decide) ?_
          have h : some ((-3), plan_columnOf_, plan_columnsWith_) = some (rr, o0, o1) := h
          have z0 := Option.some.inj h
          obtain ⟨rfl, z1⟩ := Prod.mk.inj z0
          obtain ⟨rfl, z2⟩ := Prod.mk.inj z1
          obtain rfl := z2
          exact hret _ _ _ _ hP hS rfl dX5_puts_54
      · have h := (if_pos c_).symm.trans h
        refine lv_bipush (v := (-2)) hx hb dX5_puts_37 (by decide) ?_
        have h : some ((-2), plan_columnOf_, plan_columnsWith_) = some (rr, o0, o1) := h
        have z0 := Option.some.inj h
        obtain ⟨rfl, z1⟩ := Prod.mk.inj z0
        obtain ⟨rfl, z2⟩ := Prod.mk.inj z1
        obtain rfl := z2
        exact hret _ _ _ _ hP hS rfl dX5_puts_39
    · have h := (if_pos c_).symm.trans h
      refine lv_iconst (v := (-1)) hx hb dX5_puts_22 (by decide) ?_
      have h : some ((-1), plan_columnOf_, plan_columnsWith_) = some (rr, o0, o1) := h
      have z0 := Option.some.inj h
      obtain ⟨rfl, z1⟩ := Prod.mk.inj z0
      obtain ⟨rfl, z2⟩ := Prod.mk.inj z1
      obtain rfl := z2
      exact hret _ _ _ _ hP hS rfl dX5_puts_23

def m_X5_takes (plan_size_ : Int32) (plan_subjectOf_ : Nat → Int32) (plan_columnOf_ : Nat → Int32) (plan_columnsWith_ : Nat → Int32) (roll_size_ : Int32) (roll_choicesOf_ : Nat → Int32) (v1 : Int32) : Option (Int32 × (Nat → Int32) × (Nat → Int32)) :=
  bd1 (m_X0_has plan_size_ v1) (fun r_1 => (if r_1 = 0 then some ((-1), plan_columnOf_, plan_columnsWith_) else gd (inb v1 16) ((if (plan_columnOf_ v1.toNatClampNeg) = (-1) then some ((-2), plan_columnOf_, plan_columnsWith_) else bd2 (m_X0_place plan_size_ plan_subjectOf_ plan_columnOf_ plan_columnsWith_ v1 (-1)) (fun plan_columnOf_2 plan_columnsWith_3 => bd1 (m_X5_fitting plan_columnsWith_3 roll_size_ roll_choicesOf_) (fun r_4 => bd1 (m_J6_bitCount_0f7a4 r_4) (fun r_5 => some (r_5, plan_columnOf_2, plan_columnsWith_3))))))))
abbrev rmX5_takes : Room := { frames := 6, cells := 0, slots := 0, locals := 137 }
set_option maxHeartbeats 4000000 in
set_option maxRecDepth 100000 in
theorem c_X5_takes (l : Launch) (dC : Nat → ClassId) (dI : Nat → Nat → Nat) (cyC cyI cyJ : ClassId) (h0 h0_text h0_plan h0_plan_barsOf h0_plan_subjectOf h0_plan_teacherOf h0_plan_seatsOf h0_plan_columnOf h0_plan_columnsWith h0_planDraft h0_roll h0_roll_choicesOf h0_rollDraft h0_wayFinder h0_seating h0_demand h0_told : Nat) (toldCount_ : Int32) (plan_columnCount_ : Int32) (plan_roomCount_ : Int32) (plan_size_ : Int32) (plan_subjectOf_ : Nat → Int32) (plan_columnOf_ : Nat → Int32) (plan_columnsWith_ : Nat → Int32) (roll_size_ : Int32) (roll_kept_ : Int32) (roll_choicesOf_ : Nat → Int32) (v1 : Int32) (rr : Int32) (o0 : Nat → Int32) (o1 : Nat → Int32) (h : m_X5_takes plan_size_ plan_subjectOf_ plan_columnOf_ plan_columnsWith_ roll_size_ roll_choicesOf_ v1 = some (rr, o0, o1)) : uMi l yX5_takes wsX5_takes rmX5_takes (dC, dI) [(cyC, .char), (cyI, .int), (cyJ, .long)] [.ref h0, .int v1] [(h0, .inr (5, [.ref h0_text, .ref h0_plan, .ref h0_planDraft, .ref h0_roll, .ref h0_rollDraft, .ref h0_wayFinder, .ref h0_seating, .ref h0_demand, .ref h0_told, .int toldCount_])), (h0_plan, .inr (0, [.int plan_columnCount_, .int plan_roomCount_, .int plan_size_, .ref h0_plan_barsOf, .ref h0_plan_subjectOf, .ref h0_plan_teacherOf, .ref h0_plan_seatsOf, .ref h0_plan_columnOf, .ref h0_plan_columnsWith])), (h0_plan_subjectOf, .inl (cyI, 16, .inl plan_subjectOf_)), (h0_plan_columnOf, .inl (cyI, 16, .inl plan_columnOf_)), (h0_plan_columnsWith, .inl (cyI, 10, .inl plan_columnsWith_)), (h0_roll, .inr (1, [.ref h0_roll_choicesOf, .int roll_size_, .int roll_kept_])), (h0_roll_choicesOf, .inl (cyI, 24, .inl roll_choicesOf_))] [(h0, .inr (5, [.ref h0_text, .ref h0_plan, .ref h0_planDraft, .ref h0_roll, .ref h0_rollDraft, .ref h0_wayFinder, .ref h0_seating, .ref h0_demand, .ref h0_told, .int toldCount_])), (h0_plan, .inr (0, [.int plan_columnCount_, .int plan_roomCount_, .int plan_size_, .ref h0_plan_barsOf, .ref h0_plan_subjectOf, .ref h0_plan_teacherOf, .ref h0_plan_seatsOf, .ref h0_plan_columnOf, .ref h0_plan_columnsWith])), (h0_plan_subjectOf, .inl (cyI, 16, .inl plan_subjectOf_)), (h0_plan_columnOf, .inl (cyI, 16, .inl o0)), (h0_plan_columnsWith, .inl (cyI, 10, .inl o1)), (h0_roll, .inr (1, [.ref h0_roll_choicesOf, .int roll_size_, .int roll_kept_])), (h0_roll_choicesOf, .inl (cyI, 24, .inl roll_choicesOf_))] rr := by
  refine uMi.of (cc := cX5_takes) (maxL := 2) (by decide) rfl (Nat.le_of_ble_eq_true rfl) (fun p e s m args below meth c A ls Q hx hb hml hown hts hA hP hK hD hE hS hl hret => ?_)
  have hown : s.vm.findClass RX5 = some m.cls := hown
  have hl : lv_has ls 2 [(0, .ref h0), (1, .int v1)] := hl
  have hiX0 : ∀ w ∈ u_ws RX0 TX0 9, w ∈ wsX5_takes := fun _ h9 => List.mem_cons_of_mem _ (List.mem_append_left _ (List.mem_append_right _ h9))
  have hiX5 : ∀ w ∈ u_ws RX5 TX5 10, w ∈ wsX5_takes := fun _ h9 => List.mem_cons_of_mem _ (List.mem_append_left _ (List.mem_append_left _ (List.mem_append_right _ h9)))
  unfold m_X5_takes at h
  refine lv_aload_n hx hb dX5_takes_0 rfl (lv_at hl 0 rfl) ?_
  refine va_get (D := (dC, dI)) (ci := 5) (v := .ref h0_plan) (C := RX5) (T := TX5) (N := 10) hx hb hts hiX5 hown hK hP 0 rfl rfl 1 (by decide) (hts (.fieldLink RX5 19 "OptionLattice" "plan" "LOptionLattice$Plan;") (by decide +kernel)) (fun _ h9 => h9) rfl dX5_takes_1 ?_
  refine lv_iload_n hx hb dX5_takes_4 rfl (lv_at hl 1 rfl) ?_
  obtain ⟨r_1, hq, h⟩ := bd1_some h
  refine uV_i (b := h0_plan) (As := [.int v1]) (rest := []) ⟨hx, hb, hml, hown, hts⟩ (c_X0_has l dC dI cyC cyI cyJ h0_plan h0_plan_barsOf h0_plan_subjectOf h0_plan_teacherOf h0_plan_seatsOf h0_plan_columnOf h0_plan_columnsWith plan_columnCount_ plan_roomCount_ plan_size_ v1 r_1 hq) (cwV 1 hts gX5_takes_X0_has rfl rfl rfl (by decide +kernel) ⟨Nat.le_of_ble_eq_true rfl, Nat.le_of_ble_eq_true rfl⟩) hK hE hA hP hD hS [1] rfl rfl rfl 0 0 rfl rfl rfl hl.1 rfl (Nat.le_of_ble_eq_true rfl) ⟨Nat.zero_le _, Nat.zero_le _⟩ dX5_takes_5 (fun H locs hP hD hS => ?_)
  have hP : va_P (dC, dI) vwCl [(h0, .inr (5, [.ref h0_text, .ref h0_plan, .ref h0_planDraft, .ref h0_roll, .ref h0_rollDraft, .ref h0_wayFinder, .ref h0_seating, .ref h0_demand, .ref h0_told, .int toldCount_])), (h0_plan, .inr (0, [.int plan_columnCount_, .int plan_roomCount_, .int plan_size_, .ref h0_plan_barsOf, .ref h0_plan_subjectOf, .ref h0_plan_teacherOf, .ref h0_plan_seatsOf, .ref h0_plan_columnOf, .ref h0_plan_columnsWith])), (h0_plan_subjectOf, .inl (cyI, 16, .inl plan_subjectOf_)), (h0_plan_columnOf, .inl (cyI, 16, .inl plan_columnOf_)), (h0_plan_columnsWith, .inl (cyI, 10, .inl plan_columnsWith_)), (h0_roll, .inr (1, [.ref h0_roll_choicesOf, .int roll_size_, .int roll_kept_])), (h0_roll_choicesOf, .inl (cyI, 24, .inl roll_choicesOf_))] H := hP
  have hD : va_D A [(h0, .inr (5, [.ref h0_text, .ref h0_plan, .ref h0_planDraft, .ref h0_roll, .ref h0_rollDraft, .ref h0_wayFinder, .ref h0_seating, .ref h0_demand, .ref h0_told, .int toldCount_])), (h0_plan, .inr (0, [.int plan_columnCount_, .int plan_roomCount_, .int plan_size_, .ref h0_plan_barsOf, .ref h0_plan_subjectOf, .ref h0_plan_teacherOf, .ref h0_plan_seatsOf, .ref h0_plan_columnOf, .ref h0_plan_columnsWith])), (h0_plan_subjectOf, .inl (cyI, 16, .inl plan_subjectOf_)), (h0_plan_columnOf, .inl (cyI, 16, .inl plan_columnOf_)), (h0_plan_columnsWith, .inl (cyI, 10, .inl plan_columnsWith_)), (h0_roll, .inr (1, [.ref h0_roll_choicesOf, .int roll_size_, .int roll_kept_])), (h0_roll_choicesOf, .inl (cyI, 24, .inl roll_choicesOf_))] := hD
  refine lv_if_ne (tgt := 13) hx hb dX5_takes_8 (by decide) (fun c_ => ?_) (fun c_ => ?_)
  · have h := (if_neg c_).symm.trans h
    refine lv_aload_n hx hb dX5_takes_13 rfl (lv_at hl 0 rfl) ?_
    refine va_get (D := (dC, dI)) (ci := 5) (v := .ref h0_plan) (C := RX5) (T := TX5) (N := 10) hx hb hts hiX5 hown hK hP 0 rfl rfl 1 (by decide) (hts (.fieldLink RX5 19 "OptionLattice" "plan" "LOptionLattice$Plan;") (by decide +kernel)) (fun _ h9 => h9) rfl dX5_takes_14 ?_
    refine va_getN (host := "OptionLattice") (D := (dC, dI)) (ci := 0) (v := .ref h0_plan_columnOf) (C := RX0) (T := TX0) (N := 9) hx hb hts hiX0 hown hK hP 1 rfl rfl 7 (by decide) (va_Nw.use rfl (hE.1 ("OptionLattice", 122, "OptionLattice$Plan", "columnOf", "[I") (List.mem_of_getElem? (i := 13) rfl))) (fun _ h9 => h9) rfl dX5_takes_17 ?_
    refine lv_iload_n hx hb dX5_takes_20 rfl (lv_at hl 1 rfl) ?_
    obtain ⟨g_, h⟩ := gd_some h
    refine va_iald hx hb hK hP 3 1 rfl rfl (inb_in g_) dX5_takes_21 ?_
    refine lv_iconst (v := (-1)) hx hb dX5_takes_22 (by decide) ?_
    refine lv_icmp_ne (tgt := 29) hx hb dX5_takes_23 (by decide) (fun c_ => ?_) (fun c_ => ?_)
    · have h := (if_neg c_).symm.trans h
      refine lv_aload_n hx hb dX5_takes_29 rfl (lv_at hl 0 rfl) ?_
      refine va_get (D := (dC, dI)) (ci := 5) (v := .ref h0_plan) (C := RX5) (T := TX5) (N := 10) hx hb hts hiX5 hown hK hP 0 rfl rfl 1 (by decide) (hts (.fieldLink RX5 19 "OptionLattice" "plan" "LOptionLattice$Plan;") (by decide +kernel)) (fun _ h9 => h9) rfl dX5_takes_30 ?_
      refine lv_iload_n hx hb dX5_takes_33 rfl (lv_at hl 1 rfl) ?_
      refine lv_iconst (v := (-1)) hx hb dX5_takes_34 (by decide) ?_
      obtain ⟨plan_columnOf_2, plan_columnsWith_3, hq, h⟩ := bd2_some h
      refine uV_v (b := h0_plan) (As := [.int v1, .int (-1)]) (rest := []) ⟨hx, hb, hml, hown, hts⟩ (c_X0_place l dC dI cyC cyI cyJ h0_plan h0_plan_barsOf h0_plan_subjectOf h0_plan_teacherOf h0_plan_seatsOf h0_plan_columnOf h0_plan_columnsWith plan_columnCount_ plan_roomCount_ plan_size_ plan_subjectOf_ plan_columnOf_ plan_columnsWith_ v1 (-1) plan_columnOf_2 plan_columnsWith_3 hq) (cwV 2 hts gX5_takes_X0_place rfl rfl rfl (by decide +kernel) ⟨Nat.le_of_ble_eq_true rfl, Nat.le_of_ble_eq_true rfl⟩) hK hE hA hP hD hS [1, 2, 3, 4] rfl rfl rfl 0 0 rfl rfl rfl hl.1 rfl (Nat.le_of_ble_eq_true rfl) ⟨Nat.zero_le _, Nat.zero_le _⟩ dX5_takes_35 (fun H locs hP hD hS => ?_)
      have hP : va_P (dC, dI) vwCl [(h0, .inr (5, [.ref h0_text, .ref h0_plan, .ref h0_planDraft, .ref h0_roll, .ref h0_rollDraft, .ref h0_wayFinder, .ref h0_seating, .ref h0_demand, .ref h0_told, .int toldCount_])), (h0_plan, .inr (0, [.int plan_columnCount_, .int plan_roomCount_, .int plan_size_, .ref h0_plan_barsOf, .ref h0_plan_subjectOf, .ref h0_plan_teacherOf, .ref h0_plan_seatsOf, .ref h0_plan_columnOf, .ref h0_plan_columnsWith])), (h0_plan_subjectOf, .inl (cyI, 16, .inl plan_subjectOf_)), (h0_plan_columnOf, .inl (cyI, 16, .inl plan_columnOf_2)), (h0_plan_columnsWith, .inl (cyI, 10, .inl plan_columnsWith_3)), (h0_roll, .inr (1, [.ref h0_roll_choicesOf, .int roll_size_, .int roll_kept_])), (h0_roll_choicesOf, .inl (cyI, 24, .inl roll_choicesOf_))] H := hP
      have hD : va_D A [(h0, .inr (5, [.ref h0_text, .ref h0_plan, .ref h0_planDraft, .ref h0_roll, .ref h0_rollDraft, .ref h0_wayFinder, .ref h0_seating, .ref h0_demand, .ref h0_told, .int toldCount_])), (h0_plan, .inr (0, [.int plan_columnCount_, .int plan_roomCount_, .int plan_size_, .ref h0_plan_barsOf, .ref h0_plan_subjectOf, .ref h0_plan_teacherOf, .ref h0_plan_seatsOf, .ref h0_plan_columnOf, .ref h0_plan_columnsWith])), (h0_plan_subjectOf, .inl (cyI, 16, .inl plan_subjectOf_)), (h0_plan_columnOf, .inl (cyI, 16, .inl plan_columnOf_2)), (h0_plan_columnsWith, .inl (cyI, 10, .inl plan_columnsWith_3)), (h0_roll, .inr (1, [.ref h0_roll_choicesOf, .int roll_size_, .int roll_kept_])), (h0_roll_choicesOf, .inl (cyI, 24, .inl roll_choicesOf_))] := hD
      refine lv_aload_n hx hb dX5_takes_38 rfl (lv_at hl 0 rfl) ?_
      obtain ⟨r_4, hq, h⟩ := bd1_some h
      refine uV_i (b := h0) (As := []) (rest := []) ⟨hx, hb, hml, hown, hts⟩ (c_X5_fitting l dC dI cyC cyI cyJ h0 h0_text h0_plan h0_plan_barsOf h0_plan_subjectOf h0_plan_teacherOf h0_plan_seatsOf h0_plan_columnOf h0_plan_columnsWith h0_planDraft h0_roll h0_roll_choicesOf h0_rollDraft h0_wayFinder h0_seating h0_demand h0_told toldCount_ plan_columnCount_ plan_roomCount_ plan_size_ plan_columnsWith_3 roll_size_ roll_kept_ roll_choicesOf_ r_4 hq) (cwV 0 hts gX5_takes_X5_fitting rfl rfl rfl (by decide +kernel) ⟨Nat.le_of_ble_eq_true rfl, Nat.le_of_ble_eq_true rfl⟩) hK hE hA hP hD hS [0, 1, 4, 5, 6] rfl rfl rfl 5 0 rfl rfl rfl hl.1 rfl (Nat.le_of_ble_eq_true rfl) ⟨Nat.zero_le _, Nat.zero_le _⟩ dX5_takes_39 (fun H locs hP hD hS => ?_)
      have hP : va_P (dC, dI) vwCl [(h0, .inr (5, [.ref h0_text, .ref h0_plan, .ref h0_planDraft, .ref h0_roll, .ref h0_rollDraft, .ref h0_wayFinder, .ref h0_seating, .ref h0_demand, .ref h0_told, .int toldCount_])), (h0_plan, .inr (0, [.int plan_columnCount_, .int plan_roomCount_, .int plan_size_, .ref h0_plan_barsOf, .ref h0_plan_subjectOf, .ref h0_plan_teacherOf, .ref h0_plan_seatsOf, .ref h0_plan_columnOf, .ref h0_plan_columnsWith])), (h0_plan_subjectOf, .inl (cyI, 16, .inl plan_subjectOf_)), (h0_plan_columnOf, .inl (cyI, 16, .inl plan_columnOf_2)), (h0_plan_columnsWith, .inl (cyI, 10, .inl plan_columnsWith_3)), (h0_roll, .inr (1, [.ref h0_roll_choicesOf, .int roll_size_, .int roll_kept_])), (h0_roll_choicesOf, .inl (cyI, 24, .inl roll_choicesOf_))] H := hP
      have hD : va_D A [(h0, .inr (5, [.ref h0_text, .ref h0_plan, .ref h0_planDraft, .ref h0_roll, .ref h0_rollDraft, .ref h0_wayFinder, .ref h0_seating, .ref h0_demand, .ref h0_told, .int toldCount_])), (h0_plan, .inr (0, [.int plan_columnCount_, .int plan_roomCount_, .int plan_size_, .ref h0_plan_barsOf, .ref h0_plan_subjectOf, .ref h0_plan_teacherOf, .ref h0_plan_seatsOf, .ref h0_plan_columnOf, .ref h0_plan_columnsWith])), (h0_plan_subjectOf, .inl (cyI, 16, .inl plan_subjectOf_)), (h0_plan_columnOf, .inl (cyI, 16, .inl plan_columnOf_2)), (h0_plan_columnsWith, .inl (cyI, 10, .inl plan_columnsWith_3)), (h0_roll, .inr (1, [.ref h0_roll_choicesOf, .int roll_size_, .int roll_kept_])), (h0_roll_choicesOf, .inl (cyI, 24, .inl roll_choicesOf_))] := hD
      obtain ⟨r_5, hq, h⟩ := bd1_some h
      refine uS_i (As := [.int r_4]) (rest := []) ⟨hx, hb, hml, hown, hts⟩ (c_J6_bitCount_0f7a4 l dC dI cyC cyI cyJ r_4 r_5 hq) (va_cwS 1 hts gX5_takes_J6_bitCount_0f7a4 rfl rfl rfl (by decide +kernel) ⟨Nat.le_of_ble_eq_true rfl, Nat.le_of_ble_eq_true rfl⟩) hK hE hA hP hD hS [] rfl rfl rfl rfl hl.1 rfl (Nat.le_of_ble_eq_true rfl) ⟨Nat.zero_le _, Nat.zero_le _⟩ dX5_takes_42 (fun H locs hP hD hS => ?_)
      have hP : va_P (dC, dI) vwCl [(h0, .inr (5, [.ref h0_text, .ref h0_plan, .ref h0_planDraft, .ref h0_roll, .ref h0_rollDraft, .ref h0_wayFinder, .ref h0_seating, .ref h0_demand, .ref h0_told, .int toldCount_])), (h0_plan, .inr (0, [.int plan_columnCount_, .int plan_roomCount_, .int plan_size_, .ref h0_plan_barsOf, .ref h0_plan_subjectOf, .ref h0_plan_teacherOf, .ref h0_plan_seatsOf, .ref h0_plan_columnOf, .ref h0_plan_columnsWith])), (h0_plan_subjectOf, .inl (cyI, 16, .inl plan_subjectOf_)), (h0_plan_columnOf, .inl (cyI, 16, .inl plan_columnOf_2)), (h0_plan_columnsWith, .inl (cyI, 10, .inl plan_columnsWith_3)), (h0_roll, .inr (1, [.ref h0_roll_choicesOf, .int roll_size_, .int roll_kept_])), (h0_roll_choicesOf, .inl (cyI, 24, .inl roll_choicesOf_))] H := hP
      have hD : va_D A [(h0, .inr (5, [.ref h0_text, .ref h0_plan, .ref h0_planDraft, .ref h0_roll, .ref h0_rollDraft, .ref h0_wayFinder, .ref h0_seating, .ref h0_demand, .ref h0_told, .int toldCount_])), (h0_plan, .inr (0, [.int plan_columnCount_, .int plan_roomCount_, .int plan_size_, .ref h0_plan_barsOf, .ref h0_plan_subjectOf, .ref h0_plan_teacherOf, .ref h0_plan_seatsOf, .ref h0_plan_columnOf, .ref h0_plan_columnsWith])), (h0_plan_subjectOf, .inl (cyI, 16, .inl plan_subjectOf_)), (h0_plan_columnOf, .inl (cyI, 16, .inl plan_columnOf_2)), (h0_plan_columnsWith, .inl (cyI, 10, .inl plan_columnsWith_3)), (h0_roll, .inr (1, [.ref h0_roll_choicesOf, .int roll_size_, .int roll_kept_])), (h0_roll_choicesOf, .inl (cyI, 24, .inl roll_choicesOf_))] := hD
      have h : some (r_5, plan_columnOf_2, plan_columnsWith_3) = some (rr, o0, o1) := h
      have z0 := Option.some.inj h
      obtain ⟨rfl, z1⟩ := Prod.mk.inj z0
      obtain ⟨rfl, z2⟩ := Prod.mk.inj z1
      obtain rfl := z2
      exact hret _ _ _ _ hP hS rfl dX5_takes_45
    · have h := (if_pos c_).symm.trans h
      refine lv_bipush (v := (-2)) hx hb dX5_takes_26 (by decide) ?_
      have h : some ((-2), plan_columnOf_, plan_columnsWith_) = some (rr, o0, o1) := h
      have z0 := Option.some.inj h
      obtain ⟨rfl, z1⟩ := Prod.mk.inj z0
      obtain ⟨rfl, z2⟩ := Prod.mk.inj z1
      obtain rfl := z2
      exact hret _ _ _ _ hP hS rfl dX5_takes_28
  · have h := (if_pos c_).symm.trans h
    refine lv_iconst (v := (-1)) hx hb dX5_takes_11 (by decide) ?_
    have h : some ((-1), plan_columnOf_, plan_columnsWith_) = some (rr, o0, o1) := h
    have z0 := Option.some.inj h
    obtain ⟨rfl, z1⟩ := Prod.mk.inj z0
    obtain ⟨rfl, z2⟩ := Prod.mk.inj z1
    obtain rfl := z2
    exact hret _ _ _ _ hP hS rfl dX5_takes_12
