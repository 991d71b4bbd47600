def m_X5_swaps (plan_roomCount_ : Int32) (plan_size_ : Int32) (plan_barsOf_ : Nat → Int32) (plan_subjectOf_ : Nat → Int32) (plan_teacherOf_ : Nat → Int32) (plan_columnOf_ : Nat → Int32) (plan_columnsWith_ : Nat → Int32) (roll_size_ : Int32) (roll_choicesOf_ : Nat → Int32) (v1 : Int32) (v2 : Int32) : Option (Int32 × (Nat → Int32) × (Nat → Int32)) :=
  bd1 (m_X0_has plan_size_ v1) (fun r_1 => (if r_1 = 0 then some ((-1), plan_columnOf_, plan_columnsWith_) else bd1 (m_X0_has plan_size_ v2) (fun r_2 => (if r_2 = 0 then some ((-1), plan_columnOf_, plan_columnsWith_) else gd (inb v1 16) (gd (inb v2 16) ((if (plan_columnOf_ v1.toNatClampNeg) = (plan_columnOf_ v2.toNatClampNeg) then some ((-2), plan_columnOf_, plan_columnsWith_) else bd2 (m_X0_mayTrade plan_roomCount_ plan_size_ plan_barsOf_ plan_teacherOf_ plan_columnOf_ v1 v2) (fun r_3 plan_columnOf_4 => (if r_3 = 0 then some ((-3), plan_columnOf_4, plan_columnsWith_) else bd2 (m_X0_trade plan_size_ plan_subjectOf_ plan_columnOf_4 plan_columnsWith_ v1 v2) (fun plan_columnOf_5 plan_columnsWith_6 => bd1 (m_X5_fitting plan_columnsWith_6 roll_size_ roll_choicesOf_) (fun r_7 => bd1 (m_J6_bitCount_0f7a4 r_7) (fun r_8 => some (r_8, plan_columnOf_5, plan_columnsWith_6)))))))))))))
abbrev rmX5_swaps : Room := { frames := 6, cells := 0, slots := 0, locals := 137 }
set_option maxHeartbeats 4000000 in
set_option maxRecDepth 100000 in
theorem c_X5_swaps (l : Launch) (dC : Nat → ClassId) (dI : Nat → Nat → Nat) (cyC cyI cyJ : ClassId) (h0 h0_text h0_plan h0_plan_barsOf h0_plan_subjectOf h0_plan_teacherOf h0_plan_seatsOf h0_plan_columnOf h0_plan_columnsWith h0_planDraft h0_roll h0_roll_choicesOf h0_rollDraft h0_wayFinder h0_seating h0_demand h0_told : Nat) (toldCount_ : Int32) (plan_columnCount_ : Int32) (plan_roomCount_ : Int32) (plan_size_ : Int32) (plan_barsOf_ : Nat → Int32) (plan_subjectOf_ : Nat → Int32) (plan_teacherOf_ : Nat → Int32) (plan_columnOf_ : Nat → Int32) (plan_columnsWith_ : Nat → Int32) (roll_size_ : Int32) (roll_kept_ : Int32) (roll_choicesOf_ : Nat → Int32) (v1 : Int32) (v2 : Int32) (rr : Int32) (o0 : Nat → Int32) (o1 : Nat → Int32) (h : m_X5_swaps plan_roomCount_ plan_size_ plan_barsOf_ plan_subjectOf_ plan_teacherOf_ plan_columnOf_ plan_columnsWith_ roll_size_ roll_choicesOf_ v1 v2 = some (rr, o0, o1)) : uMi l yX5_swaps wsX5_swaps rmX5_swaps (dC, dI) [(cyC, .char), (cyI, .int), (cyJ, .long)] [.ref h0, .int v1, .int v2] [(h0, .inr (5, [.ref h0_text, .ref h0_plan, .ref h0_planDraft, .ref h0_roll, .ref h0_rollDraft, .ref h0_wayFinder, .ref h0_seating, .ref h0_demand, .ref h0_told, .int toldCount_])), (h0_plan, .inr (0, [.int plan_columnCount_, .int plan_roomCount_, .int plan_size_, .ref h0_plan_barsOf, .ref h0_plan_subjectOf, .ref h0_plan_teacherOf, .ref h0_plan_seatsOf, .ref h0_plan_columnOf, .ref h0_plan_columnsWith])), (h0_plan_barsOf, .inl (cyI, 10, .inl plan_barsOf_)), (h0_plan_subjectOf, .inl (cyI, 16, .inl plan_subjectOf_)), (h0_plan_teacherOf, .inl (cyI, 16, .inl plan_teacherOf_)), (h0_plan_columnOf, .inl (cyI, 16, .inl plan_columnOf_)), (h0_plan_columnsWith, .inl (cyI, 10, .inl plan_columnsWith_)), (h0_roll, .inr (1, [.ref h0_roll_choicesOf, .int roll_size_, .int roll_kept_])), (h0_roll_choicesOf, .inl (cyI, 24, .inl roll_choicesOf_))] [(h0, .inr (5, [.ref h0_text, .ref h0_plan, .ref h0_planDraft, .ref h0_roll, .ref h0_rollDraft, .ref h0_wayFinder, .ref h0_seating, .ref h0_demand, .ref h0_told, .int toldCount_])), (h0_plan, .inr (0, [.int plan_columnCount_, .int plan_roomCount_, .int plan_size_, .ref h0_plan_barsOf, .ref h0_plan_subjectOf, .ref h0_plan_teacherOf, .ref h0_plan_seatsOf, .ref h0_plan_columnOf, .ref h0_plan_columnsWith])), (h0_plan_barsOf, .inl (cyI, 10, .inl plan_barsOf_)), (h0_plan_subjectOf, .inl (cyI, 16, .inl plan_subjectOf_)), (h0_plan_teacherOf, .inl (cyI, 16, .inl plan_teacherOf_)), (h0_plan_columnOf, .inl (cyI, 16, .inl o0)), (h0_plan_columnsWith, .inl (cyI, 10, .inl o1)), (h0_roll, .inr (1, [.ref h0_roll_choicesOf, .int roll_size_, .int roll_kept_])), (h0_roll_choicesOf, .inl (cyI, 24, .inl roll_choicesOf_))] rr := by
  refine uMi.of (cc := cX5_swaps) (maxL := 3) (by decide) rfl (Nat.le_of_ble_eq_true rfl) (fun p e s m args below meth c A ls Q hx hb hml hown hts hA hP hK hD hE hS hl hret => ?_)
  have hown : s.vm.findClass RX5 = some m.cls := hown
  have hl : lv_has ls 3 [(0, .ref h0), (1, .int v1), (2, .int v2)] := hl
  have hiX0 : ∀ w ∈ u_ws RX0 TX0 9, w ∈ wsX5_swaps := fun _ h9 => List.mem_cons_of_mem _ (List.mem_append_left _ (List.mem_append_right _ h9))
  have hiX5 : ∀ w ∈ u_ws RX5 TX5 10, w ∈ wsX5_swaps := fun _ h9 => List.mem_cons_of_mem _ (List.mem_append_left _ (List.mem_append_left _ (List.mem_append_right _ h9)))
  unfold m_X5_swaps at h
  refine lv_aload_n hx hb dX5_swaps_0 rfl (lv_at hl 0 rfl) ?_
  refine va_get (D := (dC, dI)) (ci := 5) (v := .ref h0_plan) (C := RX5) (T := TX5) (N := 10) hx hb hts hiX5 hown hK hP 0 rfl rfl 1 (by decide) (hts (.fieldLink RX5 19 "OptionLattice" "plan" "LOptionLattice$Plan;") (by decide +kernel)) (fun _ h9 => h9) rfl dX5_swaps_1 ?_
  refine lv_iload_n hx hb dX5_swaps_4 rfl (lv_at hl 1 rfl) ?_
  obtain ⟨r_1, hq, h⟩ := bd1_some h
  refine uV_i (b := h0_plan) (As := [.int v1]) (rest := []) ⟨hx, hb, hml, hown, hts⟩ (c_X0_has l dC dI cyC cyI cyJ h0_plan h0_plan_barsOf h0_plan_subjectOf h0_plan_teacherOf h0_plan_seatsOf h0_plan_columnOf h0_plan_columnsWith plan_columnCount_ plan_roomCount_ plan_size_ v1 r_1 hq) (cwV 1 hts gX5_swaps_X0_has rfl rfl rfl (by decide +kernel) ⟨Nat.le_of_ble_eq_true rfl, Nat.le_of_ble_eq_true rfl⟩) hK hE hA hP hD hS [1] rfl rfl rfl 0 0 rfl rfl rfl hl.1 rfl (Nat.le_of_ble_eq_true rfl) ⟨Nat.zero_le _, Nat.zero_le _⟩ dX5_swaps_5 (fun H locs hP hD hS => ?_)
  have hP : va_P (dC, dI) vwCl [(h0, .inr (5, [.ref h0_text, .ref h0_plan, .ref h0_planDraft, .ref h0_roll, .ref h0_rollDraft, .ref h0_wayFinder, .ref h0_seating, .ref h0_demand, .ref h0_told, .int toldCount_])), (h0_plan, .inr (0, [.int plan_columnCount_, .int plan_roomCount_, .int plan_size_, .ref h0_plan_barsOf, .ref h0_plan_subjectOf, .ref h0_plan_teacherOf, .ref h0_plan_seatsOf, .ref h0_plan_columnOf, .ref h0_plan_columnsWith])), (h0_plan_barsOf, .inl (cyI, 10, .inl plan_barsOf_)), (h0_plan_subjectOf, .inl (cyI, 16, .inl plan_subjectOf_)), (h0_plan_teacherOf, .inl (cyI, 16, .inl plan_teacherOf_)), (h0_plan_columnOf, .inl (cyI, 16, .inl plan_columnOf_)), (h0_plan_columnsWith, .inl (cyI, 10, .inl plan_columnsWith_)), (h0_roll, .inr (1, [.ref h0_roll_choicesOf, .int roll_size_, .int roll_kept_])), (h0_roll_choicesOf, .inl (cyI, 24, .inl roll_choicesOf_))] H := hP
  have hD : va_D A [(h0, .inr (5, [.ref h0_text, .ref h0_plan, .ref h0_planDraft, .ref h0_roll, .ref h0_rollDraft, .ref h0_wayFinder, .ref h0_seating, .ref h0_demand, .ref h0_told, .int toldCount_])), (h0_plan, .inr (0, [.int plan_columnCount_, .int plan_roomCount_, .int plan_size_, .ref h0_plan_barsOf, .ref h0_plan_subjectOf, .ref h0_plan_teacherOf, .ref h0_plan_seatsOf, .ref h0_plan_columnOf, .ref h0_plan_columnsWith])), (h0_plan_barsOf, .inl (cyI, 10, .inl plan_barsOf_)), (h0_plan_subjectOf, .inl (cyI, 16, .inl plan_subjectOf_)), (h0_plan_teacherOf, .inl (cyI, 16, .inl plan_teacherOf_)), (h0_plan_columnOf, .inl (cyI, 16, .inl plan_columnOf_)), (h0_plan_columnsWith, .inl (cyI, 10, .inl plan_columnsWith_)), (h0_roll, .inr (1, [.ref h0_roll_choicesOf, .int roll_size_, .int roll_kept_])), (h0_roll_choicesOf, .inl (cyI, 24, .inl roll_choicesOf_))] := hD
  refine lv_if_eq (tgt := 22) hx hb dX5_swaps_8 (by decide) (fun c_ => ?_) (fun c_ => ?_)
  · have h := (if_pos c_).symm.trans h
    refine lv_iconst (v := (-1)) hx hb dX5_swaps_22 (by decide) ?_
    have h : some ((-1), plan_columnOf_, plan_columnsWith_) = some (rr, o0, o1) := h
    have z0 := Option.some.inj h
    obtain ⟨rfl, z1⟩ := Prod.mk.inj z0
    obtain ⟨rfl, z2⟩ := Prod.mk.inj z1
    obtain rfl := z2
    exact hret _ _ _ _ hP hS rfl dX5_swaps_23
  · have h := (if_neg c_).symm.trans h
    refine lv_aload_n hx hb dX5_swaps_11 rfl (lv_at hl 0 rfl) ?_
    refine va_get (D := (dC, dI)) (ci := 5) (v := .ref h0_plan) (C := RX5) (T := TX5) (N := 10) hx hb hts hiX5 hown hK hP 0 rfl rfl 1 (by decide) (hts (.fieldLink RX5 19 "OptionLattice" "plan" "LOptionLattice$Plan;") (by decide +kernel)) (fun _ h9 => h9) rfl dX5_swaps_12 ?_
    refine lv_iload_n hx hb dX5_swaps_15 rfl (lv_at hl 2 rfl) ?_
    obtain ⟨r_2, hq, h⟩ := bd1_some h
    refine uV_i (b := h0_plan) (As := [.int v2]) (rest := []) ⟨hx, hb, hml, hown, hts⟩ (c_X0_has l dC dI cyC cyI cyJ h0_plan h0_plan_barsOf h0_plan_subjectOf h0_plan_teacherOf h0_plan_seatsOf h0_plan_columnOf h0_plan_columnsWith plan_columnCount_ plan_roomCount_ plan_size_ v2 r_2 hq) (cwV 1 hts gX5_swaps_X0_has rfl rfl rfl (by decide +kernel) ⟨Nat.le_of_ble_eq_true rfl, Nat.le_of_ble_eq_true rfl⟩) hK hE hA hP hD hS [1] rfl rfl rfl 0 0 rfl rfl rfl hl.1 rfl (Nat.le_of_ble_eq_true rfl) ⟨Nat.zero_le _, Nat.zero_le _⟩ dX5_swaps_16 (fun H locs hP hD hS => ?_)
    have hP : va_P (dC, dI) vwCl [(h0, .inr (5, [.ref h0_text, .ref h0_plan, .ref h0_planDraft, .ref h0_roll, .ref h0_rollDraft, .ref h0_wayFinder, .ref h0_seating, .ref h0_demand, .ref h0_told, .int toldCount_])), (h0_plan, .inr (0, [.int plan_columnCount_, .int plan_roomCount_, .int plan_size_, .ref h0_plan_barsOf, .ref h0_plan_subjectOf, .ref h0_plan_teacherOf, .ref h0_plan_seatsOf, .ref h0_plan_columnOf, .ref h0_plan_columnsWith])), (h0_plan_barsOf, .inl (cyI, 10, .inl plan_barsOf_)), (h0_plan_subjectOf, .inl (cyI, 16, .inl plan_subjectOf_)), (h0_plan_teacherOf, .inl (cyI, 16, .inl plan_teacherOf_)), (h0_plan_columnOf, .inl (cyI, 16, .inl plan_columnOf_)), (h0_plan_columnsWith, .inl (cyI, 10, .inl plan_columnsWith_)), (h0_roll, .inr (1, [.ref h0_roll_choicesOf, .int roll_size_, .int roll_kept_])), (h0_roll_choicesOf, .inl (cyI, 24, .inl roll_choicesOf_))] H := hP
    have hD : va_D A [(h0, .inr (5, [.ref h0_text, .ref h0_plan, .ref h0_planDraft, .ref h0_roll, .ref h0_rollDraft, .ref h0_wayFinder, .ref h0_seating, .ref h0_demand, .ref h0_told, .int toldCount_])), (h0_plan, .inr (0, [.int plan_columnCount_, .int plan_roomCount_, .int plan_size_, .ref h0_plan_barsOf, .ref h0_plan_subjectOf, .ref h0_plan_teacherOf, .ref h0_plan_seatsOf, .ref h0_plan_columnOf, .ref h0_plan_columnsWith])), (h0_plan_barsOf, .inl (cyI, 10, .inl plan_barsOf_)), (h0_plan_subjectOf, .inl (cyI, 16, .inl plan_subjectOf_)), (h0_plan_teacherOf, .inl (cyI, 16, .inl plan_teacherOf_)), (h0_plan_columnOf, .inl (cyI, 16, .inl plan_columnOf_)), (h0_plan_columnsWith, .inl (cyI, 10, .inl plan_columnsWith_)), (h0_roll, .inr (1, [.ref h0_roll_choicesOf, .int roll_size_, .int roll_kept_])), (h0_roll_choicesOf, .inl (cyI, 24, .inl roll_choicesOf_))] := hD
    refine lv_if_ne (tgt := 24) hx hb dX5_swaps_19 (by decide) (fun c_ => ?_) (fun c_ => ?_)
    · have h := (if_neg c_).symm.trans h
      refine lv_aload_n hx hb dX5_swaps_24 rfl (lv_at hl 0 rfl) ?_
      refine va_get (D := (dC, dI)) (ci := 5) (v := .ref h0_plan) (C := RX5) (T := TX5) (N := 10) hx hb hts hiX5 hown hK hP 0 rfl rfl 1 (by decide) (hts (.fieldLink RX5 19 "OptionLattice" "plan" "LOptionLattice$Plan;") (by decide +kernel)) (fun _ h9 => h9) rfl dX5_swaps_25 ?_
      refine va_getN (host := "OptionLattice") (D := (dC, dI)) (ci := 0) (v := .ref h0_plan_columnOf) (C := RX0) (T := TX0) (N := 9) hx hb hts hiX0 hown hK hP 1 rfl rfl 7 (by decide) (va_Nw.use rfl (hE.1 ("OptionLattice", 122, "OptionLattice$Plan", "columnOf", "[I") (List.mem_of_getElem? (i := 13) rfl))) (fun _ h9 => h9) rfl dX5_swaps_28 ?_
      refine lv_iload_n hx hb dX5_swaps_31 rfl (lv_at hl 1 rfl) ?_
      obtain ⟨g_, h⟩ := gd_some h
      refine va_iald hx hb hK hP 5 1 rfl rfl (inb_in g_) dX5_swaps_32 ?_
      refine lv_aload_n hx hb dX5_swaps_33 rfl (lv_at hl 0 rfl) ?_
      refine va_get (D := (dC, dI)) (ci := 5) (v := .ref h0_plan) (C := RX5) (T := TX5) (N := 10) hx hb hts hiX5 hown hK hP 0 rfl rfl 1 (by decide) (hts (.fieldLink RX5 19 "OptionLattice" "plan" "LOptionLattice$Plan;") (by decide +kernel)) (fun _ h9 => h9) rfl dX5_swaps_34 ?_
      refine va_getN (host := "OptionLattice") (D := (dC, dI)) (ci := 0) (v := .ref h0_plan_columnOf) (C := RX0) (T := TX0) (N := 9) hx hb hts hiX0 hown hK hP 1 rfl rfl 7 (by decide) (va_Nw.use rfl (hE.1 ("OptionLattice", 122, "OptionLattice$Plan", "columnOf", "[I") (List.mem_of_getElem? (i := 13) rfl))) (fun _ h9 => h9) rfl dX5_swaps_37 ?_
      refine lv_iload_n hx hb dX5_swaps_40 rfl (lv_at hl 2 rfl) ?_
      obtain ⟨g_, h⟩ := gd_some h
      refine va_iald hx hb hK hP 5 1 rfl rfl (inb_in g_) dX5_swaps_41 ?_
      refine lv_icmp_ne (tgt := 48) hx hb dX5_swaps_42 (by decide) (fun c_ => ?_) (fun c_ => ?_)
      · have h := (if_neg c_).symm.trans h
        refine lv_aload_n hx hb dX5_swaps_48 rfl (lv_at hl 0 rfl) ?_
        refine va_get (D := (dC, dI)) (ci := 5) (v := .ref h0_plan) (C := RX5) (T := TX5) (N := 10) hx hb hts hiX5 hown hK hP 0 rfl rfl 1 (by decide) (hts (.fieldLink RX5 19 "OptionLattice" "plan" "LOptionLattice$Plan;") (by decide +kernel)) (fun _ h9 => h9) rfl dX5_swaps_49 ?_
        refine lv_iload_n hx hb dX5_swaps_52 rfl (lv_at hl 1 rfl) ?_
        refine lv_iload_n hx hb dX5_swaps_53 rfl (lv_at hl 2 rfl) ?_
        obtain ⟨r_3, plan_columnOf_4, hq, h⟩ := bd2_some h
        refine uV_i (b := h0_plan) (As := [.int v1, .int v2]) (rest := []) ⟨hx, hb, hml, hown, hts⟩ (c_X0_mayTrade l dC dI cyC cyI cyJ h0_plan h0_plan_barsOf h0_plan_subjectOf h0_plan_teacherOf h0_plan_seatsOf h0_plan_columnOf h0_plan_columnsWith plan_columnCount_ plan_roomCount_ plan_size_ plan_barsOf_ plan_teacherOf_ plan_columnOf_ v1 v2 r_3 plan_columnOf_4 hq) (cwV 2 hts gX5_swaps_X0_mayTrade rfl rfl rfl (by decide +kernel) ⟨Nat.le_of_ble_eq_true rfl, Nat.le_of_ble_eq_true rfl⟩) hK hE hA hP hD hS [1, 2, 4, 5] rfl rfl rfl 0 0 rfl rfl rfl hl.1 rfl (Nat.le_of_ble_eq_true rfl) ⟨Nat.zero_le _, Nat.zero_le _⟩ dX5_swaps_54 (fun H locs hP hD hS => ?_)
        have hP : va_P (dC, dI) vwCl [(h0, .inr (5, [.ref h0_text, .ref h0_plan, .ref h0_planDraft, .ref h0_roll, .ref h0_rollDraft, .ref h0_wayFinder, .ref h0_seating, .ref h0_demand, .ref h0_told, .int toldCount_])), (h0_plan, .inr (0, [.int plan_columnCount_, .int plan_roomCount_, .int plan_size_, .ref h0_plan_barsOf, .ref h0_plan_subjectOf, .ref h0_plan_teacherOf, .ref h0_plan_seatsOf, .ref h0_plan_columnOf, .ref h0_plan_columnsWith])), (h0_plan_barsOf, .inl (cyI, 10, .inl plan_barsOf_)), (h0_plan_subjectOf, .inl (cyI, 16, .inl plan_subjectOf_)), (h0_plan_teacherOf, .inl (cyI, 16, .inl plan_teacherOf_)), (h0_plan_columnOf, .inl (cyI, 16, .inl plan_columnOf_4)), (h0_plan_columnsWith, .inl (cyI, 10, .inl plan_columnsWith_)), (h0_roll, .inr (1, [.ref h0_roll_choicesOf, .int roll_size_, .int roll_kept_])), (h0_roll_choicesOf, .inl (cyI, 24, .inl roll_choicesOf_))] H := hP
        have hD : va_D A [(h0, .inr (5, [.ref h0_text, .ref h0_plan, .ref h0_planDraft, .ref h0_roll, .ref h0_rollDraft, .ref h0_wayFinder, .ref h0_seating, .ref h0_demand, .ref h0_told, .int toldCount_])), (h0_plan, .inr (0, [.int plan_columnCount_, .int plan_roomCount_, .int plan_size_, .ref h0_plan_barsOf, .ref h0_plan_subjectOf, .ref h0_plan_teacherOf, .ref h0_plan_seatsOf, .ref h0_plan_columnOf, .ref h0_plan_columnsWith])), (h0_plan_barsOf, .inl (cyI, 10, .inl plan_barsOf_)), (h0_plan_subjectOf, .inl (cyI, 16, .inl plan_subjectOf_)), (h0_plan_teacherOf, .inl (cyI, 16, .inl plan_teacherOf_)), (h0_plan_columnOf, .inl (cyI, 16, .inl plan_columnOf_4)), (h0_plan_columnsWith, .inl (cyI, 10, .inl plan_columnsWith_)), (h0_roll, .inr (1, [.ref h0_roll_choicesOf, .int roll_size_, .int roll_kept_])), (h0_roll_choicesOf, .inl (cyI, 24, .inl roll_choicesOf_))] := hD
        refine lv_if_ne (tgt := 63) hx hb dX5_swaps_57 (by decide) (fun c_ => ?_) (fun c_ => ?_)
        · have h := (if_neg c_).symm.trans h
          refine lv_aload_n hx hb dX5_swaps_63 rfl (lv_at hl 0 rfl) ?_
          refine va_get (D := (dC, dI)) (ci := 5) (v := .ref h0_plan) (C := RX5) (T := TX5) (N := 10) hx hb hts hiX5 hown hK hP 0 rfl rfl 1 (by decide) (hts (.fieldLink RX5 19 "OptionLattice" "plan" "LOptionLattice$Plan;") (by decide +kernel)) (fun _ h9 => h9) rfl dX5_swaps_64 ?_
          refine lv_iload_n hx hb dX5_swaps_67 rfl (lv_at hl 1 rfl) ?_
          refine lv_iload_n hx hb dX5_swaps_68 rfl (lv_at hl 2 rfl) ?_
          obtain ⟨plan_columnOf_5, plan_columnsWith_6, hq, h⟩ := bd2_some h
          refine uV_v (b := h0_plan) (As := [.int v1, .int v2]) (rest := []) ⟨hx, hb, hml, hown, hts⟩ (c_X0_trade l dC dI cyC cyI cyJ h0_plan h0_plan_barsOf h0_plan_subjectOf h0_plan_teacherOf h0_plan_seatsOf h0_plan_columnOf h0_plan_columnsWith plan_columnCount_ plan_roomCount_ plan_size_ plan_subjectOf_ plan_columnOf_4 plan_columnsWith_ v1 v2 plan_columnOf_5 plan_columnsWith_6 hq) (cwV 2 hts gX5_swaps_X0_trade rfl rfl rfl (by decide +kernel) ⟨Nat.le_of_ble_eq_true rfl, Nat.le_of_ble_eq_true rfl⟩) hK hE hA hP hD hS [1, 3, 5, 6] rfl rfl rfl 0 0 rfl rfl rfl hl.1 rfl (Nat.le_of_ble_eq_true rfl) ⟨Nat.zero_le _, Nat.zero_le _⟩ dX5_swaps_69 (fun H locs hP hD hS => ?_)
          have hP : va_P (dC, dI) vwCl [(h0, .inr (5, [.ref h0_text, .ref h0_plan, .ref h0_planDraft, .ref h0_roll, .ref h0_rollDraft, .ref h0_wayFinder, .ref h0_seating, .ref h0_demand, .ref h0_told, .int toldCount_])), (h0_plan, .inr (0, [.int plan_columnCount_, .int plan_roomCount_, .int plan_size_, .ref h0_plan_barsOf, .ref h0_plan_subjectOf, .ref h0_plan_teacherOf, .ref h0_plan_seatsOf, .ref h0_plan_columnOf, .ref h0_plan_columnsWith])), (h0_plan_barsOf, .inl (cyI, 10, .inl plan_barsOf_)), (h0_plan_subjectOf, .inl (cyI, 16, .inl plan_subjectOf_)), (h0_plan_teacherOf, .inl (cyI, 16, .inl plan_teacherOf_)), (h0_plan_columnOf, .inl (cyI, 16, .inl plan_columnOf_5)), (h0_plan_columnsWith, .inl (cyI, 10, .inl plan_columnsWith_6)), (h0_roll, .inr (1, [.ref h0_roll_choicesOf, .int roll_size_, .int roll_kept_])), (h0_roll_choicesOf, .inl (cyI, 24, .inl roll_choicesOf_))] H := hP
          have hD : va_D A [(h0, .inr (5, [.ref h0_text, .ref h0_plan, .ref h0_planDraft, .ref h0_roll, .ref h0_rollDraft, .ref h0_wayFinder, .ref h0_seating, .ref h0_demand, .ref h0_told, .int toldCount_])), (h0_plan, .inr (0, [.int plan_columnCount_, .int plan_roomCount_, .int plan_size_, .ref h0_plan_barsOf, .ref h0_plan_subjectOf, .ref h0_plan_teacherOf, .ref h0_plan_seatsOf, .ref h0_plan_columnOf, .ref h0_plan_columnsWith])), (h0_plan_barsOf, .inl (cyI, 10, .inl plan_barsOf_)), (h0_plan_subjectOf, .inl (cyI, 16, .inl plan_subjectOf_)), (h0_plan_teacherOf, .inl (cyI, 16, .inl plan_teacherOf_)), (h0_plan_columnOf, .inl (cyI, 16, .inl plan_columnOf_5)), (h0_plan_columnsWith, .inl (cyI, 10, .inl plan_columnsWith_6)), (h0_roll, .inr (1, [.ref h0_roll_choicesOf, .int roll_size_, .int roll_kept_])), (h0_roll_choicesOf, .inl (cyI, 24, .inl roll_choicesOf_))] := hD
          refine lv_aload_n hx hb dX5_swaps_72 rfl (lv_at hl 0 rfl) ?_
          obtain ⟨r_7, hq, h⟩ := bd1_some h
          refine uV_i (b := h0) (As := []) (rest := []) ⟨hx, hb, hml, hown, hts⟩ (c_X5_fitting l dC dI cyC cyI cyJ h0 h0_text h0_plan h0_plan_barsOf h0_plan_subjectOf h0_plan_teacherOf h0_plan_seatsOf h0_plan_columnOf h0_plan_columnsWith h0_planDraft h0_roll h0_roll_choicesOf h0_rollDraft h0_wayFinder h0_seating h0_demand h0_told toldCount_ plan_columnCount_ plan_roomCount_ plan_size_ plan_columnsWith_6 roll_size_ roll_kept_ roll_choicesOf_ r_7 hq) (cwV 0 hts gX5_swaps_X5_fitting rfl rfl rfl (by decide +kernel) ⟨Nat.le_of_ble_eq_true rfl, Nat.le_of_ble_eq_true rfl⟩) hK hE hA hP hD hS [0, 1, 6, 7, 8] rfl rfl rfl 5 0 rfl rfl rfl hl.1 rfl (Nat.le_of_ble_eq_true rfl) ⟨Nat.zero_le _, Nat.zero_le _⟩ dX5_swaps_73 (fun H locs hP hD hS => ?_)
          have hP : va_P (dC, dI) vwCl [(h0, .inr (5, [.ref h0_text, .ref h0_plan, .ref h0_planDraft, .ref h0_roll, .ref h0_rollDraft, .ref h0_wayFinder, .ref h0_seating, .ref h0_demand, .ref h0_told, .int toldCount_])), (h0_plan, .inr (0, [.int plan_columnCount_, .int plan_roomCount_, .int plan_size_, .ref h0_plan_barsOf, .ref h0_plan_subjectOf, .ref h0_plan_teacherOf, .ref h0_plan_seatsOf, .ref h0_plan_columnOf, .ref h0_plan_columnsWith])), (h0_plan_barsOf, .inl (cyI, 10, .inl plan_barsOf_)), (h0_plan_subjectOf, .inl (cyI, 16, .inl plan_subjectOf_)), (h0_plan_teacherOf, .inl (cyI, 16, .inl plan_teacherOf_)), (h0_plan_columnOf, .inl (cyI, 16, .inl plan_columnOf_5)), (h0_plan_columnsWith, .inl (cyI, 10, .inl plan_columnsWith_6)), (h0_roll, .inr (1, [.ref h0_roll_choicesOf, .int roll_size_, .int roll_kept_])), (h0_roll_choicesOf, .inl (cyI, 24, .inl roll_choicesOf_))] H := hP
          have hD : va_D A [(h0, .inr (5, [.ref h0_text, .ref h0_plan, .ref h0_planDraft, .ref h0_roll, .ref h0_rollDraft, .ref h0_wayFinder, .ref h0_seating, .ref h0_demand, .ref h0_told, .int toldCount_])), (h0_plan, .inr (0, [.int plan_columnCount_, .int plan_roomCount_, .int plan_size_, .ref h0_plan_barsOf, .ref h0_plan_subjectOf, .ref h0_plan_teacherOf, .ref h0_plan_seatsOf, .ref h0_plan_columnOf, .ref h0_plan_columnsWith])), (h0_plan_barsOf, .inl (cyI, 10, .inl plan_barsOf_)), (h0_plan_subjectOf, .inl (cyI, 16, .inl plan_subjectOf_)), (h0_plan_teacherOf, .inl (cyI, 16, .inl plan_teacherOf_)), (h0_plan_columnOf, .inl (cyI, 16, .inl plan_columnOf_5)), (h0_plan_columnsWith, .inl (cyI, 10, .inl plan_columnsWith_6)), (h0_roll, .inr (1, [.ref h0_roll_choicesOf, .int roll_size_, .int roll_kept_])), (h0_roll_choicesOf, .inl (cyI, 24, .inl roll_choicesOf_))] := hD
          obtain ⟨r_8, hq, h⟩ := bd1_some h
          refine uS_i (As := [.int r_7]) (rest := []) ⟨hx, hb, hml, hown, hts⟩ (c_J6_bitCount_0f7a4 l dC dI cyC cyI cyJ r_7 r_8 hq) (va_cwS 1 hts gX5_swaps_J6_bitCount_0f7a4 rfl rfl rfl (by decide +kernel) ⟨Nat.le_of_ble_eq_true rfl, Nat.le_of_ble_eq_true rfl⟩) hK hE hA hP hD hS [] rfl rfl rfl rfl hl.1 rfl (Nat.le_of_ble_eq_true rfl) ⟨Nat.zero_le _, Nat.zero_le _⟩ dX5_swaps_76 (fun H locs hP hD hS => ?_)
          have hP : va_P (dC, dI) vwCl [(h0, .inr (5, [.ref h0_text, .ref h0_plan, .ref h0_planDraft, .ref h0_roll, .ref h0_rollDraft, .ref h0_wayFinder, .ref h0_seating, .ref h0_demand, .ref h0_told, .int toldCount_])), (h0_plan, .inr (0, [.int plan_columnCount_, .int plan_roomCount_, .int plan_size_, .ref h0_plan_barsOf, .ref h0_plan_subjectOf, .ref h0_plan_teacherOf, .ref h0_plan_seatsOf, .ref h0_plan_columnOf, .ref h0_plan_columnsWith])), (h0_plan_barsOf, .inl (cyI, 10, .inl plan_barsOf_)), (h0_plan_subjectOf, .inl (cyI, 16, .inl plan_subjectOf_)), (h0_plan_teacherOf, .inl (cyI, 16, .inl plan_teacherOf_)), (h0_plan_columnOf, .inl (cyI, 16, .inl plan_columnOf_5)), (h0_plan_columnsWith, .inl (cyI, 10, .inl plan_columnsWith_6)), (h0_roll, .inr (1, [.ref h0_roll_choicesOf, .int roll_size_, .int roll_kept_])), (h0_roll_choicesOf, .inl (cyI, 24, .inl roll_choicesOf_))] H := hP
          have hD : va_D A [(h0, .inr (5, [.ref h0_text, .ref h0_plan, .ref h0_planDraft, .ref h0_roll, .ref h0_rollDraft, .ref h0_wayFinder, .ref h0_seating, .ref h0_demand, .ref h0_told, .int toldCount_])), (h0_plan, .inr (0, [.int plan_columnCount_, .int plan_roomCount_, .int plan_size_, .ref h0_plan_barsOf, .ref h0_plan_subjectOf, .ref h0_plan_teacherOf, .ref h0_plan_seatsOf, .ref h0_plan_columnOf, .ref h0_plan_columnsWith])), (h0_plan_barsOf, .inl (cyI, 10, .inl plan_barsOf_)), (h0_plan_subjectOf, .inl (cyI, 16, .inl plan_subjectOf_)), (h0_plan_teacherOf, .inl (cyI, 16, .inl plan_teacherOf_)), (h0_plan_columnOf, .inl (cyI, 16, .inl plan_columnOf_5)), (h0_plan_columnsWith, .inl (cyI, 10, .inl plan_columnsWith_6)), (h0_roll, .inr (1, [.ref h0_roll_choicesOf, .int roll_size_, .int roll_kept_])), (h0_roll_choicesOf, .inl (cyI, 24, .inl roll_choicesOf_))] := hD
          have h : some (r_8, plan_columnOf_5, plan_columnsWith_6) = some (rr, o0, o1) := h
          have z0 := Option.some.inj h
          obtain ⟨rfl, z1⟩ := Prod.mk.inj z0
          obtain ⟨rfl, z2⟩ := Prod.mk.inj z1
          obtain rfl := z2
          exact hret _ _ _ _ hP hS rfl dX5_swaps_79
        · have h := (if_pos c_).symm.trans h
          refine lv_bipush (v := (-3)) hx hb dX5_swaps_60 (by decide) ?_
          have h : some ((-3), plan_columnOf_4, plan_columnsWith_) = some (rr, o0, o1) := h
          have z0 := Option.some.inj h
          obtain ⟨rfl, z1⟩ := Prod.mk.inj z0
          obtain ⟨rfl, z2⟩ := Prod.mk.inj z1
          obtain rfl := z2
          exact hret _ _ _ _ hP hS rfl dX5_swaps_62
      · have h := (if_pos c_).symm.trans h
        refine lv_bipush (v := (-2)) hx hb dX5_swaps_45 (by decide) ?_
        have h : some ((-2), plan_columnOf_, plan_columnsWith_) = some (rr, o0, o1) := h
        have z0 := Option.some.inj h
        obtain ⟨rfl, z1⟩ := Prod.mk.inj z0
        obtain ⟨rfl, z2⟩ := Prod.mk.inj z1
        obtain rfl := z2
        exact hret _ _ _ _ hP hS rfl dX5_swaps_47
    · have h := (if_pos c_).symm.trans h
      refine lv_iconst (v := (-1)) hx hb dX5_swaps_22 (by decide) ?_
      have h : some ((-1), plan_columnOf_, plan_columnsWith_) = some (rr, o0, o1) := h
      have z0 := Option.some.inj h
      obtain ⟨rfl, z1⟩ := Prod.mk.inj z0
      obtain ⟨rfl, z2⟩ := Prod.mk.inj z1
      obtain rfl := z2
      exact hret _ _ _ _ hP hS rfl dX5_swaps_23

def m_X5_bars_63 (plan_barsOf_ : Nat → Int32) (v1 : Int32) (v2 : Int32) : Option (Int32 × (Nat → Int32)) :=
  gd (inb v1 10) (gd (inb v1 10) (gd (inb v1 10) (some (((upd plan_barsOf_ v1.toNatClampNeg ((plan_barsOf_ v1.toNatClampNeg) ^^^ ((1 : Int32) <<< (v2 &&& 31)))) v1.toNatClampNeg), (upd plan_barsOf_ v1.toNatClampNeg ((plan_barsOf_ v1.toNatClampNeg) ^^^ ((1 : Int32) <<< (v2 &&& 31))))))))
def m_X5_bars (plan_columnCount_ : Int32) (plan_size_ : Int32) (plan_barsOf_ : Nat → Int32) (plan_teacherOf_ : Nat → Int32) (plan_columnOf_ : Nat → Int32) (v1 : Int32) (v2 : Int32) (v3 : Int32) : Option (Int32 × (Nat → Int32)) :=
  bd1 (m_X5_isTeacher v1) (fun r_1 => (if r_1 = 0 then some ((-1), plan_barsOf_) else bd1 (m_X0_hasColumn plan_columnCount_ v2) (fun r_2 => (if r_2 = 0 then some ((-1), plan_barsOf_) else gd (inb v1 10) (bd1 (m_X5_hasBit (plan_barsOf_ v1.toNatClampNeg) v2) (fun r_3 => (if r_3 = v3 then some ((-2), plan_barsOf_) else (if v3 = 0 then m_X5_bars_63 plan_barsOf_ v1 v2 else bd1 (m_X0_teaches plan_size_ plan_teacherOf_ plan_columnOf_ v1 v2) (fun r_4 => (if r_4 = 0 then m_X5_bars_63 plan_barsOf_ v1 v2 else some ((-3), plan_barsOf_)))))))))))
abbrev rmX5_bars : Room := { frames := 1, cells := 0, slots := 0, locals := 23 }
set_option maxHeartbeats 4000000 in
set_option maxRecDepth 100000 in
theorem c_X5_bars (l : Launch) (dC : Nat → ClassId) (dI : Nat → Nat → Nat) (cyC cyI cyJ : ClassId) (h0 h0_text h0_plan h0_plan_barsOf h0_plan_subjectOf h0_plan_teacherOf h0_plan_seatsOf h0_plan_columnOf h0_plan_columnsWith h0_planDraft h0_roll h0_rollDraft h0_wayFinder h0_seating h0_demand h0_told : Nat) (toldCount_ : Int32) (plan_columnCount_ : Int32) (plan_roomCount_ : Int32) (plan_size_ : Int32) (plan_barsOf_ : Nat → Int32) (plan_teacherOf_ : Nat → Int32) (plan_columnOf_ : Nat → Int32) (v1 : Int32) (v2 : Int32) (v3 : Int32) (rr : Int32) (o0 : Nat → Int32) (h : m_X5_bars plan_columnCount_ plan_size_ plan_barsOf_ plan_teacherOf_ plan_columnOf_ v1 v2 v3 = some (rr, o0)) : uMi l yX5_bars wsX5_bars rmX5_bars (dC, dI) [(cyC, .char), (cyI, .int), (cyJ, .long)] [.ref h0, .int v1, .int v2, .int v3] [(h0, .inr (5, [.ref h0_text, .ref h0_plan, .ref h0_planDraft, .ref h0_roll, .ref h0_rollDraft, .ref h0_wayFinder, .ref h0_seating, .ref h0_demand, .ref h0_told, .int toldCount_])), (h0_plan, .inr (0, [.int plan_columnCount_, .int plan_roomCount_, .int plan_size_, .ref h0_plan_barsOf, .ref h0_plan_subjectOf, .ref h0_plan_teacherOf, .ref h0_plan_seatsOf, .ref h0_plan_columnOf, .ref h0_plan_columnsWith])), (h0_plan_barsOf, .inl (cyI, 10, .inl plan_barsOf_)), (h0_plan_teacherOf, .inl (cyI, 16, .inl plan_teacherOf_)), (h0_plan_columnOf, .inl (cyI, 16, .inl plan_columnOf_))] [(h0, .inr (5, [.ref h0_text, .ref h0_plan, .ref h0_planDraft, .ref h0_roll, .ref h0_rollDraft, .ref h0_wayFinder, .ref h0_seating, .ref h0_demand, .ref h0_told, .int toldCount_])), (h0_plan, .inr (0, [.int plan_columnCount_, .int plan_roomCount_, .int plan_size_, .ref h0_plan_barsOf, .ref h0_plan_subjectOf, .ref h0_plan_teacherOf, .ref h0_plan_seatsOf, .ref h0_plan_columnOf, .ref h0_plan_columnsWith])), (h0_plan_barsOf, .inl (cyI, 10, .inl o0)), (h0_plan_teacherOf, .inl (cyI, 16, .inl plan_teacherOf_)), (h0_plan_columnOf, .inl (cyI, 16, .inl plan_columnOf_))] rr := by
  refine uMi.of (cc := cX5_bars) (maxL := 5) (by decide) rfl (Nat.le_of_ble_eq_true rfl) (fun p e s m args below meth c A ls Q hx hb hml hown hts hA hP hK hD hE hS hl hret => ?_)
  have hown : s.vm.findClass RX5 = some m.cls := hown
  have hl : lv_has ls 5 [(0, .ref h0), (1, .int v1), (2, .int v2), (3, .int v3)] := hl
  have hiX0 : ∀ w ∈ u_ws RX0 TX0 9, w ∈ wsX5_bars := fun _ h9 => List.mem_cons_of_mem _ (List.mem_append_right _ h9)
  have hiX5 : ∀ w ∈ u_ws RX5 TX5 10, w ∈ wsX5_bars := fun _ h9 => List.mem_cons_of_mem _ (List.mem_append_left _ (List.mem_append_right _ h9))
  have J63 : m_X5_bars_63 plan_barsOf_ v1 v2 = some (rr, o0) → ∀ (H : Heap) (locs : List Loc) (ls : Array Slot), va_P (dC, dI) vwCl [(h0, .inr (5, [.ref h0_text, .ref h0_plan, .ref h0_planDraft, .ref h0_roll, .ref h0_rollDraft, .ref h0_wayFinder, .ref h0_seating, .ref h0_demand, .ref h0_told, .int toldCount_])), (h0_plan, .inr (0, [.int plan_columnCount_, .int plan_roomCount_, .int plan_size_, .ref h0_plan_barsOf, .ref h0_plan_subjectOf, .ref h0_plan_teacherOf, .ref h0_plan_seatsOf, .ref h0_plan_columnOf, .ref h0_plan_columnsWith])), (h0_plan_barsOf, .inl (cyI, 10, .inl plan_barsOf_)), (h0_plan_teacherOf, .inl (cyI, 16, .inl plan_teacherOf_)), (h0_plan_columnOf, .inl (cyI, 16, .inl plan_columnOf_))] H → va_D A [(h0, .inr (5, [.ref h0_text, .ref h0_plan, .ref h0_planDraft, .ref h0_roll, .ref h0_rollDraft, .ref h0_wayFinder, .ref h0_seating, .ref h0_demand, .ref h0_told, .int toldCount_])), (h0_plan, .inr (0, [.int plan_columnCount_, .int plan_roomCount_, .int plan_size_, .ref h0_plan_barsOf, .ref h0_plan_subjectOf, .ref h0_plan_teacherOf, .ref h0_plan_seatsOf, .ref h0_plan_columnOf, .ref h0_plan_columnsWith])), (h0_plan_barsOf, .inl (cyI, 10, .inl plan_barsOf_)), (h0_plan_teacherOf, .inl (cyI, 16, .inl plan_teacherOf_)), (h0_plan_columnOf, .inl (cyI, 16, .inl plan_columnOf_))] → va_S A s.heap H locs → lv_has ls 5 [(0, .ref h0), (1, .int v1), (2, .int v2)] → W p l e rmX5_bars s m args below meth c H locs 0 0 Q (F0 m 63 ls []) := by
    intro h H locs ls hP hD hS hl
    unfold m_X5_bars_63 at h
    refine lv_aload_n hx hb dX5_bars_63 rfl (lv_at hl 0 rfl) ?_
    refine va_get (D := (dC, dI)) (ci := 5) (v := .ref h0_plan) (C := RX5) (T := TX5) (N := 10) hx hb hts hiX5 hown hK hP 0 rfl rfl 1 (by decide) (hts (.fieldLink RX5 19 "OptionLattice" "plan" "LOptionLattice$Plan;") (by decide +kernel)) (fun _ h9 => h9) rfl dX5_bars_64 ?_
    refine va_getN (host := "OptionLattice") (D := (dC, dI)) (ci := 0) (v := .ref h0_plan_barsOf) (C := RX0) (T := TX0) (N := 9) hx hb hts hiX0 hown hK hP 1 rfl rfl 3 (by decide) (va_Nw.use rfl (hE.1 ("OptionLattice", 149, "OptionLattice$Plan", "barsOf", "[I") (List.mem_of_getElem? (i := 6) rfl))) (fun _ h9 => h9) rfl dX5_bars_67 ?_
    refine lv_iload_n hx hb dX5_bars_70 rfl (lv_at hl 1 rfl) ?_
    refine lv_dup2_11 hx hb dX5_bars_71 rfl rfl ?_
    obtain ⟨g_, h⟩ := gd_some h
    refine va_iald hx hb hK hP 2 1 rfl rfl (inb_in g_) dX5_bars_72 ?_
    refine lv_iconst (v := 1) hx hb dX5_bars_73 (by decide) ?_
    refine lv_iload_n hx hb dX5_bars_74 rfl (lv_at hl 2 rfl) ?_
    refine lv_ishl hx hb dX5_bars_75 ?_
    refine lv_ixor hx hb dX5_bars_76 ?_
    obtain ⟨g_, h⟩ := gd_some h
    refine va_iast hx hb hK hP hD hS 2 1 rfl rfl (inb_in g_) dX5_bars_77 (fun H locs hP hD hS => ?_)
    have hP : va_P (dC, dI) vwCl [(h0, .inr (5, [.ref h0_text, .ref h0_plan, .ref h0_planDraft, .ref h0_roll, .ref h0_rollDraft, .ref h0_wayFinder, .ref h0_seating, .ref h0_demand, .ref h0_told, .int toldCount_])), (h0_plan, .inr (0, [.int plan_columnCount_, .int plan_roomCount_, .int plan_size_, .ref h0_plan_barsOf, .ref h0_plan_subjectOf, .ref h0_plan_teacherOf, .ref h0_plan_seatsOf, .ref h0_plan_columnOf, .ref h0_plan_columnsWith])), (h0_plan_barsOf, .inl (cyI, 10, .inl (upd plan_barsOf_ v1.toNatClampNeg ((plan_barsOf_ v1.toNatClampNeg) ^^^ ((1 : Int32) <<< (v2 &&& 31)))))), (h0_plan_teacherOf, .inl (cyI, 16, .inl plan_teacherOf_)), (h0_plan_columnOf, .inl (cyI, 16, .inl plan_columnOf_))] H := hP
    have hD : va_D A [(h0, .inr (5, [.ref h0_text, .ref h0_plan, .ref h0_planDraft, .ref h0_roll, .ref h0_rollDraft, .ref h0_wayFinder, .ref h0_seating, .ref h0_demand, .ref h0_told, .int toldCount_])), (h0_plan, .inr (0, [.int plan_columnCount_, .int plan_roomCount_, .int plan_size_, .ref h0_plan_barsOf, .ref h0_plan_subjectOf, .ref h0_plan_teacherOf, .ref h0_plan_seatsOf, .ref h0_plan_columnOf, .ref h0_plan_columnsWith])), (h0_plan_barsOf, .inl (cyI, 10, .inl (upd plan_barsOf_ v1.toNatClampNeg ((plan_barsOf_ v1.toNatClampNeg) ^^^ ((1 : Int32) <<< (v2 &&& 31)))))), (h0_plan_teacherOf, .inl (cyI, 16, .inl plan_teacherOf_)), (h0_plan_columnOf, .inl (cyI, 16, .inl plan_columnOf_))] := hD
    refine lv_aload_n hx hb dX5_bars_78 rfl (lv_at hl 0 rfl) ?_
    refine va_get (D := (dC, dI)) (ci := 5) (v := .ref h0_plan) (C := RX5) (T := TX5) (N := 10) hx hb hts hiX5 hown hK hP 0 rfl rfl 1 (by decide) (hts (.fieldLink RX5 19 "OptionLattice" "plan" "LOptionLattice$Plan;") (by decide +kernel)) (fun _ h9 => h9) rfl dX5_bars_79 ?_
    refine va_getN (host := "OptionLattice") (D := (dC, dI)) (ci := 0) (v := .ref h0_plan_barsOf) (C := RX0) (T := TX0) (N := 9) hx hb hts hiX0 hown hK hP 1 rfl rfl 3 (by decide) (va_Nw.use rfl (hE.1 ("OptionLattice", 149, "OptionLattice$Plan", "barsOf", "[I") (List.mem_of_getElem? (i := 6) rfl))) (fun _ h9 => h9) rfl dX5_bars_82 ?_
    refine lv_iload_n hx hb dX5_bars_85 rfl (lv_at hl 1 rfl) ?_
    obtain ⟨g_, h⟩ := gd_some h
    refine va_iald hx hb hK hP 2 1 rfl rfl (inb_in g_) dX5_bars_86 ?_
    have h : some (((upd plan_barsOf_ v1.toNatClampNeg ((plan_barsOf_ v1.toNatClampNeg) ^^^ ((1 : Int32) <<< (v2 &&& 31)))) v1.toNatClampNeg), (upd plan_barsOf_ v1.toNatClampNeg ((plan_barsOf_ v1.toNatClampNeg) ^^^ ((1 : Int32) <<< (v2 &&& 31))))) = some (rr, o0) := h
    have z0 := Option.some.inj h
    obtain ⟨rfl, z1⟩ := Prod.mk.inj z0
    obtain rfl := z1
    exact hret _ _ _ _ hP hS rfl dX5_bars_87
  unfold m_X5_bars at h
  refine lv_iload_n hx hb dX5_bars_0 rfl (lv_at hl 1 rfl) ?_
  obtain ⟨r_1, hq, h⟩ := bd1_some h
  refine uS_i (As := [.int v1]) (rest := []) ⟨hx, hb, hml, hown, hts⟩ (c_X5_isTeacher l dC dI cyC cyI cyJ v1 r_1 hq) (va_cwS 1 hts gX5_bars_X5_isTeacher rfl rfl rfl (by decide +kernel) ⟨Nat.le_of_ble_eq_true rfl, Nat.le_of_ble_eq_true rfl⟩) hK hE hA hP hD hS [] rfl rfl rfl rfl hl.1 rfl (Nat.le_of_ble_eq_true rfl) ⟨Nat.zero_le _, Nat.zero_le _⟩ dX5_bars_1 (fun H locs hP hD hS => ?_)
  have hP : va_P (dC, dI) vwCl [(h0, .inr (5, [.ref h0_text, .ref h0_plan, .ref h0_planDraft, .ref h0_roll, .ref h0_rollDraft, .ref h0_wayFinder, .ref h0_seating, .ref h0_demand, .ref h0_told, .int toldCount_])), (h0_plan, .inr (0, [.int plan_columnCount_, .int plan_roomCount_, .int plan_size_, .ref h0_plan_barsOf, .ref h0_plan_subjectOf, .ref h0_plan_teacherOf, .ref h0_plan_seatsOf, .ref h0_plan_columnOf, .ref h0_plan_columnsWith])), (h0_plan_barsOf, .inl (cyI, 10, .inl plan_barsOf_)), (h0_plan_teacherOf, .inl (cyI, 16, .inl plan_teacherOf_)), (h0_plan_columnOf, .inl (cyI, 16, .inl plan_columnOf_))] H := hP
  have hD : va_D A [(h0, .inr (5, [.ref h0_text, .ref h0_plan, .ref h0_planDraft, .ref h0_roll, .ref h0_rollDraft, .ref h0_wayFinder, .ref h0_seating, .ref h0_demand, .ref h0_told, .int toldCount_])), (h0_plan, .inr (0, [.int plan_columnCount_, .int plan_roomCount_, .int plan_size_, .ref h0_plan_barsOf, .ref h0_plan_subjectOf, .ref h0_plan_teacherOf, .ref h0_plan_seatsOf, .ref h0_plan_columnOf, .ref h0_plan_columnsWith])), (h0_plan_barsOf, .inl (cyI, 10, .inl plan_barsOf_)), (h0_plan_teacherOf, .inl (cyI, 16, .inl plan_teacherOf_)), (h0_plan_columnOf, .inl (cyI, 16, .inl plan_columnOf_))] := hD
  refine lv_if_eq (tgt := 18) hx hb dX5_bars_4 (by decide) (fun c_ => ?_) (fun c_ => ?_)
  · have h := (if_pos c_).symm.trans h
    refine lv_iconst (v := (-1)) hx hb dX5_bars_18 (by decide) ?_
    have h : some ((-1), plan_barsOf_) = some (rr, o0) := h
    have z0 := Option.some.inj h
    obtain ⟨rfl, z1⟩ := Prod.mk.inj z0
    obtain rfl := z1
    exact hret _ _ _ _ hP hS rfl dX5_bars_19
  · have h := (if_neg c_).symm.trans h
    refine lv_aload_n hx hb dX5_bars_7 rfl (lv_at hl 0 rfl) ?_
    refine va_get (D := (dC, dI)) (ci := 5) (v := .ref h0_plan) (C := RX5) (T := TX5) (N := 10) hx hb hts hiX5 hown hK hP 0 rfl rfl 1 (by decide) (hts (.fieldLink RX5 19 "OptionLattice" "plan" "LOptionLattice$Plan;") (by decide +kernel)) (fun _ h9 => h9) rfl dX5_bars_8 ?_
    refine lv_iload_n hx hb dX5_bars_11 rfl (lv_at hl 2 rfl) ?_
    obtain ⟨r_2, hq, h⟩ := bd1_some h
    refine uV_i (b := h0_plan) (As := [.int v2]) (rest := []) ⟨hx, hb, hml, hown, hts⟩ (c_X0_hasColumn l dC dI cyC cyI cyJ h0_plan h0_plan_barsOf h0_plan_subjectOf h0_plan_teacherOf h0_plan_seatsOf h0_plan_columnOf h0_plan_columnsWith plan_columnCount_ plan_roomCount_ plan_size_ v2 r_2 hq) (cwV 1 hts gX5_bars_X0_hasColumn rfl rfl rfl (by decide +kernel) ⟨Nat.le_of_ble_eq_true rfl, Nat.le_of_ble_eq_true rfl⟩) hK hE hA hP hD hS [1] rfl rfl rfl 0 0 rfl rfl rfl hl.1 rfl (Nat.le_of_ble_eq_true rfl) ⟨Nat.zero_le _, Nat.zero_le _⟩ dX5_bars_12 (fun H locs hP hD hS => ?_)
    have hP : va_P (dC, dI) vwCl [(h0, .inr (5, [.ref h0_text, .ref h0_plan, .ref h0_planDraft, .ref h0_roll, .ref h0_rollDraft, .ref h0_wayFinder, .ref h0_seating, .ref h0_demand, .ref h0_told, .int toldCount_])), (h0_plan, .inr (0, [.int plan_columnCount_, .int plan_roomCount_, .int plan_size_, .ref h0_plan_barsOf, .ref h0_plan_subjectOf, .ref h0_plan_teacherOf, .ref h0_plan_seatsOf, .ref h0_plan_columnOf, .ref h0_plan_columnsWith])), (h0_plan_barsOf, .inl (cyI, 10, .inl plan_barsOf_)), (h0_plan_teacherOf, .inl (cyI, 16, .inl plan_teacherOf_)), (h0_plan_columnOf, .inl (cyI, 16, .inl plan_columnOf_))] H := hP
    have hD : va_D A [(h0, .inr (5, [.ref h0_text, .ref h0_plan, .ref h0_planDraft, .ref h0_roll, .ref h0_rollDraft, .ref h0_wayFinder, .ref h0_seating, .ref h0_demand, .ref h0_told, .int toldCount_])), (h0_plan, .inr (0, [.int plan_columnCount_, .int plan_roomCount_, .int plan_size_, .ref h0_plan_barsOf, .ref h0_plan_subjectOf, .ref h0_plan_teacherOf, .ref h0_plan_seatsOf, .ref h0_plan_columnOf, .ref h0_plan_columnsWith])), (h0_plan_barsOf, .inl (cyI, 10, .inl plan_barsOf_)), (h0_plan_teacherOf, .inl (cyI, 16, .inl plan_teacherOf_)), (h0_plan_columnOf, .inl (cyI, 16, .inl plan_columnOf_))] := hD
    refine lv_if_ne (tgt := 20) hx hb dX5_bars_15 (by decide) (fun c_ => ?_) (fun c_ => ?_)
    · have h := (if_neg c_).symm.trans h
      refine lv_aload_n hx hb dX5_bars_20 rfl (lv_at hl 0 rfl) ?_
      refine va_get (D := (dC, dI)) (ci := 5) (v := .ref h0_plan) (C := RX5) (T := TX5) (N := 10) hx hb hts hiX5 hown hK hP 0 rfl rfl 1 (by decide) (hts (.fieldLink RX5 19 "OptionLattice" "plan" "LOptionLattice$Plan;") (by decide +kernel)) (fun _ h9 => h9) rfl dX5_bars_21 ?_
      refine va_getN (host := "OptionLattice") (D := (dC, dI)) (ci := 0) (v := .ref h0_plan_barsOf) (C := RX0) (T := TX0) (N := 9) hx hb hts hiX0 hown hK hP 1 rfl rfl 3 (by decide) (va_Nw.use rfl (hE.1 ("OptionLattice", 149, "OptionLattice$Plan", "barsOf", "[I") (List.mem_of_getElem? (i := 6) rfl))) (fun _ h9 => h9) rfl dX5_bars_24 ?_
      refine lv_iload_n hx hb dX5_bars_27 rfl (lv_at hl 1 rfl) ?_
      obtain ⟨g_, h⟩ := gd_some h
      refine va_iald hx hb hK hP 2 1 rfl rfl (inb_in g_) dX5_bars_28 ?_
      refine lv_iload_n hx hb dX5_bars_29 rfl (lv_at hl 2 rfl) ?_
      obtain ⟨r_3, hq, h⟩ := bd1_some h
      refine uS_i (As := [.int (plan_barsOf_ v1.toNatClampNeg), .int v2]) (rest := []) ⟨hx, hb, hml, hown, hts⟩ (c_X5_hasBit l dC dI cyC cyI cyJ (plan_barsOf_ v1.toNatClampNeg) v2 r_3 hq) (va_cwS 2 hts gX5_bars_X5_hasBit rfl rfl rfl (by decide +kernel) ⟨Nat.le_of_ble_eq_true rfl, Nat.le_of_ble_eq_true rfl⟩) hK hE hA hP hD hS [] rfl rfl rfl rfl hl.1 rfl (Nat.le_of_ble_eq_true rfl) ⟨Nat.zero_le _, Nat.zero_le _⟩ dX5_bars_30 (fun H locs hP hD hS => ?_)
      have hP : va_P (dC, dI) vwCl [(h0, .inr (5, [.ref h0_text, .ref h0_plan, .ref h0_planDraft, .ref h0_roll, .ref h0_rollDraft, .ref h0_wayFinder, .ref h0_seating, .ref h0_demand, .ref h0_told, .int toldCount_])), (h0_plan, .inr (0, [.int plan_columnCount_, .int plan_roomCount_, .int plan_size_, .ref h0_plan_barsOf, .ref h0_plan_subjectOf, .ref h0_plan_teacherOf, .ref h0_plan_seatsOf, .ref h0_plan_columnOf, .ref h0_plan_columnsWith])), (h0_plan_barsOf, .inl (cyI, 10, .inl plan_barsOf_)), (h0_plan_teacherOf, .inl (cyI, 16, .inl plan_teacherOf_)), (h0_plan_columnOf, .inl (cyI, 16, .inl plan_columnOf_))] H := hP
      have hD : va_D A [(h0, .inr (5, [.ref h0_text, .ref h0_plan, .ref h0_planDraft, .ref h0_roll, .ref h0_rollDraft, .ref h0_wayFinder, .ref h0_seating, .ref h0_demand, .ref h0_told, .int toldCount_])), (h0_plan, .inr (0, [.int plan_columnCount_, .int plan_roomCount_, .int plan_size_, .ref h0_plan_barsOf, .ref h0_plan_subjectOf, .ref h0_plan_teacherOf, .ref h0_plan_seatsOf, .ref h0_plan_columnOf, .ref h0_plan_columnsWith])), (h0_plan_barsOf, .inl (cyI, 10, .inl plan_barsOf_)), (h0_plan_teacherOf, .inl (cyI, 16, .inl plan_teacherOf_)), (h0_plan_columnOf, .inl (cyI, 16, .inl plan_columnOf_))] := hD
      refine lv_istore (lv' := [(4, .int r_3), (0, .ref h0), (1, .int v1), (2, .int v2), (3, .int v3)]) hx hb dX5_bars_33 hl (by decide) rfl (fun ls hl => ?_)
      refine lv_iload hx hb dX5_bars_35 (lv_at hl 0 rfl) ?_
      refine lv_iload_n hx hb dX5_bars_37 rfl (lv_at hl 4 rfl) ?_
      refine lv_icmp_ne (tgt := 44) hx hb dX5_bars_38 (by decide) (fun c_ => ?_) (fun c_ => ?_)
      · have h := (if_neg c_).symm.trans h
        refine lv_iload_n hx hb dX5_bars_44 rfl (lv_at hl 4 rfl) ?_
        refine lv_if_eq (tgt := 63) hx hb dX5_bars_45 (by decide) (fun c_ => ?_) (fun c_ => ?_)
        · have h := (if_pos c_).symm.trans h
          exact J63  h _ _ _ hP hD hS (lv_sub hl [1, 2, 3] rfl)
        · have h := (if_neg c_).symm.trans h
          refine lv_aload_n hx hb dX5_bars_48 rfl (lv_at hl 1 rfl) ?_
          refine va_get (D := (dC, dI)) (ci := 5) (v := .ref h0_plan) (C := RX5) (T := TX5) (N := 10) hx hb hts hiX5 hown hK hP 0 rfl rfl 1 (by decide) (hts (.fieldLink RX5 19 "OptionLattice" "plan" "LOptionLattice$Plan;") (by decide +kernel)) (fun _ h9 => h9) rfl dX5_bars_49 ?_
          refine lv_iload_n hx hb dX5_bars_52 rfl (lv_at hl 2 rfl) ?_
          refine lv_iload_n hx hb dX5_bars_53 rfl (lv_at hl 3 rfl) ?_
          obtain ⟨r_4, hq, h⟩ := bd1_some h
          refine uV_i (b := h0_plan) (As := [.int v1, .int v2]) (rest := []) ⟨hx, hb, hml, hown, hts⟩ (c_X0_teaches l dC dI cyC cyI cyJ h0_plan h0_plan_barsOf h0_plan_subjectOf h0_plan_teacherOf h0_plan_seatsOf h0_plan_columnOf h0_plan_columnsWith plan_columnCount_ plan_roomCount_ plan_size_ plan_teacherOf_ plan_columnOf_ v1 v2 r_4 hq) (cwV 2 hts gX5_bars_X0_teaches rfl rfl rfl (by decide +kernel) ⟨Nat.le_of_ble_eq_true rfl, Nat.le_of_ble_eq_true rfl⟩) hK hE hA hP hD hS [1, 3, 4] rfl rfl rfl 0 0 rfl rfl rfl hl.1 rfl (Nat.le_of_ble_eq_true rfl) ⟨Nat.zero_le _, Nat.zero_le _⟩ dX5_bars_54 (fun H locs hP hD hS => ?_)
          have hP : va_P (dC, dI) vwCl [(h0, .inr (5, [.ref h0_text, .ref h0_plan, .ref h0_planDraft, .ref h0_roll, .ref h0_rollDraft, .ref h0_wayFinder, .ref h0_seating, .ref h0_demand, .ref h0_told, .int toldCount_])), (h0_plan, .inr (0, [.int plan_columnCount_, .int plan_roomCount_, .int plan_size_, .ref h0_plan_barsOf, .ref h0_plan_subjectOf, .ref h0_plan_teacherOf, .ref h0_plan_seatsOf, .ref h0_plan_columnOf, .ref h0_plan_columnsWith])), (h0_plan_barsOf, .inl (cyI, 10, .inl plan_barsOf_)), (h0_plan_teacherOf, .inl (cyI, 16, .inl plan_teacherOf_)), (h0_plan_columnOf, .inl (cyI, 16, .inl plan_columnOf_))] H := hP
          have hD : va_D A [(h0, .inr (5, [.ref h0_text, .ref h0_plan, .ref h0_planDraft, .ref h0_roll, .ref h0_rollDraft, .ref h0_wayFinder, .ref h0_seating, .ref h0_demand, .ref h0_told, .int toldCount_])), (h0_plan, .inr (0, [.int plan_columnCount_, .int plan_roomCount_, .int plan_size_, .ref h0_plan_barsOf, .ref h0_plan_subjectOf, .ref h0_plan_teacherOf, .ref h0_plan_seatsOf, .ref h0_plan_columnOf, .ref h0_plan_columnsWith])), (h0_plan_barsOf, .inl (cyI, 10, .inl plan_barsOf_)), (h0_plan_teacherOf, .inl (cyI, 16, .inl plan_teacherOf_)), (h0_plan_columnOf, .inl (cyI, 16, .inl plan_columnOf_))] := hD
          refine lv_if_eq (tgt := 63) hx hb dX5_bars_57 (by decide) (fun c_ => ?_) (fun c_ => ?_)
          · have h := (if_pos c_).symm.trans h
            exact J63  h _ _ _ hP hD hS (lv_sub hl [1, 2, 3] rfl)
          · have h := (if_neg c_).symm.trans h
            refine lv_bipush (v := (-3)) hx hb dX5_bars_60 (by decide) ?_
            have h : some ((-3), plan_barsOf_) = some (rr, o0) := h
            have z0 := Option.some.inj h
            obtain ⟨rfl, z1⟩ := Prod.mk.inj z0
            obtain rfl := z1
            exact hret _ _ _ _ hP hS rfl dX5_bars_62
      · have h := (if_pos c_).symm.trans h
        refine lv_bipush (v := (-2)) hx hb dX5_bars_41 (by decide) ?_
        have h : some ((-2), plan_barsOf_) = some (rr, o0) := h
        have z0 := Option.some.inj h
        obtain ⟨rfl, z1⟩ := Prod.mk.inj z0
        obtain rfl := z1
        exact hret _ _ _ _ hP hS rfl dX5_bars_43
    · have h := (if_pos c_).symm.trans h
      refine lv_iconst (v := (-1)) hx hb dX5_bars_18 (by decide) ?_
      have h : some ((-1), plan_barsOf_) = some (rr, o0) := h
      have z0 := Option.some.inj h
      obtain ⟨rfl, z1⟩ := Prod.mk.inj z0
      obtain rfl := z1
      exact hret _ _ _ _ hP hS rfl dX5_bars_19

def m_X5_rooms_50 (plan_roomCount_ : Int32) (v1 : Int32) : Option (Int32 × Int32) :=
  some (plan_roomCount_, v1)
def m_X5_rooms_15 (plan_columnCount_ : Int32) (plan_roomCount_ : Int32) (plan_size_ : Int32) (plan_columnOf_ : Nat → Int32) (v1 : Int32) (rec15 : Int32 → Option (Int32 × Int32)) : Int32 → Option (Int32 × Int32) := fun v2 =>
  (if plan_columnCount_ ≤ v2 then m_X5_rooms_50 plan_roomCount_ v1 else bd1 (m_X0_sectionsIn plan_size_ plan_columnOf_ v2) (fun r_1 => bd1 (m_J6_bitCount_0f7a4 r_1) (fun r_2 => (if r_2 ≤ v1 then lt' (v2 + 1) (fun v2_3 => rec15 v2_3) else some ((-3), plan_roomCount_)))))
def m_X5_rooms (plan_columnCount_ : Int32) (plan_roomCount_ : Int32) (plan_size_ : Int32) (plan_columnOf_ : Nat → Int32) (v1 : Int32) : Option (Int32 × Int32) :=
  (if v1 < 1 then some ((-1), plan_roomCount_) else (if v1 ≤ 9 then it1 (m_X5_rooms_15 plan_columnCount_ plan_roomCount_ plan_size_ plan_columnOf_ v1) 1100 0 else some ((-1), plan_roomCount_)))
abbrev rmX5_rooms : Room := { frames := 1, cells := 0, slots := 0, locals := 23 }
set_option maxHeartbeats 4000000 in
set_option maxRecDepth 100000 in
theorem c_X5_rooms (l : Launch) (dC : Nat → ClassId) (dI : Nat → Nat → Nat) (cyC cyI cyJ : ClassId) (h0 h0_text h0_plan h0_plan_barsOf h0_plan_subjectOf h0_plan_teacherOf h0_plan_seatsOf h0_plan_columnOf h0_plan_columnsWith h0_planDraft h0_roll h0_rollDraft h0_wayFinder h0_seating h0_demand h0_told : Nat) (toldCount_ : Int32) (plan_columnCount_ : Int32) (plan_roomCount_ : Int32) (plan_size_ : Int32) (plan_columnOf_ : Nat → Int32) (v1 : Int32) (rr : Int32) (o0 : Int32) (h : m_X5_rooms plan_columnCount_ plan_roomCount_ plan_size_ plan_columnOf_ v1 = some (rr, o0)) : uMi l yX5_rooms wsX5_rooms rmX5_rooms (dC, dI) [(cyC, .char), (cyI, .int), (cyJ, .long)] [.ref h0, .int v1] [(h0, .inr (5, [.ref h0_text, .ref h0_plan, .ref h0_planDraft, .ref h0_roll, .ref h0_rollDraft, .ref h0_wayFinder, .ref h0_seating, .ref h0_demand, .ref h0_told, .int toldCount_])), (h0_plan, .inr (0, [.int plan_columnCount_, .int plan_roomCount_, .int plan_size_, .ref h0_plan_barsOf, .ref h0_plan_subjectOf, .ref h0_plan_teacherOf, .ref h0_plan_seatsOf, .ref h0_plan_columnOf, .ref h0_plan_columnsWith])), (h0_plan_columnOf, .inl (cyI, 16, .inl plan_columnOf_))] [(h0, .inr (5, [.ref h0_text, .ref h0_plan, .ref h0_planDraft, .ref h0_roll, .ref h0_rollDraft, .ref h0_wayFinder, .ref h0_seating, .ref h0_demand, .ref h0_told, .int toldCount_])), (h0_plan, .inr (0, [.int plan_columnCount_, .int o0, .int plan_size_, .ref h0_plan_barsOf, .ref h0_plan_subjectOf, .ref h0_plan_teacherOf, .ref h0_plan_seatsOf, .ref h0_plan_columnOf, .ref h0_plan_columnsWith])), (h0_plan_columnOf, .inl (cyI, 16, .inl plan_columnOf_))] rr := by
  refine uMi.of (cc := cX5_rooms) (maxL := 3) (by decide) rfl (Nat.le_of_ble_eq_true rfl) (fun p e s m args below meth c A ls Q hx hb hml hown hts hA hP hK hD hE hS hl hret => ?_)
  have hown : s.vm.findClass RX5 = some m.cls := hown
  have hl : lv_has ls 3 [(0, .ref h0), (1, .int v1)] := hl
  have hiX0 : ∀ w ∈ u_ws RX0 TX0 9, w ∈ wsX5_rooms := fun _ h9 => List.mem_cons_of_mem _ (List.mem_append_right _ h9)
  have hiX5 : ∀ w ∈ u_ws RX5 TX5 10, w ∈ wsX5_rooms := fun _ h9 => List.mem_cons_of_mem _ (List.mem_append_left _ (List.mem_append_right _ h9))
  have J50 : m_X5_rooms_50 plan_roomCount_ v1 = some (rr, o0) → ∀ (H : Heap) (locs : List Loc) (ls : Array Slot), va_P (dC, dI) vwCl [(h0, .inr (5, [.ref h0_text, .ref h0_plan, .ref h0_planDraft, .ref h0_roll, .ref h0_rollDraft, .ref h0_wayFinder, .ref h0_seating, .ref h0_demand, .ref h0_told, .int toldCount_])), (h0_plan, .inr (0, [.int plan_columnCount_, .int plan_roomCount_, .int plan_size_, .ref h0_plan_barsOf, .ref h0_plan_subjectOf, .ref h0_plan_teacherOf, .ref h0_plan_seatsOf, .ref h0_plan_columnOf, .ref h0_plan_columnsWith])), (h0_plan_columnOf, .inl (cyI, 16, .inl plan_columnOf_))] H → va_D A [(h0, .inr (5, [.ref h0_text, .ref h0_plan, .ref h0_planDraft, .ref h0_roll, .ref h0_rollDraft, .ref h0_wayFinder, .ref h0_seating, .ref h0_demand, .ref h0_told, .int toldCount_])), (h0_plan, .inr (0, [.int plan_columnCount_, .int plan_roomCount_, .int plan_size_, .ref h0_plan_barsOf, .ref h0_plan_subjectOf, .ref h0_plan_teacherOf, .ref h0_plan_seatsOf, .ref h0_plan_columnOf, .ref h0_plan_columnsWith])), (h0_plan_columnOf, .inl (cyI, 16, .inl plan_columnOf_))] → va_S A s.heap H locs → lv_has ls 3 [(0, .ref h0), (1, .int v1)] → W p l e rmX5_rooms s m args below meth c H locs 0 0 Q (F0 m 50 ls []) := by
    intro h H locs ls hP hD hS hl
    unfold m_X5_rooms_50 at h
    refine lv_aload_n hx hb dX5_rooms_50 rfl (lv_at hl 0 rfl) ?_
    refine va_get (D := (dC, dI)) (ci := 5) (v := .ref h0_plan) (C := RX5) (T := TX5) (N := 10) hx hb hts hiX5 hown hK hP 0 rfl rfl 1 (by decide) (hts (.fieldLink RX5 19 "OptionLattice" "plan" "LOptionLattice$Plan;") (by decide +kernel)) (fun _ h9 => h9) rfl dX5_rooms_51 ?_
    refine va_getN (host := "OptionLattice") (D := (dC, dI)) (ci := 0) (v := .int plan_roomCount_) (C := RX0) (T := TX0) (N := 9) hx hb hts hiX0 hown hK hP 1 rfl rfl 1 (by decide) (va_Nw.use rfl (hE.1 ("OptionLattice", 164, "OptionLattice$Plan", "roomCount", "I") (List.mem_of_getElem? (i := 3) rfl))) (fun _ h9 => h9) rfl dX5_rooms_54 ?_
    refine lv_istore_n (lv' := [(2, .int plan_roomCount_), (0, .ref h0), (1, .int v1)]) hx hb dX5_rooms_57 rfl hl (by decide) rfl (fun ls hl => ?_)
    refine lv_aload_n hx hb dX5_rooms_58 rfl (lv_at hl 1 rfl) ?_
    refine va_get (D := (dC, dI)) (ci := 5) (v := .ref h0_plan) (C := RX5) (T := TX5) (N := 10) hx hb hts hiX5 hown hK hP 0 rfl rfl 1 (by decide) (hts (.fieldLink RX5 19 "OptionLattice" "plan" "LOptionLattice$Plan;") (by decide +kernel)) (fun _ h9 => h9) rfl dX5_rooms_59 ?_
    refine lv_iload_n hx hb dX5_rooms_62 rfl (lv_at hl 2 rfl) ?_
    refine va_putN (host := "OptionLattice") (D := (dC, dI)) (ci := 0) (v := .int v1) (ty := .int) (C := RX0) (T := TX0) (N := 9) hx hb hts hiX0 tyX0 tyX0_ok nmX0 hown hK hP hD hS 1 rfl rfl 1 (by decide) (va_Nw.use rfl (hE.1 ("OptionLattice", 164, "OptionLattice$Plan", "roomCount", "I") (List.mem_of_getElem? (i := 3) rfl))) (fun _ h9 => h9) rfl (by decide +kernel) rfl rfl (Nat.le_of_ble_eq_true rfl) dX5_rooms_63 (fun H locs hP hD hS => ?_)
    have hP : va_P (dC, dI) vwCl [(h0, .inr (5, [.ref h0_text, .ref h0_plan, .ref h0_planDraft, .ref h0_roll, .ref h0_rollDraft, .ref h0_wayFinder, .ref h0_seating, .ref h0_demand, .ref h0_told, .int toldCount_])), (h0_plan, .inr (0, [.int plan_columnCount_, .int v1, .int plan_size_, .ref h0_plan_barsOf, .ref h0_plan_subjectOf, .ref h0_plan_teacherOf, .ref h0_plan_seatsOf, .ref h0_plan_columnOf, .ref h0_plan_columnsWith])), (h0_plan_columnOf, .inl (cyI, 16, .inl plan_columnOf_))] H := hP
    have hD : va_D A [(h0, .inr (5, [.ref h0_text, .ref h0_plan, .ref h0_planDraft, .ref h0_roll, .ref h0_rollDraft, .ref h0_wayFinder, .ref h0_seating, .ref h0_demand, .ref h0_told, .int toldCount_])), (h0_plan, .inr (0, [.int plan_columnCount_, .int v1, .int plan_size_, .ref h0_plan_barsOf, .ref h0_plan_subjectOf, .ref h0_plan_teacherOf, .ref h0_plan_seatsOf, .ref h0_plan_columnOf, .ref h0_plan_columnsWith])), (h0_plan_columnOf, .inl (cyI, 16, .inl plan_columnOf_))] := hD
    refine lv_iload_n hx hb dX5_rooms_66 rfl (lv_at hl 0 rfl) ?_
    have h : some (plan_roomCount_, v1) = some (rr, o0) := h
    have z0 := Option.some.inj h
    obtain ⟨rfl, z1⟩ := Prod.mk.inj z0
    obtain rfl := z1
    exact hret _ _ _ _ hP hS rfl dX5_rooms_67
  have L15 : ∀ (n15 : Nat), ∀ (v2 : Int32), it1 (m_X5_rooms_15 plan_columnCount_ plan_roomCount_ plan_size_ plan_columnOf_ v1) n15 v2 = some (rr, o0) → ∀ (H : Heap) (locs : List Loc) (ls : Array Slot), va_P (dC, dI) vwCl [(h0, .inr (5, [.ref h0_text, .ref h0_plan, .ref h0_planDraft, .ref h0_roll, .ref h0_rollDraft, .ref h0_wayFinder, .ref h0_seating, .ref h0_demand, .ref h0_told, .int toldCount_])), (h0_plan, .inr (0, [.int plan_columnCount_, .int plan_roomCount_, .int plan_size_, .ref h0_plan_barsOf, .ref h0_plan_subjectOf, .ref h0_plan_teacherOf, .ref h0_plan_seatsOf, .ref h0_plan_columnOf, .ref h0_plan_columnsWith])), (h0_plan_columnOf, .inl (cyI, 16, .inl plan_columnOf_))] H → va_D A [(h0, .inr (5, [.ref h0_text, .ref h0_plan, .ref h0_planDraft, .ref h0_roll, .ref h0_rollDraft, .ref h0_wayFinder, .ref h0_seating, .ref h0_demand, .ref h0_told, .int toldCount_])), (h0_plan, .inr (0, [.int plan_columnCount_, .int plan_roomCount_, .int plan_size_, .ref h0_plan_barsOf, .ref h0_plan_subjectOf, .ref h0_plan_teacherOf, .ref h0_plan_seatsOf, .ref h0_plan_columnOf, .ref h0_plan_columnsWith])), (h0_plan_columnOf, .inl (cyI, 16, .inl plan_columnOf_))] → va_S A s.heap H locs → lv_has ls 3 [(0, .ref h0), (1, .int v1), (2, .int v2)] → W p l e rmX5_rooms s m args below meth c H locs 0 0 Q (F0 m 15 ls []) := by
    intro n15
    induction n15 with
    | zero => intro v2 h; exact absurd h (fun z => it1_z z)
    | succ n15 ih15 =>
      intro v2 h H locs ls hP hD hS hl
      have h : m_X5_rooms_15 plan_columnCount_ plan_roomCount_ plan_size_ plan_columnOf_ v1 (it1 (m_X5_rooms_15 plan_columnCount_ plan_roomCount_ plan_size_ plan_columnOf_ v1) n15) v2 = some (rr, o0) := h
      unfold m_X5_rooms_15 at h
      refine lv_iload_n hx hb dX5_rooms_15 rfl (lv_at hl 2 rfl) ?_
      refine lv_aload_n hx hb dX5_rooms_16 rfl (lv_at hl 0 rfl) ?_
      refine va_get (D := (dC, dI)) (ci := 5) (v := .ref h0_plan) (C := RX5) (T := TX5) (N := 10) hx hb hts hiX5 hown hK hP 0 rfl rfl 1 (by decide) (hts (.fieldLink RX5 19 "OptionLattice" "plan" "LOptionLattice$Plan;") (by decide +kernel)) (fun _ h9 => h9) rfl dX5_rooms_17 ?_
      refine va_getN (host := "OptionLattice") (D := (dC, dI)) (ci := 0) (v := .int plan_columnCount_) (C := RX0) (T := TX0) (N := 9) hx hb hts hiX0 hown hK hP 1 rfl rfl 0 (by decide) (va_Nw.use rfl (hE.1 ("OptionLattice", 158, "OptionLattice$Plan", "columnCount", "I") (List.mem_of_getElem? (i := 2) rfl))) (fun _ h9 => h9) rfl dX5_rooms_20 ?_
      refine lv_icmp_ge (tgt := 50) hx hb dX5_rooms_23 (by decide) (fun c_ => ?_) (fun c_ => ?_)
      · have h := (if_pos c_).symm.trans h
        exact J50  h _ _ _ hP hD hS (lv_sub hl [0, 1] rfl)
      · have h := (if_neg c_).symm.trans h
        refine lv_aload_n hx hb dX5_rooms_26 rfl (lv_at hl 0 rfl) ?_
        refine va_get (D := (dC, dI)) (ci := 5) (v := .ref h0_plan) (C := RX5) (T := TX5) (N := 10) hx hb hts hiX5 hown hK hP 0 rfl rfl 1 (by decide) (hts (.fieldLink RX5 19 "OptionLattice" "plan" "LOptionLattice$Plan;") (by decide +kernel)) (fun _ h9 => h9) rfl dX5_rooms_27 ?_
        refine lv_iload_n hx hb dX5_rooms_30 rfl (lv_at hl 2 rfl) ?_
        obtain ⟨r_1, hq, h⟩ := bd1_some h
        refine uV_i (b := h0_plan) (As := [.int v2]) (rest := []) ⟨hx, hb, hml, hown, hts⟩ (c_X0_sectionsIn l dC dI cyC cyI cyJ h0_plan h0_plan_barsOf h0_plan_subjectOf h0_plan_teacherOf h0_plan_seatsOf h0_plan_columnOf h0_plan_columnsWith plan_columnCount_ plan_roomCount_ plan_size_ plan_columnOf_ v2 r_1 hq) (cwV 1 hts gX5_rooms_X0_sectionsIn rfl rfl rfl (by decide +kernel) ⟨Nat.le_of_ble_eq_true rfl, Nat.le_of_ble_eq_true rfl⟩) hK hE hA hP hD hS [1, 2] rfl rfl rfl 0 0 rfl rfl rfl hl.1 rfl (Nat.le_of_ble_eq_true rfl) ⟨Nat.zero_le _, Nat.zero_le _⟩ dX5_rooms_31 (fun H locs hP hD hS => ?_)
        have hP : va_P (dC, dI) vwCl [(h0, .inr (5, [.ref h0_text, .ref h0_plan, .ref h0_planDraft, .ref h0_roll, .ref h0_rollDraft, .ref h0_wayFinder, .ref h0_seating, .ref h0_demand, .ref h0_told, .int toldCount_])), (h0_plan, .inr (0, [.int plan_columnCount_, .int plan_roomCount_, .int plan_size_, .ref h0_plan_barsOf, .ref h0_plan_subjectOf, .ref h0_plan_teacherOf, .ref h0_plan_seatsOf, .ref h0_plan_columnOf, .ref h0_plan_columnsWith])), (h0_plan_columnOf, .inl (cyI, 16, .inl plan_columnOf_))] H := hP
        have hD : va_D A [(h0, .inr (5, [.ref h0_text, .ref h0_plan, .ref h0_planDraft, .ref h0_roll, .ref h0_rollDraft, .ref h0_wayFinder, .ref h0_seating, .ref h0_demand, .ref h0_told, .int toldCount_])), (h0_plan, .inr (0, [.int plan_columnCount_, .int plan_roomCount_, .int plan_size_, .ref h0_plan_barsOf, .ref h0_plan_subjectOf, .ref h0_plan_teacherOf, .ref h0_plan_seatsOf, .ref h0_plan_columnOf, .ref h0_plan_columnsWith])), (h0_plan_columnOf, .inl (cyI, 16, .inl plan_columnOf_))] := hD
        obtain ⟨r_2, hq, h⟩ := bd1_some h
        refine uS_i (As := [.int r_1]) (rest := []) ⟨hx, hb, hml, hown, hts⟩ (c_J6_bitCount_0f7a4 l dC dI cyC cyI cyJ r_1 r_2 hq) (va_cwS 1 hts gX5_rooms_J6_bitCount_0f7a4 rfl rfl rfl (by decide +kernel) ⟨Nat.le_of_ble_eq_true rfl, Nat.le_of_ble_eq_true rfl⟩) hK hE hA hP hD hS [] rfl rfl rfl rfl hl.1 rfl (Nat.le_of_ble_eq_true rfl) ⟨Nat.zero_le _, Nat.zero_le _⟩ dX5_rooms_34 (fun H locs hP hD hS => ?_)
        have hP : va_P (dC, dI) vwCl [(h0, .inr (5, [.ref h0_text, .ref h0_plan, .ref h0_planDraft, .ref h0_roll, .ref h0_rollDraft, .ref h0_wayFinder, .ref h0_seating, .ref h0_demand, .ref h0_told, .int toldCount_])), (h0_plan, .inr (0, [.int plan_columnCount_, .int plan_roomCount_, .int plan_size_, .ref h0_plan_barsOf, .ref h0_plan_subjectOf, .ref h0_plan_teacherOf, .ref h0_plan_seatsOf, .ref h0_plan_columnOf, .ref h0_plan_columnsWith])), (h0_plan_columnOf, .inl (cyI, 16, .inl plan_columnOf_))] H := hP
        have hD : va_D A [(h0, .inr (5, [.ref h0_text, .ref h0_plan, .ref h0_planDraft, .ref h0_roll, .ref h0_rollDraft, .ref h0_wayFinder, .ref h0_seating, .ref h0_demand, .ref h0_told, .int toldCount_])), (h0_plan, .inr (0, [.int plan_columnCount_, .int plan_roomCount_, .int plan_size_, .ref h0_plan_barsOf, .ref h0_plan_subjectOf, .ref h0_plan_teacherOf, .ref h0_plan_seatsOf, .ref h0_plan_columnOf, .ref h0_plan_columnsWith])), (h0_plan_columnOf, .inl (cyI, 16, .inl plan_columnOf_))] := hD
        refine lv_iload_n hx hb dX5_rooms_37 rfl (lv_at hl 1 rfl) ?_
        refine lv_icmp_le (tgt := 44) hx hb dX5_rooms_38 (by decide) (fun c_ => ?_) (fun c_ => ?_)
        · have h := (if_pos c_).symm.trans h
          obtain ⟨v2_3, e_v2_3⟩ : ∃ z : Int32, z = (v2 + 1) := ⟨_, rfl⟩
          have h := lt_use e_v2_3 h
          refine lv_iinc (v := v2_3) (lv' := [(2, .int v2_3), (0, .ref h0), (1, .int v1)]) hx hb dX5_rooms_44 hl (k := 2) rfl (by rw [e_v2_3]; rfl) (by decide) rfl (fun ls hl => ?_)
          refine lv_goto (tgt := 15) hx hb dX5_rooms_47 (by decide) ?_
          exact ih15 v2_3 h _ _ _ hP hD hS (lv_sub hl [1, 2, 0] rfl)
        · have h := (if_neg c_).symm.trans h
          refine lv_bipush (v := (-3)) hx hb dX5_rooms_41 (by decide) ?_
          have h : some ((-3), plan_roomCount_) = some (rr, o0) := h
          have z0 := Option.some.inj h
          obtain ⟨rfl, z1⟩ := Prod.mk.inj z0
          obtain rfl := z1
          exact hret _ _ _ _ hP hS rfl dX5_rooms_43
  unfold m_X5_rooms at h
  refine lv_iload_n hx hb dX5_rooms_0 rfl (lv_at hl 1 rfl) ?_
  refine lv_iconst (v := 1) hx hb dX5_rooms_1 (by decide) ?_
  refine lv_icmp_lt (tgt := 11) hx hb dX5_rooms_2 (by decide) (fun c_ => ?_) (fun c_ => ?_)
  · have h := (if_pos c_).symm.trans h
    refine lv_iconst (v := (-1)) hx hb dX5_rooms_11 (by decide) ?_
    have h : some ((-1), plan_roomCount_) = some (rr, o0) := h
    have z0 := Option.some.inj h
    obtain ⟨rfl, z1⟩ := Prod.mk.inj z0
    obtain rfl := z1
    exact hret _ _ _ _ hP hS rfl dX5_rooms_12
  · have h := (if_neg c_).symm.trans h
    refine lv_iload_n hx hb dX5_rooms_5 rfl (lv_at hl 1 rfl) ?_
    refine lv_bipush (v := 9) hx hb dX5_rooms_6 (by decide) ?_
    refine lv_icmp_le (tgt := 13) hx hb dX5_rooms_8 (by decide) (fun c_ => ?_) (fun c_ => ?_)
    · have h := (if_pos c_).symm.trans h
      refine lv_iconst (v := 0) hx hb dX5_rooms_13 (by decide) ?_
      refine lv_istore_n (lv' := [(2, .int 0), (0, .ref h0), (1, .int v1)]) hx hb dX5_rooms_14 rfl hl (by decide) rfl (fun ls hl => ?_)
      exact L15  1100 0 h _ _ _ hP hD hS (lv_sub hl [1, 2, 0] rfl)
    · have h := (if_neg c_).symm.trans h
      refine lv_iconst (v := (-1)) hx hb dX5_rooms_11 (by decide) ?_
      have h : some ((-1), plan_roomCount_) = some (rr, o0) := h
      have z0 := Option.some.inj h
      obtain ⟨rfl, z1⟩ := Prod.mk.inj z0
      obtain rfl := z1
      exact hret _ _ _ _ hP hS rfl dX5_rooms_12

def m_X5_chooses (roll_size_ : Int32) (roll_choicesOf_ : Nat → Int32) (v1 : Int32) (v2 : Int32) (v3 : Int32) : Option (Int32 × (Nat → Int32)) :=
  bd1 (m_X1_has roll_size_ v1) (fun r_1 => (if r_1 = 0 then some ((-1), roll_choicesOf_) else bd1 (m_X5_isSubject v2) (fun r_2 => (if r_2 = 0 then some ((-1), roll_choicesOf_) else gd (inb v1 24) (lt' (roll_choicesOf_ v1.toNatClampNeg) (fun v4_3 => bd1 (m_X5_hasBit v4_3 v2) (fun r_4 => (if r_4 = v3 then some ((-2), roll_choicesOf_) else lt' (v4_3 ^^^ ((1 : Int32) <<< (v2 &&& 31))) (fun v5_5 => (if v5_5 = 0 then some ((-3), roll_choicesOf_) else bd1 (m_J6_bitCount_0f7a4 v5_5) (fun r_6 => (if r_6 ≤ 6 then gd (inb v1 24) (some (v5_5, (upd roll_choicesOf_ v1.toNatClampNeg v5_5))) else some ((-3), roll_choicesOf_)))))))))))))
abbrev rmX5_chooses : Room := { frames := 1, cells := 0, slots := 0, locals := 21 }
set_option maxHeartbeats 4000000 in
set_option maxRecDepth 100000 in
theorem c_X5_chooses (l : Launch) (dC : Nat → ClassId) (dI : Nat → Nat → Nat) (cyC cyI cyJ : ClassId) (h0 h0_text h0_plan h0_planDraft h0_roll h0_roll_choicesOf h0_rollDraft h0_wayFinder h0_seating h0_demand h0_told : Nat) (toldCount_ : Int32) (roll_size_ : Int32) (roll_kept_ : Int32) (roll_choicesOf_ : Nat → Int32) (v1 : Int32) (v2 : Int32) (v3 : Int32) (rr : Int32) (o0 : Nat → Int32) (h : m_X5_chooses roll_size_ roll_choicesOf_ v1 v2 v3 = some (rr, o0)) : uMi l yX5_chooses wsX5_chooses rmX5_chooses (dC, dI) [(cyC, .char), (cyI, .int), (cyJ, .long)] [.ref h0, .int v1, .int v2, .int v3] [(h0, .inr (5, [.ref h0_text, .ref h0_plan, .ref h0_planDraft, .ref h0_roll, .ref h0_rollDraft, .ref h0_wayFinder, .ref h0_seating, .ref h0_demand, .ref h0_told, .int toldCount_])), (h0_roll, .inr (1, [.ref h0_roll_choicesOf, .int roll_size_, .int roll_kept_])), (h0_roll_choicesOf, .inl (cyI, 24, .inl roll_choicesOf_))] [(h0, .inr (5, [.ref h0_text, .ref h0_plan, .ref h0_planDraft, .ref h0_roll, .ref h0_rollDraft, .ref h0_wayFinder, .ref h0_seating, .ref h0_demand, .ref h0_told, .int toldCount_])), (h0_roll, .inr (1, [.ref h0_roll_choicesOf, .int roll_size_, .int roll_kept_])), (h0_roll_choicesOf, .inl (cyI, 24, .inl o0))] rr := by
  refine uMi.of (cc := cX5_chooses) (maxL := 6) (by decide) rfl (Nat.le_of_ble_eq_true rfl) (fun p e s m args below meth c A ls Q hx hb hml hown hts hA hP hK hD hE hS hl hret => ?_)
  have hown : s.vm.findClass RX5 = some m.cls := hown
  have hl : lv_has ls 6 [(0, .ref h0), (1, .int v1), (2, .int v2), (3, .int v3)] := hl
  have hiX1 : ∀ w ∈ u_ws RX1 TX1 3, w ∈ wsX5_chooses := fun _ h9 => List.mem_cons_of_mem _ (List.mem_append_right _ h9)
  have hiX5 : ∀ w ∈ u_ws RX5 TX5 10, w ∈ wsX5_chooses := fun _ h9 => List.mem_cons_of_mem _ (List.mem_append_left _ (List.mem_append_right _ h9))
  unfold m_X5_chooses at h
  refine lv_aload_n hx hb dX5_chooses_0 rfl (lv_at hl 0 rfl) ?_
  refine va_get (D := (dC, dI)) (ci := 5) (v := .ref h0_roll) (C := RX5) (T := TX5) (N := 10) hx hb hts hiX5 hown hK hP 0 rfl rfl 3 (by decide) (hts (.fieldLink RX5 29 "OptionLattice" "roll" "LOptionLattice$Roll;") (by decide +kernel)) (fun _ h9 => h9) rfl dX5_chooses_1 ?_
  refine lv_iload_n hx hb dX5_chooses_4 rfl (lv_at hl 1 rfl) ?_
  obtain ⟨r_1, hq, h⟩ := bd1_some h
  refine uV_i (b := h0_roll) (As := [.int v1]) (rest := []) ⟨hx, hb, hml, hown, hts⟩ (c_X1_has l dC dI cyC cyI cyJ h0_roll h0_roll_choicesOf roll_size_ roll_kept_ v1 r_1 hq) (cwV 1 hts gX5_chooses_X1_has rfl rfl rfl (by decide +kernel) ⟨Nat.le_of_ble_eq_true rfl, Nat.le_of_ble_eq_true rfl⟩) hK hE hA hP hD hS [1] rfl rfl rfl 1 0 rfl rfl rfl hl.1 rfl (Nat.le_of_ble_eq_true rfl) ⟨Nat.zero_le _, Nat.zero_le _⟩ dX5_chooses_5 (fun H locs hP hD hS => ?_)
  have hP : va_P (dC, dI) vwCl [(h0, .inr (5, [.ref h0_text, .ref h0_plan, .ref h0_planDraft, .ref h0_roll, .ref h0_rollDraft, .ref h0_wayFinder, .ref h0_seating, .ref h0_demand, .ref h0_told, .int toldCount_])), (h0_roll, .inr (1, [.ref h0_roll_choicesOf, .int roll_size_, .int roll_kept_])), (h0_roll_choicesOf, .inl (cyI, 24, .inl roll_choicesOf_))] H := hP
  have hD : va_D A [(h0, .inr (5, [.ref h0_text, .ref h0_plan, .ref h0_planDraft, .ref h0_roll, .ref h0_rollDraft, .ref h0_wayFinder, .ref h0_seating, .ref h0_demand, .ref h0_told, .int toldCount_])), (h0_roll, .inr (1, [.ref h0_roll_choicesOf, .int roll_size_, .int roll_kept_])), (h0_roll_choicesOf, .inl (cyI, 24, .inl roll_choicesOf_))] := hD
  refine lv_if_eq (tgt := 18) hx hb dX5_chooses_8 (by decide) (fun c_ => ?_) (fun c_ => ?_)
  · have h := (if_pos c_).symm.trans h
    refine lv_iconst (v := (-1)) hx hb dX5_chooses_18 (by decide) ?_
    have h : some ((-1), roll_choicesOf_) = some (rr, o0) := h
    have z0 := Option.some.inj h
    obtain ⟨rfl, z1⟩ := Prod.mk.inj z0
    obtain rfl := z1
    exact hret _ _ _ _ hP hS rfl dX5_chooses_19
  · have h := (if_neg c_).symm.trans h
    refine lv_iload_n hx hb dX5_chooses_11 rfl (lv_at hl 2 rfl) ?_
    obtain ⟨r_2, hq, h⟩ := bd1_some h
    refine uS_i (As := [.int v2]) (rest := []) ⟨hx, hb, hml, hown, hts⟩ (c_X5_isSubject l dC dI cyC cyI cyJ v2 r_2 hq) (va_cwS 1 hts gX5_chooses_X5_isSubject rfl rfl rfl (by decide +kernel) ⟨Nat.le_of_ble_eq_true rfl, Nat.le_of_ble_eq_true rfl⟩) hK hE hA hP hD hS [] rfl rfl rfl rfl hl.1 rfl (Nat.le_of_ble_eq_true rfl) ⟨Nat.zero_le _, Nat.zero_le _⟩ dX5_chooses_12 (fun H locs hP hD hS => ?_)
    have hP : va_P (dC, dI) vwCl [(h0, .inr (5, [.ref h0_text, .ref h0_plan, .ref h0_planDraft, .ref h0_roll, .ref h0_rollDraft, .ref h0_wayFinder, .ref h0_seating, .ref h0_demand, .ref h0_told, .int toldCount_])), (h0_roll, .inr (1, [.ref h0_roll_choicesOf, .int roll_size_, .int roll_kept_])), (h0_roll_choicesOf, .inl (cyI, 24, .inl roll_choicesOf_))] H := hP
    have hD : va_D A [(h0, .inr (5, [.ref h0_text, .ref h0_plan, .ref h0_planDraft, .ref h0_roll, .ref h0_rollDraft, .ref h0_wayFinder, .ref h0_seating, .ref h0_demand, .ref h0_told, .int toldCount_])), (h0_roll, .inr (1, [.ref h0_roll_choicesOf, .int roll_size_, .int roll_kept_])), (h0_roll_choicesOf, .inl (cyI, 24, .inl roll_choicesOf_))] := hD
    refine lv_if_ne (tgt := 20) hx hb dX5_chooses_15 (by decide) (fun c_ => ?_) (fun c_ => ?_)
    · have h := (if_neg c_).symm.trans h
      refine lv_aload_n hx hb dX5_chooses_20 rfl (lv_at hl 0 rfl) ?_
      refine va_get (D := (dC, dI)) (ci := 5) (v := .ref h0_roll) (C := RX5) (T := TX5) (N := 10) hx hb hts hiX5 hown hK hP 0 rfl rfl 3 (by decide) (hts (.fieldLink RX5 29 "OptionLattice" "roll" "LOptionLattice$Roll;") (by decide +kernel)) (fun _ h9 => h9) rfl dX5_chooses_21 ?_
      refine va_getN (host := "OptionLattice") (D := (dC, dI)) (ci := 1) (v := .ref h0_roll_choicesOf) (C := RX1) (T := TX1) (N := 3) hx hb hts hiX1 hown hK hP 1 rfl rfl 0 (by decide) (va_Nw.use rfl (hE.1 ("OptionLattice", 168, "OptionLattice$Roll", "choicesOf", "[I") (List.mem_of_getElem? (i := 17) rfl))) (fun _ h9 => h9) rfl dX5_chooses_24 ?_
      refine lv_iload_n hx hb dX5_chooses_27 rfl (lv_at hl 1 rfl) ?_
      obtain ⟨g_, h⟩ := gd_some h
      refine va_iald hx hb hK hP 2 1 rfl rfl (inb_in g_) dX5_chooses_28 ?_
      refine lv_topi (fun v4_3 e_v4_3 => ?_)
      have h := lt_use e_v4_3 h
      refine lv_istore (lv' := [(4, .int v4_3), (0, .ref h0), (1, .int v1), (2, .int v2), (3, .int v3)]) hx hb dX5_chooses_29 hl (by decide) rfl (fun ls hl => ?_)
      refine lv_iload hx hb dX5_chooses_31 (lv_at hl 0 rfl) ?_
      refine lv_iload_n hx hb dX5_chooses_33 rfl (lv_at hl 3 rfl) ?_
      obtain ⟨r_4, hq, h⟩ := bd1_some h
      refine uS_i (As := [.int v4_3, .int v2]) (rest := []) ⟨hx, hb, hml, hown, hts⟩ (c_X5_hasBit l dC dI cyC cyI cyJ v4_3 v2 r_4 hq) (va_cwS 2 hts gX5_chooses_X5_hasBit rfl rfl rfl (by decide +kernel) ⟨Nat.le_of_ble_eq_true rfl, Nat.le_of_ble_eq_true rfl⟩) hK hE hA hP hD hS [] rfl rfl rfl rfl hl.1 rfl (Nat.le_of_ble_eq_true rfl) ⟨Nat.zero_le _, Nat.zero_le _⟩ dX5_chooses_34 (fun H locs hP hD hS => ?_)
      have hP : va_P (dC, dI) vwCl [(h0, .inr (5, [.ref h0_text, .ref h0_plan, .ref h0_planDraft, .ref h0_roll, .ref h0_rollDraft, .ref h0_wayFinder, .ref h0_seating, .ref h0_demand, .ref h0_told, .int toldCount_])), (h0_roll, .inr (1, [.ref h0_roll_choicesOf, .int roll_size_, .int roll_kept_])), (h0_roll_choicesOf, .inl (cyI, 24, .inl roll_choicesOf_))] H := hP
      have hD : va_D A [(h0, .inr (5, [.ref h0_text, .ref h0_plan, .ref h0_planDraft, .ref h0_roll, .ref h0_rollDraft, .ref h0_wayFinder, .ref h0_seating, .ref h0_demand, .ref h0_told, .int toldCount_])), (h0_roll, .inr (1, [.ref h0_roll_choicesOf, .int roll_size_, .int roll_kept_])), (h0_roll_choicesOf, .inl (cyI, 24, .inl roll_choicesOf_))] := hD
      refine lv_iload_n hx hb dX5_chooses_37 rfl (lv_at hl 4 rfl) ?_
      refine lv_icmp_ne (tgt := 44) hx hb dX5_chooses_38 (by decide) (fun c_ => ?_) (fun c_ => ?_)
      · have h := (if_neg c_).symm.trans h
        refine lv_iload hx hb dX5_chooses_44 (lv_at hl 0 rfl) ?_
        refine lv_iconst (v := 1) hx hb dX5_chooses_46 (by decide) ?_
        refine lv_iload_n hx hb dX5_chooses_47 rfl (lv_at hl 3 rfl) ?_
        refine lv_ishl hx hb dX5_chooses_48 ?_
        refine lv_ixor hx hb dX5_chooses_49 ?_
        refine lv_topi (fun v5_5 e_v5_5 => ?_)
        have h := lt_use e_v5_5 h
        refine lv_istore (lv' := [(5, .int v5_5), (4, .int v4_3), (0, .ref h0), (1, .int v1), (2, .int v2), (3, .int v3)]) hx hb dX5_chooses_50 hl (by decide) rfl (fun ls hl => ?_)
        refine lv_iload hx hb dX5_chooses_52 (lv_at hl 0 rfl) ?_
        refine lv_if_eq (tgt := 67) hx hb dX5_chooses_54 (by decide) (fun c_ => ?_) (fun c_ => ?_)
        · have h := (if_pos c_).symm.trans h
          refine lv_bipush (v := (-3)) hx hb dX5_chooses_67 (by decide) ?_
          have h : some ((-3), roll_choicesOf_) = some (rr, o0) := h
          have z0 := Option.some.inj h
          obtain ⟨rfl, z1⟩ := Prod.mk.inj z0
          obtain rfl := z1
          exact hret _ _ _ _ hP hS rfl dX5_chooses_69
        · have h := (if_neg c_).symm.trans h
          refine lv_iload hx hb dX5_chooses_57 (lv_at hl 0 rfl) ?_
          obtain ⟨r_6, hq, h⟩ := bd1_some h
          refine uS_i (As := [.int v5_5]) (rest := []) ⟨hx, hb, hml, hown, hts⟩ (c_J6_bitCount_0f7a4 l dC dI cyC cyI cyJ v5_5 r_6 hq) (va_cwS 1 hts gX5_chooses_J6_bitCount_0f7a4 rfl rfl rfl (by decide +kernel) ⟨Nat.le_of_ble_eq_true rfl, Nat.le_of_ble_eq_true rfl⟩) hK hE hA hP hD hS [] rfl rfl rfl rfl hl.1 rfl (Nat.le_of_ble_eq_true rfl) ⟨Nat.zero_le _, Nat.zero_le _⟩ dX5_chooses_59 (fun H locs hP hD hS => ?_)
          have hP : va_P (dC, dI) vwCl [(h0, .inr (5, [.ref h0_text, .ref h0_plan, .ref h0_planDraft, .ref h0_roll, .ref h0_rollDraft, .ref h0_wayFinder, .ref h0_seating, .ref h0_demand, .ref h0_told, .int toldCount_])), (h0_roll, .inr (1, [.ref h0_roll_choicesOf, .int roll_size_, .int roll_kept_])), (h0_roll_choicesOf, .inl (cyI, 24, .inl roll_choicesOf_))] H := hP
          have hD : va_D A [(h0, .inr (5, [.ref h0_text, .ref h0_plan, .ref h0_planDraft, .ref h0_roll, .ref h0_rollDraft, .ref h0_wayFinder, .ref h0_seating, .ref h0_demand, .ref h0_told, .int toldCount_])), (h0_roll, .inr (1, [.ref h0_roll_choicesOf, .int roll_size_, .int roll_kept_])), (h0_roll_choicesOf, .inl (cyI, 24, .inl roll_choicesOf_))] := hD
          refine lv_bipush (v := 6) hx hb dX5_chooses_62 (by decide) ?_
          refine lv_icmp_le (tgt := 70) hx hb dX5_chooses_64 (by decide) (fun c_ => ?_) (fun c_ => ?_)
          · have h := (if_pos c_).symm.trans h
            refine lv_aload_n hx hb dX5_chooses_70 rfl (lv_at hl 2 rfl) ?_
            refine va_get (D := (dC, dI)) (ci := 5) (v := .ref h0_roll) (C := RX5) (T := TX5) (N := 10) hx hb hts hiX5 hown hK hP 0 rfl rfl 3 (by decide) (hts (.fieldLink RX5 29 "OptionLattice" "roll" "LOptionLattice$Roll;") (by decide +kernel)) (fun _ h9 => h9) rfl dX5_chooses_71 ?_
            refine va_getN (host := "OptionLattice") (D := (dC, dI)) (ci := 1) (v := .ref h0_roll_choicesOf) (C := RX1) (T := TX1) (N := 3) hx hb hts hiX1 hown hK hP 1 rfl rfl 0 (by decide) (va_Nw.use rfl (hE.1 ("OptionLattice", 168, "OptionLattice$Roll", "choicesOf", "[I") (List.mem_of_getElem? (i := 17) rfl))) (fun _ h9 => h9) rfl dX5_chooses_74 ?_
            refine lv_iload_n hx hb dX5_chooses_77 rfl (lv_at hl 3 rfl) ?_
            refine lv_iload hx hb dX5_chooses_78 (lv_at hl 0 rfl) ?_
            obtain ⟨g_, h⟩ := gd_some h
            refine va_iast hx hb hK hP hD hS 2 1 rfl rfl (inb_in g_) dX5_chooses_80 (fun H locs hP hD hS => ?_)
            have hP : va_P (dC, dI) vwCl [(h0, .inr (5, [.ref h0_text, .ref h0_plan, .ref h0_planDraft, .ref h0_roll, .ref h0_rollDraft, .ref h0_wayFinder, .ref h0_seating, .ref h0_demand, .ref h0_told, .int toldCount_])), (h0_roll, .inr (1, [.ref h0_roll_choicesOf, .int roll_size_, .int roll_kept_])), (h0_roll_choicesOf, .inl (cyI, 24, .inl (upd roll_choicesOf_ v1.toNatClampNeg v5_5)))] H := hP
            have hD : va_D A [(h0, .inr (5, [.ref h0_text, .ref h0_plan, .ref h0_planDraft, .ref h0_roll, .ref h0_rollDraft, .ref h0_wayFinder, .ref h0_seating, .ref h0_demand, .ref h0_told, .int toldCount_])), (h0_roll, .inr (1, [.ref h0_roll_choicesOf, .int roll_size_, .int roll_kept_])), (h0_roll_choicesOf, .inl (cyI, 24, .inl (upd roll_choicesOf_ v1.toNatClampNeg v5_5)))] := hD
            refine lv_iload hx hb dX5_chooses_81 (lv_at hl 0 rfl) ?_
            have h : some (v5_5, (upd roll_choicesOf_ v1.toNatClampNeg v5_5)) = some (rr, o0) := h
            have z0 := Option.some.inj h
            obtain ⟨rfl, z1⟩ := Prod.mk.inj z0
            obtain rfl := z1
            exact hret _ _ _ _ hP hS rfl dX5_chooses_83
          · have h := (if_neg c_).symm.trans h
            refine lv_bipush (v := (-3)) hx hb dX5_chooses_67 (by decide) ?_
            have h : some ((-3), roll_choicesOf_) = some (rr, o0) := h
            have z0 := Option.some.inj h
            obtain ⟨rfl, z1⟩ := Prod.mk.inj z0
            obtain rfl := z1
            exact hret _ _ _ _ hP hS rfl dX5_chooses_69
      · have h := (if_pos c_).symm.trans h
        refine lv_bipush (v := (-2)) hx hb dX5_chooses_41 (by decide) ?_
        have h : some ((-2), roll_choicesOf_) = some (rr, o0) := h
        have z0 := Option.some.inj h
        obtain ⟨rfl, z1⟩ := Prod.mk.inj z0
        obtain rfl := z1
        exact hret _ _ _ _ hP hS rfl dX5_chooses_43
    · have h := (if_pos c_).symm.trans h
      refine lv_iconst (v := (-1)) hx hb dX5_chooses_18 (by decide) ?_
      have h : some ((-1), roll_choicesOf_) = some (rr, o0) := h
      have z0 := Option.some.inj h
      obtain ⟨rfl, z1⟩ := Prod.mk.inj z0
      obtain rfl := z1
      exact hret _ _ _ _ hP hS rfl dX5_chooses_19

def m_X5_keeps (roll_size_ : Int32) (roll_kept_ : Int32) (v1 : Int32) (v2 : Int32) : Option (Int32 × Int32) :=
  bd1 (m_X1_has roll_size_ v1) (fun r_1 => (if r_1 = 0 then some ((-1), roll_kept_) else bd1 (m_X5_hasBit roll_kept_ v1) (fun r_2 => (if r_2 = v2 then some ((-2), roll_kept_) else lt' (roll_kept_ ^^^ ((1 : Int32) <<< (v1 &&& 31))) (fun w_3 => bd1 (m_J6_bitCount_0f7a4 w_3) (fun r_4 => some (r_4, w_3)))))))
abbrev rmX5_keeps : Room := { frames := 1, cells := 0, slots := 0, locals := 21 }
set_option maxHeartbeats 4000000 in
set_option maxRecDepth 100000 in
theorem c_X5_keeps (l : Launch) (dC : Nat → ClassId) (dI : Nat → Nat → Nat) (cyC cyI cyJ : ClassId) (h0 h0_text h0_plan h0_planDraft h0_roll h0_roll_choicesOf h0_rollDraft h0_wayFinder h0_seating h0_demand h0_told : Nat) (toldCount_ : Int32) (roll_size_ : Int32) (roll_kept_ : Int32) (v1 : Int32) (v2 : Int32) (rr : Int32) (o0 : Int32) (h : m_X5_keeps roll_size_ roll_kept_ v1 v2 = some (rr, o0)) : uMi l yX5_keeps wsX5_keeps rmX5_keeps (dC, dI) [(cyC, .char), (cyI, .int), (cyJ, .long)] [.ref h0, .int v1, .int v2] [(h0, .inr (5, [.ref h0_text, .ref h0_plan, .ref h0_planDraft, .ref h0_roll, .ref h0_rollDraft, .ref h0_wayFinder, .ref h0_seating, .ref h0_demand, .ref h0_told, .int toldCount_])), (h0_roll, .inr (1, [.ref h0_roll_choicesOf, .int roll_size_, .int roll_kept_]))] [(h0, .inr (5, [.ref h0_text, .ref h0_plan, .ref h0_planDraft, .ref h0_roll, .ref h0_rollDraft, .ref h0_wayFinder, .ref h0_seating, .ref h0_demand, .ref h0_told, .int toldCount_])), (h0_roll, .inr (1, [.ref h0_roll_choicesOf, .int roll_size_, .int o0]))] rr := by
  refine uMi.of (cc := cX5_keeps) (maxL := 3) (by decide) rfl (Nat.le_of_ble_eq_true rfl) (fun p e s m args below meth c A ls Q hx hb hml hown hts hA hP hK hD hE hS hl hret => ?_)
  have hown : s.vm.findClass RX5 = some m.cls := hown
  have hl : lv_has ls 3 [(0, .ref h0), (1, .int v1), (2, .int v2)] := hl
  have hiX1 : ∀ w ∈ u_ws RX1 TX1 3, w ∈ wsX5_keeps := fun _ h9 => List.mem_cons_of_mem _ (List.mem_append_right _ h9)
  have hiX5 : ∀ w ∈ u_ws RX5 TX5 10, w ∈ wsX5_keeps := fun _ h9 => List.mem_cons_of_mem _ (List.mem_append_left _ (List.mem_append_right _ h9))
  unfold m_X5_keeps at h
  refine lv_aload_n hx hb dX5_keeps_0 rfl (lv_at hl 0 rfl) ?_
  refine va_get (D := (dC, dI)) (ci := 5) (v := .ref h0_roll) (C := RX5) (T := TX5) (N := 10) hx hb hts hiX5 hown hK hP 0 rfl rfl 3 (by decide) (hts (.fieldLink RX5 29 "OptionLattice" "roll" "LOptionLattice$Roll;") (by decide +kernel)) (fun _ h9 => h9) rfl dX5_keeps_1 ?_
  refine lv_iload_n hx hb dX5_keeps_4 rfl (lv_at hl 1 rfl) ?_
  obtain ⟨r_1, hq, h⟩ := bd1_some h
  refine uV_i (b := h0_roll) (As := [.int v1]) (rest := []) ⟨hx, hb, hml, hown, hts⟩ (c_X1_has l dC dI cyC cyI cyJ h0_roll h0_roll_choicesOf roll_size_ roll_kept_ v1 r_1 hq) (cwV 1 hts gX5_keeps_X1_has rfl rfl rfl (by decide +kernel) ⟨Nat.le_of_ble_eq_true rfl, Nat.le_of_ble_eq_true rfl⟩) hK hE hA hP hD hS [1] rfl rfl rfl 1 0 rfl rfl rfl hl.1 rfl (Nat.le_of_ble_eq_true rfl) ⟨Nat.zero_le _, Nat.zero_le _⟩ dX5_keeps_5 (fun H locs hP hD hS => ?_)
  have hP : va_P (dC, dI) vwCl [(h0, .inr (5, [.ref h0_text, .ref h0_plan, .ref h0_planDraft, .ref h0_roll, .ref h0_rollDraft, .ref h0_wayFinder, .ref h0_seating, .ref h0_demand, .ref h0_told, .int toldCount_])), (h0_roll, .inr (1, [.ref h0_roll_choicesOf, .int roll_size_, .int roll_kept_]))] H := hP
  have hD : va_D A [(h0, .inr (5, [.ref h0_text, .ref h0_plan, .ref h0_planDraft, .ref h0_roll, .ref h0_rollDraft, .ref h0_wayFinder, .ref h0_seating, .ref h0_demand, .ref h0_told, .int toldCount_])), (h0_roll, .inr (1, [.ref h0_roll_choicesOf, .int roll_size_, .int roll_kept_]))] := hD
  refine lv_if_ne (tgt := 13) hx hb dX5_keeps_8 (by decide) (fun c_ => ?_) (fun c_ => ?_)
  · have h := (if_neg c_).symm.trans h
    refine lv_aload_n hx hb dX5_keeps_13 rfl (lv_at hl 0 rfl) ?_
    refine va_get (D := (dC, dI)) (ci := 5) (v := .ref h0_roll) (C := RX5) (T := TX5) (N := 10) hx hb hts hiX5 hown hK hP 0 rfl rfl 3 (by decide) (hts (.fieldLink RX5 29 "OptionLattice" "roll" "LOptionLattice$Roll;") (by decide +kernel)) (fun _ h9 => h9) rfl dX5_keeps_14 ?_
    refine va_getN (host := "OptionLattice") (D := (dC, dI)) (ci := 1) (v := .int roll_kept_) (C := RX1) (T := TX1) (N := 3) hx hb hts hiX1 hown hK hP 1 rfl rfl 2 (by decide) (va_Nw.use rfl (hE.1 ("OptionLattice", 171, "OptionLattice$Roll", "kept", "I") (List.mem_of_getElem? (i := 20) rfl))) (fun _ h9 => h9) rfl dX5_keeps_17 ?_
    refine lv_iload_n hx hb dX5_keeps_20 rfl (lv_at hl 1 rfl) ?_
    obtain ⟨r_2, hq, h⟩ := bd1_some h
    refine uS_i (As := [.int roll_kept_, .int v1]) (rest := []) ⟨hx, hb, hml, hown, hts⟩ (c_X5_hasBit l dC dI cyC cyI cyJ roll_kept_ v1 r_2 hq) (va_cwS 2 hts gX5_keeps_X5_hasBit rfl rfl rfl (by decide +kernel) ⟨Nat.le_of_ble_eq_true rfl, Nat.le_of_ble_eq_true rfl⟩) hK hE hA hP hD hS [] rfl rfl rfl rfl hl.1 rfl (Nat.le_of_ble_eq_true rfl) ⟨Nat.zero_le _, Nat.zero_le _⟩ dX5_keeps_21 (fun H locs hP hD hS => ?_)
    have hP : va_P (dC, dI) vwCl [(h0, .inr (5, [.ref h0_text, .ref h0_plan, .ref h0_planDraft, .ref h0_roll, .ref h0_rollDraft, .ref h0_wayFinder, .ref h0_seating, .ref h0_demand, .ref h0_told, .int toldCount_])), (h0_roll, .inr (1, [.ref h0_roll_choicesOf, .int roll_size_, .int roll_kept_]))] H := hP
    have hD : va_D A [(h0, .inr (5, [.ref h0_text, .ref h0_plan, .ref h0_planDraft, .ref h0_roll, .ref h0_rollDraft, .ref h0_wayFinder, .ref h0_seating, .ref h0_demand, .ref h0_told, .int toldCount_])), (h0_roll, .inr (1, [.ref h0_roll_choicesOf, .int roll_size_, .int roll_kept_]))] := hD
    refine lv_iload_n hx hb dX5_keeps_24 rfl (lv_at hl 2 rfl) ?_
    refine lv_icmp_ne (tgt := 31) hx hb dX5_keeps_25 (by decide) (fun c_ => ?_) (fun c_ => ?_)
    · have h := (if_neg c_).symm.trans h
      refine lv_aload_n hx hb dX5_keeps_31 rfl (lv_at hl 0 rfl) ?_
      refine va_get (D := (dC, dI)) (ci := 5) (v := .ref h0_roll) (C := RX5) (T := TX5) (N := 10) hx hb hts hiX5 hown hK hP 0 rfl rfl 3 (by decide) (hts (.fieldLink RX5 29 "OptionLattice" "roll" "LOptionLattice$Roll;") (by decide +kernel)) (fun _ h9 => h9) rfl dX5_keeps_32 ?_
      refine lv_dup hx hb dX5_keeps_35 rfl ?_
      refine va_getN (host := "OptionLattice") (D := (dC, dI)) (ci := 1) (v := .int roll_kept_) (C := RX1) (T := TX1) (N := 3) hx hb hts hiX1 hown hK hP 1 rfl rfl 2 (by decide) (va_Nw.use rfl (hE.1 ("OptionLattice", 171, "OptionLattice$Roll", "kept", "I") (List.mem_of_getElem? (i := 20) rfl))) (fun _ h9 => h9) rfl dX5_keeps_36 ?_
      refine lv_iconst (v := 1) hx hb dX5_keeps_39 (by decide) ?_
      refine lv_iload_n hx hb dX5_keeps_40 rfl (lv_at hl 1 rfl) ?_
      refine lv_ishl hx hb dX5_keeps_41 ?_
      refine lv_ixor hx hb dX5_keeps_42 ?_
      refine lv_topi (fun w_3 e_w_3 => ?_)
      have h := lt_use e_w_3 h
      refine va_putN (host := "OptionLattice") (D := (dC, dI)) (ci := 1) (v := .int w_3) (ty := .int) (C := RX1) (T := TX1) (N := 3) hx hb hts hiX1 tyX1 tyX1_ok nmX1 hown hK hP hD hS 1 rfl rfl 2 (by decide) (va_Nw.use rfl (hE.1 ("OptionLattice", 171, "OptionLattice$Roll", "kept", "I") (List.mem_of_getElem? (i := 20) rfl))) (fun _ h9 => h9) rfl (by decide +kernel) rfl rfl (Nat.le_of_ble_eq_true rfl) dX5_keeps_43 (fun H locs hP hD hS => ?_)
      have hP : va_P (dC, dI) vwCl [(h0, .inr (5, [.ref h0_text, .ref h0_plan, .ref h0_planDraft, .ref h0_roll, .ref h0_rollDraft, .ref h0_wayFinder, .ref h0_seating, .ref h0_demand, .ref h0_told, .int toldCount_])), (h0_roll, .inr (1, [.ref h0_roll_choicesOf, .int roll_size_, .int w_3]))] H := hP
      have hD : va_D A [(h0, .inr (5, [.ref h0_text, .ref h0_plan, .ref h0_planDraft, .ref h0_roll, .ref h0_rollDraft, .ref h0_wayFinder, .ref h0_seating, .ref h0_demand, .ref h0_told, .int toldCount_])), (h0_roll, .inr (1, [.ref h0_roll_choicesOf, .int roll_size_, .int w_3]))] := hD
      refine lv_aload_n hx hb dX5_keeps_46 rfl (lv_at hl 0 rfl) ?_
      refine va_get (D := (dC, dI)) (ci := 5) (v := .ref h0_roll) (C := RX5) (T := TX5) (N := 10) hx hb hts hiX5 hown hK hP 0 rfl rfl 3 (by decide) (hts (.fieldLink RX5 29 "OptionLattice" "roll" "LOptionLattice$Roll;") (by decide +kernel)) (fun _ h9 => h9) rfl dX5_keeps_47 ?_
      refine va_getN (host := "OptionLattice") (D := (dC, dI)) (ci := 1) (v := .int w_3) (C := RX1) (T := TX1) (N := 3) hx hb hts hiX1 hown hK hP 1 rfl rfl 2 (by decide) (va_Nw.use rfl (hE.1 ("OptionLattice", 171, "OptionLattice$Roll", "kept", "I") (List.mem_of_getElem? (i := 20) rfl))) (fun _ h9 => h9) rfl dX5_keeps_50 ?_
      obtain ⟨r_4, hq, h⟩ := bd1_some h
      refine uS_i (As := [.int w_3]) (rest := []) ⟨hx, hb, hml, hown, hts⟩ (c_J6_bitCount_0f7a4 l dC dI cyC cyI cyJ w_3 r_4 hq) (va_cwS 1 hts gX5_keeps_J6_bitCount_0f7a4 rfl rfl rfl (by decide +kernel) ⟨Nat.le_of_ble_eq_true rfl, Nat.le_of_ble_eq_true rfl⟩) hK hE hA hP hD hS [] rfl rfl rfl rfl hl.1 rfl (Nat.le_of_ble_eq_true rfl) ⟨Nat.zero_le _, Nat.zero_le _⟩ dX5_keeps_53 (fun H locs hP hD hS => ?_)
      have hP : va_P (dC, dI) vwCl [(h0, .inr (5, [.ref h0_text, .ref h0_plan, .ref h0_planDraft, .ref h0_roll, .ref h0_rollDraft, .ref h0_wayFinder, .ref h0_seating, .ref h0_demand, .ref h0_told, .int toldCount_])), (h0_roll, .inr (1, [.ref h0_roll_choicesOf, .int roll_size_, .int w_3]))] H := hP
      have hD : va_D A [(h0, .inr (5, [.ref h0_text, .ref h0_plan, .ref h0_planDraft, .ref h0_roll, .ref h0_rollDraft, .ref h0_wayFinder, .ref h0_seating, .ref h0_demand, .ref h0_told, .int toldCount_])), (h0_roll, .inr (1, [.ref h0_roll_choicesOf, .int roll_size_, .int w_3]))] := hD
      have h : some (r_4, w_3) = some (rr, o0) := h
      have z0 := Option.some.inj h
      obtain ⟨rfl, z1⟩ := Prod.mk.inj z0
      obtain rfl := z1
      exact hret _ _ _ _ hP hS rfl dX5_keeps_56
    · have h := (if_pos c_).symm.trans h
      refine lv_bipush (v := (-2)) hx hb dX5_keeps_28 (by decide) ?_
      have h : some ((-2), roll_kept_) = some (rr, o0) := h
      have z0 := Option.some.inj h
      obtain ⟨rfl, z1⟩ := Prod.mk.inj z0
      obtain rfl := z1
      exact hret _ _ _ _ hP hS rfl dX5_keeps_30
  · have h := (if_pos c_).symm.trans h
    refine lv_iconst (v := (-1)) hx hb dX5_keeps_11 (by decide) ?_
    have h : some ((-1), roll_kept_) = some (rr, o0) := h
    have z0 := Option.some.inj h
    obtain ⟨rfl, z1⟩ := Prod.mk.inj z0
    obtain rfl := z1
    exact hret _ _ _ _ hP hS rfl dX5_keeps_12

def m_X5_section (plan_size_ : Int32) (plan_subjectOf_ : Nat → Int32) (plan_teacherOf_ : Nat → Int32) (plan_seatsOf_ : Nat → Int32) (plan_columnOf_ : Nat → Int32) (v1 : Int32) (v2 : Int32) : Option (Int32) :=
  bd1 (m_X0_has plan_size_ v1) (fun r_1 => (if r_1 = 0 then some (-1) else (if v2 = 0 then gd (inb v1 16) (some (plan_subjectOf_ v1.toNatClampNeg)) else (if v2 = 1 then gd (inb v1 16) (some (plan_teacherOf_ v1.toNatClampNeg)) else (if v2 = 2 then gd (inb v1 16) (some (plan_seatsOf_ v1.toNatClampNeg)) else (if v2 = 3 then gd (inb v1 16) ((if (plan_columnOf_ v1.toNatClampNeg) = (-1) then some (-2) else gd (inb v1 16) (some (plan_columnOf_ v1.toNatClampNeg)))) else some (-1)))))))
abbrev rmX5_section : Room := { frames := 1, cells := 0, slots := 0, locals := 21 }
set_option maxHeartbeats 4000000 in
set_option maxRecDepth 100000 in
theorem c_X5_section (l : Launch) (dC : Nat → ClassId) (dI : Nat → Nat → Nat) (cyC cyI cyJ : ClassId) (h0 h0_text h0_plan h0_plan_barsOf h0_plan_subjectOf h0_plan_teacherOf h0_plan_seatsOf h0_plan_columnOf h0_plan_columnsWith h0_planDraft h0_roll h0_rollDraft h0_wayFinder h0_seating h0_demand h0_told : Nat) (toldCount_ : Int32) (plan_columnCount_ : Int32) (plan_roomCount_ : Int32) (plan_size_ : Int32) (plan_subjectOf_ : Nat → Int32) (plan_teacherOf_ : Nat → Int32) (plan_seatsOf_ : Nat → Int32) (plan_columnOf_ : Nat → Int32) (v1 : Int32) (v2 : Int32) (rr : Int32) (h : m_X5_section plan_size_ plan_subjectOf_ plan_teacherOf_ plan_seatsOf_ plan_columnOf_ v1 v2 = some rr) : uMi l yX5_section wsX5_section rmX5_section (dC, dI) [(cyC, .char), (cyI, .int), (cyJ, .long)] [.ref h0, .int v1, .int v2] [(h0, .inr (5, [.ref h0_text, .ref h0_plan, .ref h0_planDraft, .ref h0_roll, .ref h0_rollDraft, .ref h0_wayFinder, .ref h0_seating, .ref h0_demand, .ref h0_told, .int toldCount_])), (h0_plan, .inr (0, [.int plan_columnCount_, .int plan_roomCount_, .int plan_size_, .ref h0_plan_barsOf, .ref h0_plan_subjectOf, .ref h0_plan_teacherOf, .ref h0_plan_seatsOf, .ref h0_plan_columnOf, .ref h0_plan_columnsWith])), (h0_plan_subjectOf, .inl (cyI, 16, .inl plan_subjectOf_)), (h0_plan_teacherOf, .inl (cyI, 16, .inl plan_teacherOf_)), (h0_plan_seatsOf, .inl (cyI, 16, .inl plan_seatsOf_)), (h0_plan_columnOf, .inl (cyI, 16, .inl plan_columnOf_))] [(h0, .inr (5, [.ref h0_text, .ref h0_plan, .ref h0_planDraft, .ref h0_roll, .ref h0_rollDraft, .ref h0_wayFinder, .ref h0_seating, .ref h0_demand, .ref h0_told, .int toldCount_])), (h0_plan, .inr (0, [.int plan_columnCount_, .int plan_roomCount_, .int plan_size_, .ref h0_plan_barsOf, .ref h0_plan_subjectOf, .ref h0_plan_teacherOf, .ref h0_plan_seatsOf, .ref h0_plan_columnOf, .ref h0_plan_columnsWith])), (h0_plan_subjectOf, .inl (cyI, 16, .inl plan_subjectOf_)), (h0_plan_teacherOf, .inl (cyI, 16, .inl plan_teacherOf_)), (h0_plan_seatsOf, .inl (cyI, 16, .inl plan_seatsOf_)), (h0_plan_columnOf, .inl (cyI, 16, .inl plan_columnOf_))] rr := by
  refine uMi.of (cc := cX5_section) (maxL := 3) (by decide) rfl (Nat.le_of_ble_eq_true rfl) (fun p e s m args below meth c A ls Q hx hb hml hown hts hA hP hK hD hE hS hl hret => ?_)
  have hown : s.vm.findClass RX5 = some m.cls := hown
  have hl : lv_has ls 3 [(0, .ref h0), (1, .int v1), (2, .int v2)] := hl
  have hiX0 : ∀ w ∈ u_ws RX0 TX0 9, w ∈ wsX5_section := fun _ h9 => List.mem_cons_of_mem _ (List.mem_append_right _ h9)
  have hiX5 : ∀ w ∈ u_ws RX5 TX5 10, w ∈ wsX5_section := fun _ h9 => List.mem_cons_of_mem _ (List.mem_append_left _ (List.mem_append_right _ h9))
  unfold m_X5_section at h
  refine lv_aload_n hx hb dX5_section_0 rfl (lv_at hl 0 rfl) ?_
  refine va_get (D := (dC, dI)) (ci := 5) (v := .ref h0_plan) (C := RX5) (T := TX5) (N := 10) hx hb hts hiX5 hown hK hP 0 rfl rfl 1 (by decide) (hts (.fieldLink RX5 19 "OptionLattice" "plan" "LOptionLattice$Plan;") (by decide +kernel)) (fun _ h9 => h9) rfl dX5_section_1 ?_
  refine lv_iload_n hx hb dX5_section_4 rfl (lv_at hl 1 rfl) ?_
  obtain ⟨r_1, hq, h⟩ := bd1_some h
  refine uV_i (b := h0_plan) (As := [.int v1]) (rest := []) ⟨hx, hb, hml, hown, hts⟩ (c_X0_has l dC dI cyC cyI cyJ h0_plan h0_plan_barsOf h0_plan_subjectOf h0_plan_teacherOf h0_plan_seatsOf h0_plan_columnOf h0_plan_columnsWith plan_columnCount_ plan_roomCount_ plan_size_ v1 r_1 hq) (cwV 1 hts gX5_section_X0_has rfl rfl rfl (by decide +kernel) ⟨Nat.le_of_ble_eq_true rfl, Nat.le_of_ble_eq_true rfl⟩) hK hE hA hP hD hS [1] rfl rfl rfl 0 0 rfl rfl rfl hl.1 rfl (Nat.le_of_ble_eq_true rfl) ⟨Nat.zero_le _, Nat.zero_le _⟩ dX5_section_5 (fun H locs hP hD hS => ?_)
  have hP : va_P (dC, dI) vwCl [(h0, .inr (5, [.ref h0_text, .ref h0_plan, .ref h0_planDraft, .ref h0_roll, .ref h0_rollDraft, .ref h0_wayFinder, .ref h0_seating, .ref h0_demand, .ref h0_told, .int toldCount_])), (h0_plan, .inr (0, [.int plan_columnCount_, .int plan_roomCount_, .int plan_size_, .ref h0_plan_barsOf, .ref h0_plan_subjectOf, .ref h0_plan_teacherOf, .ref h0_plan_seatsOf, .ref h0_plan_columnOf, .ref h0_plan_columnsWith])), (h0_plan_subjectOf, .inl (cyI, 16, .inl plan_subjectOf_)), (h0_plan_teacherOf, .inl (cyI, 16, .inl plan_teacherOf_)), (h0_plan_seatsOf, .inl (cyI, 16, .inl plan_seatsOf_)), (h0_plan_columnOf, .inl (cyI, 16, .inl plan_columnOf_))] H := hP
  have hD : va_D A [(h0, .inr (5, [.ref h0_text, .ref h0_plan, .ref h0_planDraft, .ref h0_roll, .ref h0_rollDraft, .ref h0_wayFinder, .ref h0_seating, .ref h0_demand, .ref h0_told, .int toldCount_])), (h0_plan, .inr (0, [.int plan_columnCount_, .int plan_roomCount_, .int plan_size_, .ref h0_plan_barsOf, .ref h0_plan_subjectOf, .ref h0_plan_teacherOf, .ref h0_plan_seatsOf, .ref h0_plan_columnOf, .ref h0_plan_columnsWith])), (h0_plan_subjectOf, .inl (cyI, 16, .inl plan_subjectOf_)), (h0_plan_teacherOf, .inl (cyI, 16, .inl plan_teacherOf_)), (h0_plan_seatsOf, .inl (cyI, 16, .inl plan_seatsOf_)), (h0_plan_columnOf, .inl (cyI, 16, .inl plan_columnOf_))] := hD
  refine lv_if_ne (tgt := 13) hx hb dX5_section_8 (by decide) (fun c_ => ?_) (fun c_ => ?_)
  · have h := (if_neg c_).symm.trans h
    refine lv_iload_n hx hb dX5_section_13 rfl (lv_at hl 2 rfl) ?_
    by_cases c_0 : v2 = 0
    · have h := (if_pos c_0).symm.trans h
      refine lv_tableIn (tgt := 44) hx hb dX5_section_14 (by rw [c_0]; decide) (by rw [c_0]; decide) (by rw [c_0]; rfl) (by decide) ?_
      refine lv_aload_n hx hb dX5_section_44 rfl (lv_at hl 0 rfl) ?_
      refine va_get (D := (dC, dI)) (ci := 5) (v := .ref h0_plan) (C := RX5) (T := TX5) (N := 10) hx hb hts hiX5 hown hK hP 0 rfl rfl 1 (by decide) (hts (.fieldLink RX5 19 "OptionLattice" "plan" "LOptionLattice$Plan;") (by decide +kernel)) (fun _ h9 => h9) rfl dX5_section_45 ?_
      refine va_getN (host := "OptionLattice") (D := (dC, dI)) (ci := 0) (v := .ref h0_plan_subjectOf) (C := RX0) (T := TX0) (N := 9) hx hb hts hiX0 hown hK hP 1 rfl rfl 4 (by decide) (va_Nw.use rfl (hE.1 ("OptionLattice", 174, "OptionLattice$Plan", "subjectOf", "[I") (List.mem_of_getElem? (i := 8) rfl))) (fun _ h9 => h9) rfl dX5_section_48 ?_
      refine lv_iload_n hx hb dX5_section_51 rfl (lv_at hl 1 rfl) ?_
      obtain ⟨g_, h⟩ := gd_some h
      refine va_iald hx hb hK hP 2 1 rfl rfl (inb_in g_) dX5_section_52 ?_
      have h : some (plan_subjectOf_ v1.toNatClampNeg) = some rr := h
      have z0 := Option.some.inj h
      obtain rfl := z0
      exact hret _ _ _ _ hP hS rfl dX5_section_53
    have h := (if_neg c_0).symm.trans h
    by_cases c_1 : v2 = 1
    · have h := (if_pos c_1).symm.trans h
      refine lv_tableIn (tgt := 54) hx hb dX5_section_14 (by rw [c_1]; decide) (by rw [c_1]; decide) (by rw [c_1]; rfl) (by decide) ?_
      refine lv_aload_n hx hb dX5_section_54 rfl (lv_at hl 0 rfl) ?_
      refine va_get (D := (dC, dI)) (ci := 5) (v := .ref h0_plan) (C := RX5) (T := TX5) (N := 10) hx hb hts hiX5 hown hK hP 0 rfl rfl 1 (by decide) (hts (.fieldLink RX5 19 "OptionLattice" "plan" "LOptionLattice$Plan;") (by decide +kernel)) (fun _ h9 => h9) rfl dX5_section_55 ?_
      refine va_getN (host := "OptionLattice") (D := (dC, dI)) (ci := 0) (v := .ref h0_plan_teacherOf) (C := RX0) (T := TX0) (N := 9) hx hb hts hiX0 hown hK hP 1 rfl rfl 5 (by decide) (va_Nw.use rfl (hE.1 ("OptionLattice", 177, "OptionLattice$Plan", "teacherOf", "[I") (List.mem_of_getElem? (i := 9) rfl))) (fun _ h9 => h9) rfl dX5_section_58 ?_
      refine lv_iload_n hx hb dX5_section_61 rfl (lv_at hl 1 rfl) ?_
      obtain ⟨g_, h⟩ := gd_some h
      refine va_iald hx hb hK hP 3 1 rfl rfl (inb_in g_) dX5_section_62 ?_
      have h : some (plan_teacherOf_ v1.toNatClampNeg) = some rr := h
      have z0 := Option.some.inj h
      obtain rfl := z0
      exact hret _ _ _ _ hP hS rfl dX5_section_63
    have h := (if_neg c_1).symm.trans h
    by_cases c_2 : v2 = 2
    · have h := (if_pos c_2).symm.trans h
      refine lv_tableIn (tgt := 64) hx hb dX5_section_14 (by rw [c_2]; decide) (by rw [c_2]; decide) (by rw [c_2]; rfl) (by decide) ?_
      refine lv_aload_n hx hb dX5_section_64 rfl (lv_at hl 0 rfl) ?_
      refine va_get (D := (dC, dI)) (ci := 5) (v := .ref h0_plan) (C := RX5) (T := TX5) (N := 10) hx hb hts hiX5 hown hK hP 0 rfl rfl 1 (by decide) (hts (.fieldLink RX5 19 "OptionLattice" "plan" "LOptionLattice$Plan;") (by decide +kernel)) (fun _ h9 => h9) rfl dX5_section_65 ?_
      refine va_getN (host := "OptionLattice") (D := (dC, dI)) (ci := 0) (v := .ref h0_plan_seatsOf) (C := RX0) (T := TX0) (N := 9) hx hb hts hiX0 hown hK hP 1 rfl rfl 6 (by decide) (va_Nw.use rfl (hE.1 ("OptionLattice", 116, "OptionLattice$Plan", "seatsOf", "[I") (List.mem_of_getElem? (i := 11) rfl))) (fun _ h9 => h9) rfl dX5_section_68 ?_
      refine lv_iload_n hx hb dX5_section_71 rfl (lv_at hl 1 rfl) ?_
      obtain ⟨g_, h⟩ := gd_some h
      refine va_iald hx hb hK hP 4 1 rfl rfl (inb_in g_) dX5_section_72 ?_
      have h : some (plan_seatsOf_ v1.toNatClampNeg) = some rr := h
      have z0 := Option.some.inj h
      obtain rfl := z0
      exact hret _ _ _ _ hP hS rfl dX5_section_73
    have h := (if_neg c_2).symm.trans h
    by_cases c_3 : v2 = 3
    · have h := (if_pos c_3).symm.trans h
      refine lv_tableIn (tgt := 74) hx hb dX5_section_14 (by rw [c_3]; decide) (by rw [c_3]; decide) (by rw [c_3]; rfl) (by decide) ?_
      refine lv_aload_n hx hb dX5_section_74 rfl (lv_at hl 0 rfl) ?_
      refine va_get (D := (dC, dI)) (ci := 5) (v := .ref h0_plan) (C := RX5) (T := TX5) (N := 10) hx hb hts hiX5 hown hK hP 0 rfl rfl 1 (by decide) (hts (.fieldLink RX5 19 "OptionLattice" "plan" "LOptionLattice$Plan;") (by decide +kernel)) (fun _ h9 => h9) rfl dX5_section_75 ?_
      refine va_getN (host := "OptionLattice") (D := (dC, dI)) (ci := 0) (v := .ref h0_plan_columnOf) (C := RX0) (T := TX0) (N := 9) hx hb hts hiX0 hown hK hP 1 rfl rfl 7 (by decide) (va_Nw.use rfl (hE.1 ("OptionLattice", 122, "OptionLattice$Plan", "columnOf", "[I") (List.mem_of_getElem? (i := 13) rfl))) (fun _ h9 => h9) rfl dX5_section_78 ?_
      refine lv_iload_n hx hb dX5_section_81 rfl (lv_at hl 1 rfl) ?_
      obtain ⟨g_, h⟩ := gd_some h
      refine va_iald hx hb hK hP 5 1 rfl rfl (inb_in g_) dX5_section_82 ?_
      refine lv_iconst (v := (-1)) hx hb dX5_section_83 (by decide) ?_
      refine lv_icmp_ne (tgt := 92) hx hb dX5_section_84 (by decide) (fun c_ => ?_) (fun c_ => ?_)
      · have h := (if_neg c_).symm.trans h
        refine lv_aload_n hx hb dX5_section_92 rfl (lv_at hl 0 rfl) ?_
        refine va_get (D := (dC, dI)) (ci := 5) (v := .ref h0_plan) (C := RX5) (T := TX5) (N := 10) hx hb hts hiX5 hown hK hP 0 rfl rfl 1 (by decide) (hts (.fieldLink RX5 19 "OptionLattice" "plan" "LOptionLattice$Plan;") (by decide +kernel)) (fun _ h9 => h9) rfl dX5_section_93 ?_
        refine va_getN (host := "OptionLattice") (D := (dC, dI)) (ci := 0) (v := .ref h0_plan_columnOf) (C := RX0) (T := TX0) (N := 9) hx hb hts hiX0 hown hK hP 1 rfl rfl 7 (by decide) (va_Nw.use rfl (hE.1 ("OptionLattice", 122, "OptionLattice$Plan", "columnOf", "[I") (List.mem_of_getElem? (i := 13) rfl))) (fun _ h9 => h9) rfl dX5_section_96 ?_
        refine lv_iload_n hx hb dX5_section_99 rfl (lv_at hl 1 rfl) ?_
        obtain ⟨g_, h⟩ := gd_some h
        refine va_iald hx hb hK hP 5 1 rfl rfl (inb_in g_) dX5_section_100 ?_
        have h : some (plan_columnOf_ v1.toNatClampNeg) = some rr := h
        have z0 := Option.some.inj h
        obtain rfl := z0
        exact hret _ _ _ _ hP hS rfl dX5_section_101
      · have h := (if_pos c_).symm.trans h
        refine lv_bipush (v := (-2)) hx hb dX5_section_87 (by decide) ?_
        refine lv_goto (tgt := 101) hx hb dX5_section_89 (by decide) ?_
        have h : some (-2) = some rr := h
        have z0 := Option.some.inj h
        obtain rfl := z0
        exact hret _ _ _ _ hP hS rfl dX5_section_101
    have h := (if_neg c_3).symm.trans h
    refine lv_tableOut (tgt := 102) hx hb dX5_section_14 (tsw_out (hi := 3) (fun k hk => by match k, hk with
      | 0, _ => exact c_0
      | 1, _ => exact c_1
      | 2, _ => exact c_2
      | 3, _ => exact c_3
      | k + 4, hk => omega)) (by decide) ?_
    refine lv_iconst (v := (-1)) hx hb dX5_section_102 (by decide) ?_
    have h : some (-1) = some rr := h
    have z0 := Option.some.inj h
    obtain rfl := z0
    exact hret _ _ _ _ hP hS rfl dX5_section_103
  · have h := (if_pos c_).symm.trans h
    refine lv_iconst (v := (-1)) hx hb dX5_section_11 (by decide) ?_
    have h : some (-1) = some rr := h
    have z0 := Option.some.inj h
    obtain rfl := z0
    exact hret _ _ _ _ hP hS rfl dX5_section_12

def m_X5_tell_ (toldCount_ : Int32) (told_ : Nat → Int64) (v1 : Int32) (v2 : Int32) : Option (Int32 × (Nat → Int64)) :=
  gd (inb 0 6) (gd (inb 1 6) (some (2, (vp_updL (vp_updL told_ (0 : Int32).toNatClampNeg (Int32.toInt64 v1)) (1 : Int32).toNatClampNeg (Int32.toInt64 v2)))))
abbrev rmX5_tell_ : Room := { frames := 0, cells := 0, slots := 0, locals := 0 }
set_option maxHeartbeats 4000000 in
set_option maxRecDepth 100000 in
theorem c_X5_tell_ (l : Launch) (dC : Nat → ClassId) (dI : Nat → Nat → Nat) (cyC cyI cyJ : ClassId) (h0 h0_text h0_plan h0_planDraft h0_roll h0_rollDraft h0_wayFinder h0_seating h0_demand h0_told : Nat) (toldCount_ : Int32) (told_ : Nat → Int64) (v1 : Int32) (v2 : Int32) (o0 : Int32) (o1 : Nat → Int64) (h : m_X5_tell_ toldCount_ told_ v1 v2 = some (o0, o1)) : uMv l yX5_tell_ wsX5_tell_ rmX5_tell_ (dC, dI) [(cyC, .char), (cyI, .int), (cyJ, .long)] [.ref h0, .int v1, .int v2] [(h0, .inr (5, [.ref h0_text, .ref h0_plan, .ref h0_planDraft, .ref h0_roll, .ref h0_rollDraft, .ref h0_wayFinder, .ref h0_seating, .ref h0_demand, .ref h0_told, .int toldCount_])), (h0_told, .inl (cyJ, 6, .inr (.inl told_)))] [(h0, .inr (5, [.ref h0_text, .ref h0_plan, .ref h0_planDraft, .ref h0_roll, .ref h0_rollDraft, .ref h0_wayFinder, .ref h0_seating, .ref h0_demand, .ref h0_told, .int o0])), (h0_told, .inl (cyJ, 6, .inr (.inl o1)))] := by
  refine uMv.of (cc := cX5_tell_) (maxL := 3) (by decide) rfl (Nat.le_of_ble_eq_true rfl) (fun p e s m args below meth c A ls Q hx hb hml hown hts hA hP hK hD hE hS hl hret => ?_)
  have hown : s.vm.findClass RX5 = some m.cls := hown
  have hl : lv_has ls 3 [(0, .ref h0), (1, .int v1), (2, .int v2)] := hl
  have hiX5 : ∀ w ∈ u_ws RX5 TX5 10, w ∈ wsX5_tell_ := fun _ h9 => List.mem_cons_of_mem _ (List.mem_append_right _ h9)
  unfold m_X5_tell_ at h
  refine lv_aload_n hx hb dX5_tell__0 rfl (lv_at hl 0 rfl) ?_
  refine va_get (D := (dC, dI)) (ci := 5) (v := .ref h0_told) (C := RX5) (T := TX5) (N := 10) hx hb hts hiX5 hown hK hP 0 rfl rfl 8 (by decide) (hts (.fieldLink RX5 54 "OptionLattice" "told" "[J") (by decide +kernel)) (fun _ h9 => h9) rfl dX5_tell__1 ?_
  refine lv_iconst (v := 0) hx hb dX5_tell__4 (by decide) ?_
  refine lv_iload_n hx hb dX5_tell__5 rfl (lv_at hl 1 rfl) ?_
  refine lv_i2l (v := (Int32.toInt64 v1)) hx hb dX5_tell__6 rfl ?_
  obtain ⟨g_, h⟩ := gd_some h
  refine va_last hx hb hK hP hD hS 1 2 rfl rfl (inb_in g_) dX5_tell__7 (fun H locs hP hD hS => ?_)
  have hP : va_P (dC, dI) vwCl [(h0, .inr (5, [.ref h0_text, .ref h0_plan, .ref h0_planDraft, .ref h0_roll, .ref h0_rollDraft, .ref h0_wayFinder, .ref h0_seating, .ref h0_demand, .ref h0_told, .int toldCount_])), (h0_told, .inl (cyJ, 6, .inr (.inl (vp_updL told_ (0 : Int32).toNatClampNeg (Int32.toInt64 v1)))))] H := hP
  have hD : va_D A [(h0, .inr (5, [.ref h0_text, .ref h0_plan, .ref h0_planDraft, .ref h0_roll, .ref h0_rollDraft, .ref h0_wayFinder, .ref h0_seating, .ref h0_demand, .ref h0_told, .int toldCount_])), (h0_told, .inl (cyJ, 6, .inr (.inl (vp_updL told_ (0 : Int32).toNatClampNeg (Int32.toInt64 v1)))))] := hD
  refine lv_aload_n hx hb dX5_tell__8 rfl (lv_at hl 0 rfl) ?_
  refine va_get (D := (dC, dI)) (ci := 5) (v := .ref h0_told) (C := RX5) (T := TX5) (N := 10) hx hb hts hiX5 hown hK hP 0 rfl rfl 8 (by decide) (hts (.fieldLink RX5 54 "OptionLattice" "told" "[J") (by decide +kernel)) (fun _ h9 => h9) rfl dX5_tell__9 ?_
  refine lv_iconst (v := 1) hx hb dX5_tell__12 (by decide) ?_
  refine lv_iload_n hx hb dX5_tell__13 rfl (lv_at hl 2 rfl) ?_
  refine lv_i2l (v := (Int32.toInt64 v2)) hx hb dX5_tell__14 rfl ?_
  obtain ⟨g_, h⟩ := gd_some h
  refine va_last hx hb hK hP hD hS 1 2 rfl rfl (inb_in g_) dX5_tell__15 (fun H locs hP hD hS => ?_)
  have hP : va_P (dC, dI) vwCl [(h0, .inr (5, [.ref h0_text, .ref h0_plan, .ref h0_planDraft, .ref h0_roll, .ref h0_rollDraft, .ref h0_wayFinder, .ref h0_seating, .ref h0_demand, .ref h0_told, .int toldCount_])), (h0_told, .inl (cyJ, 6, .inr (.inl (vp_updL (vp_updL told_ (0 : Int32).toNatClampNeg (Int32.toInt64 v1)) (1 : Int32).toNatClampNeg (Int32.toInt64 v2)))))] H := hP
  have hD : va_D A [(h0, .inr (5, [.ref h0_text, .ref h0_plan, .ref h0_planDraft, .ref h0_roll, .ref h0_rollDraft, .ref h0_wayFinder, .ref h0_seating, .ref h0_demand, .ref h0_told, .int toldCount_])), (h0_told, .inl (cyJ, 6, .inr (.inl (vp_updL (vp_updL told_ (0 : Int32).toNatClampNeg (Int32.toInt64 v1)) (1 : Int32).toNatClampNeg (Int32.toInt64 v2)))))] := hD
  refine lv_aload_n hx hb dX5_tell__16 rfl (lv_at hl 0 rfl) ?_
  refine lv_iconst (v := 2) hx hb dX5_tell__17 (by decide) ?_
  refine va_put (D := (dC, dI)) (ci := 5) (v := .int 2) (ty := .int) (C := RX5) (T := TX5) (N := 10) hx hb hts hiX5 tyX5 tyX5_ok nmX5 hown hK hP hD hS 0 rfl rfl 9 (by decide) (hts (.fieldLink RX5 58 "OptionLattice" "toldCount" "I") (by decide +kernel)) (fun _ h9 => h9) rfl (by decide +kernel) rfl rfl (Nat.le_of_ble_eq_true rfl) dX5_tell__18 (fun H locs hP hD hS => ?_)
  have hP : va_P (dC, dI) vwCl [(h0, .inr (5, [.ref h0_text, .ref h0_plan, .ref h0_planDraft, .ref h0_roll, .ref h0_rollDraft, .ref h0_wayFinder, .ref h0_seating, .ref h0_demand, .ref h0_told, .int 2])), (h0_told, .inl (cyJ, 6, .inr (.inl (vp_updL (vp_updL told_ (0 : Int32).toNatClampNeg (Int32.toInt64 v1)) (1 : Int32).toNatClampNeg (Int32.toInt64 v2)))))] H := hP
  have hD : va_D A [(h0, .inr (5, [.ref h0_text, .ref h0_plan, .ref h0_planDraft, .ref h0_roll, .ref h0_rollDraft, .ref h0_wayFinder, .ref h0_seating, .ref h0_demand, .ref h0_told, .int 2])), (h0_told, .inl (cyJ, 6, .inr (.inl (vp_updL (vp_updL told_ (0 : Int32).toNatClampNeg (Int32.toInt64 v1)) (1 : Int32).toNatClampNeg (Int32.toInt64 v2)))))] := hD
  have h : some (2, (vp_updL (vp_updL told_ (0 : Int32).toNatClampNeg (Int32.toInt64 v1)) (1 : Int32).toNatClampNeg (Int32.toInt64 v2))) = some (o0, o1) := h
  have z0 := Option.some.inj h
  obtain ⟨rfl, z1⟩ := Prod.mk.inj z0
  obtain rfl := z1
  exact hret _ _ _ _ hP hS dX5_tell__21

def m_X5_column (toldCount_ : Int32) (plan_columnCount_ : Int32) (plan_size_ : Int32) (plan_columnOf_ : Nat → Int32) (plan_columnsWith_ : Nat → Int32) (told_ : Nat → Int64) (v1 : Int32) : Option (Int32 × Int32 × (Nat → Int64)) :=
  bd1 (m_X0_hasColumn plan_columnCount_ v1) (fun r_1 => (if r_1 = 0 then some ((-1), toldCount_, told_) else bd1 (m_X0_sectionsIn plan_size_ plan_columnOf_ v1) (fun r_2 => bd1 (m_J6_bitCount_0f7a4 r_2) (fun r_3 => bd1 (m_X0_subjectsIn plan_columnsWith_ v1) (fun r_4 => bd2 (m_X5_tell_ toldCount_ told_ r_3 r_4) (fun toldCount_5 told_6 => some (r_2, toldCount_5, told_6)))))))
abbrev rmX5_column : Room := { frames := 2, cells := 0, slots := 0, locals := 44 }
set_option maxHeartbeats 4000000 in
set_option maxRecDepth 100000 in
theorem c_X5_column (l : Launch) (dC : Nat → ClassId) (dI : Nat → Nat → Nat) (cyC cyI cyJ : ClassId) (h0 h0_text h0_plan h0_plan_barsOf h0_plan_subjectOf h0_plan_teacherOf h0_plan_seatsOf h0_plan_columnOf h0_plan_columnsWith h0_planDraft h0_roll h0_rollDraft h0_wayFinder h0_seating h0_demand h0_told : Nat) (toldCount_ : Int32) (plan_columnCount_ : Int32) (plan_roomCount_ : Int32) (plan_size_ : Int32) (plan_columnOf_ : Nat → Int32) (plan_columnsWith_ : Nat → Int32) (told_ : Nat → Int64) (v1 : Int32) (rr : Int32) (o0 : Int32) (o1 : Nat → Int64) (h : m_X5_column toldCount_ plan_columnCount_ plan_size_ plan_columnOf_ plan_columnsWith_ told_ v1 = some (rr, o0, o1)) : uMi l yX5_column wsX5_column rmX5_column (dC, dI) [(cyC, .char), (cyI, .int), (cyJ, .long)] [.ref h0, .int v1] [(h0, .inr (5, [.ref h0_text, .ref h0_plan, .ref h0_planDraft, .ref h0_roll, .ref h0_rollDraft, .ref h0_wayFinder, .ref h0_seating, .ref h0_demand, .ref h0_told, .int toldCount_])), (h0_plan, .inr (0, [.int plan_columnCount_, .int plan_roomCount_, .int plan_size_, .ref h0_plan_barsOf, .ref h0_plan_subjectOf, .ref h0_plan_teacherOf, .ref h0_plan_seatsOf, .ref h0_plan_columnOf, .ref h0_plan_columnsWith])), (h0_plan_columnOf, .inl (cyI, 16, .inl plan_columnOf_)), (h0_plan_columnsWith, .inl (cyI, 10, .inl plan_columnsWith_)), (h0_told, .inl (cyJ, 6, .inr (.inl told_)))] [(h0, .inr (5, [.ref h0_text, .ref h0_plan, .ref h0_planDraft, .ref h0_roll, .ref h0_rollDraft, .ref h0_wayFinder, .ref h0_seating, .ref h0_demand, .ref h0_told, .int o0])), (h0_plan, .inr (0, [.int plan_columnCount_, .int plan_roomCount_, .int plan_size_, .ref h0_plan_barsOf, .ref h0_plan_subjectOf, .ref h0_plan_teacherOf, .ref h0_plan_seatsOf, .ref h0_plan_columnOf, .ref h0_plan_columnsWith])), (h0_plan_columnOf, .inl (cyI, 16, .inl plan_columnOf_)), (h0_plan_columnsWith, .inl (cyI, 10, .inl plan_columnsWith_)), (h0_told, .inl (cyJ, 6, .inr (.inl o1)))] rr := by
  refine uMi.of (cc := cX5_column) (maxL := 3) (by decide) rfl (Nat.le_of_ble_eq_true rfl) (fun p e s m args below meth c A ls Q hx hb hml hown hts hA hP hK hD hE hS hl hret => ?_)
  have hown : s.vm.findClass RX5 = some m.cls := hown
  have hl : lv_has ls 3 [(0, .ref h0), (1, .int v1)] := hl
  have hiX5 : ∀ w ∈ u_ws RX5 TX5 10, w ∈ wsX5_column := fun _ h9 => List.mem_cons_of_mem _ (List.mem_append_left _ (List.mem_append_right _ h9))
  unfold m_X5_column at h
  refine lv_aload_n hx hb dX5_column_0 rfl (lv_at hl 0 rfl) ?_
  refine va_get (D := (dC, dI)) (ci := 5) (v := .ref h0_plan) (C := RX5) (T := TX5) (N := 10) hx hb hts hiX5 hown hK hP 0 rfl rfl 1 (by decide) (hts (.fieldLink RX5 19 "OptionLattice" "plan" "LOptionLattice$Plan;") (by decide +kernel)) (fun _ h9 => h9) rfl dX5_column_1 ?_
  refine lv_iload_n hx hb dX5_column_4 rfl (lv_at hl 1 rfl) ?_
  obtain ⟨r_1, hq, h⟩ := bd1_some h
  refine uV_i (b := h0_plan) (As := [.int v1]) (rest := []) ⟨hx, hb, hml, hown, hts⟩ (c_X0_hasColumn l dC dI cyC cyI cyJ h0_plan h0_plan_barsOf h0_plan_subjectOf h0_plan_teacherOf h0_plan_seatsOf h0_plan_columnOf h0_plan_columnsWith plan_columnCount_ plan_roomCount_ plan_size_ v1 r_1 hq) (cwV 1 hts gX5_column_X0_hasColumn rfl rfl rfl (by decide +kernel) ⟨Nat.le_of_ble_eq_true rfl, Nat.le_of_ble_eq_true rfl⟩) hK hE hA hP hD hS [1] rfl rfl rfl 0 0 rfl rfl rfl hl.1 rfl (Nat.le_of_ble_eq_true rfl) ⟨Nat.zero_le _, Nat.zero_le _⟩ dX5_column_5 (fun H locs hP hD hS => ?_)
  have hP : va_P (dC, dI) vwCl [(h0, .inr (5, [.ref h0_text, .ref h0_plan, .ref h0_planDraft, .ref h0_roll, .ref h0_rollDraft, .ref h0_wayFinder, .ref h0_seating, .ref h0_demand, .ref h0_told, .int toldCount_])), (h0_plan, .inr (0, [.int plan_columnCount_, .int plan_roomCount_, .int plan_size_, .ref h0_plan_barsOf, .ref h0_plan_subjectOf, .ref h0_plan_teacherOf, .ref h0_plan_seatsOf, .ref h0_plan_columnOf, .ref h0_plan_columnsWith])), (h0_plan_columnOf, .inl (cyI, 16, .inl plan_columnOf_)), (h0_plan_columnsWith, .inl (cyI, 10, .inl plan_columnsWith_)), (h0_told, .inl (cyJ, 6, .inr (.inl told_)))] H := hP
  have hD : va_D A [(h0, .inr (5, [.ref h0_text, .ref h0_plan, .ref h0_planDraft, .ref h0_roll, .ref h0_rollDraft, .ref h0_wayFinder, .ref h0_seating, .ref h0_demand, .ref h0_told, .int toldCount_])), (h0_plan, .inr (0, [.int plan_columnCount_, .int plan_roomCount_, .int plan_size_, .ref h0_plan_barsOf, .ref h0_plan_subjectOf, .ref h0_plan_teacherOf, .ref h0_plan_seatsOf, .ref h0_plan_columnOf, .ref h0_plan_columnsWith])), (h0_plan_columnOf, .inl (cyI, 16, .inl plan_columnOf_)), (h0_plan_columnsWith, .inl (cyI, 10, .inl plan_columnsWith_)), (h0_told, .inl (cyJ, 6, .inr (.inl told_)))] := hD
  refine lv_if_ne (tgt := 13) hx hb dX5_column_8 (by decide) (fun c_ => ?_) (fun c_ => ?_)
  · have h := (if_neg c_).symm.trans h
    refine lv_aload_n hx hb dX5_column_13 rfl (lv_at hl 0 rfl) ?_
    refine va_get (D := (dC, dI)) (ci := 5) (v := .ref h0_plan) (C := RX5) (T := TX5) (N := 10) hx hb hts hiX5 hown hK hP 0 rfl rfl 1 (by decide) (hts (.fieldLink RX5 19 "OptionLattice" "plan" "LOptionLattice$Plan;") (by decide +kernel)) (fun _ h9 => h9) rfl dX5_column_14 ?_
    refine lv_iload_n hx hb dX5_column_17 rfl (lv_at hl 1 rfl) ?_
    obtain ⟨r_2, hq, h⟩ := bd1_some h
    refine uV_i (b := h0_plan) (As := [.int v1]) (rest := []) ⟨hx, hb, hml, hown, hts⟩ (c_X0_sectionsIn l dC dI cyC cyI cyJ h0_plan h0_plan_barsOf h0_plan_subjectOf h0_plan_teacherOf h0_plan_seatsOf h0_plan_columnOf h0_plan_columnsWith plan_columnCount_ plan_roomCount_ plan_size_ plan_columnOf_ v1 r_2 hq) (cwV 1 hts gX5_column_X0_sectionsIn rfl rfl rfl (by decide +kernel) ⟨Nat.le_of_ble_eq_true rfl, Nat.le_of_ble_eq_true rfl⟩) hK hE hA hP hD hS [1, 2] rfl rfl rfl 0 0 rfl rfl rfl hl.1 rfl (Nat.le_of_ble_eq_true rfl) ⟨Nat.zero_le _, Nat.zero_le _⟩ dX5_column_18 (fun H locs hP hD hS => ?_)
    have hP : va_P (dC, dI) vwCl [(h0, .inr (5, [.ref h0_text, .ref h0_plan, .ref h0_planDraft, .ref h0_roll, .ref h0_rollDraft, .ref h0_wayFinder, .ref h0_seating, .ref h0_demand, .ref h0_told, .int toldCount_])), (h0_plan, .inr (0, [.int plan_columnCount_, .int plan_roomCount_, .int plan_size_, .ref h0_plan_barsOf, .ref h0_plan_subjectOf, .ref h0_plan_teacherOf, .ref h0_plan_seatsOf, .ref h0_plan_columnOf, .ref h0_plan_columnsWith])), (h0_plan_columnOf, .inl (cyI, 16, .inl plan_columnOf_)), (h0_plan_columnsWith, .inl (cyI, 10, .inl plan_columnsWith_)), (h0_told, .inl (cyJ, 6, .inr (.inl told_)))] H := hP
    have hD : va_D A [(h0, .inr (5, [.ref h0_text, .ref h0_plan, .ref h0_planDraft, .ref h0_roll, .ref h0_rollDraft, .ref h0_wayFinder, .ref h0_seating, .ref h0_demand, .ref h0_told, .int toldCount_])), (h0_plan, .inr (0, [.int plan_columnCount_, .int plan_roomCount_, .int plan_size_, .ref h0_plan_barsOf, .ref h0_plan_subjectOf, .ref h0_plan_teacherOf, .ref h0_plan_seatsOf, .ref h0_plan_columnOf, .ref h0_plan_columnsWith])), (h0_plan_columnOf, .inl (cyI, 16, .inl plan_columnOf_)), (h0_plan_columnsWith, .inl (cyI, 10, .inl plan_columnsWith_)), (h0_told, .inl (cyJ, 6, .inr (.inl told_)))] := hD
    refine lv_istore_n (lv' := [(2, .int r_2), (0, .ref h0), (1, .int v1)]) hx hb dX5_column_21 rfl hl (by decide) rfl (fun ls hl => ?_)
    refine lv_aload_n hx hb dX5_column_22 rfl (lv_at hl 1 rfl) ?_
    refine lv_iload_n hx hb dX5_column_23 rfl (lv_at hl 0 rfl) ?_
    obtain ⟨r_3, hq, h⟩ := bd1_some h
    refine uS_i (As := [.int r_2]) (rest := [.ref h0]) ⟨hx, hb, hml, hown, hts⟩ (c_J6_bitCount_0f7a4 l dC dI cyC cyI cyJ r_2 r_3 hq) (va_cwS 1 hts gX5_column_J6_bitCount_0f7a4 rfl rfl rfl (by decide +kernel) ⟨Nat.le_of_ble_eq_true rfl, Nat.le_of_ble_eq_true rfl⟩) hK hE hA hP hD hS [] rfl rfl rfl rfl hl.1 rfl (Nat.le_of_ble_eq_true rfl) ⟨Nat.zero_le _, Nat.zero_le _⟩ dX5_column_24 (fun H locs hP hD hS => ?_)
    have hP : va_P (dC, dI) vwCl [(h0, .inr (5, [.ref h0_text, .ref h0_plan, .ref h0_planDraft, .ref h0_roll, .ref h0_rollDraft, .ref h0_wayFinder, .ref h0_seating, .ref h0_demand, .ref h0_told, .int toldCount_])), (h0_plan, .inr (0, [.int plan_columnCount_, .int plan_roomCount_, .int plan_size_, .ref h0_plan_barsOf, .ref h0_plan_subjectOf, .ref h0_plan_teacherOf, .ref h0_plan_seatsOf, .ref h0_plan_columnOf, .ref h0_plan_columnsWith])), (h0_plan_columnOf, .inl (cyI, 16, .inl plan_columnOf_)), (h0_plan_columnsWith, .inl (cyI, 10, .inl plan_columnsWith_)), (h0_told, .inl (cyJ, 6, .inr (.inl told_)))] H := hP
    have hD : va_D A [(h0, .inr (5, [.ref h0_text, .ref h0_plan, .ref h0_planDraft, .ref h0_roll, .ref h0_rollDraft, .ref h0_wayFinder, .ref h0_seating, .ref h0_demand, .ref h0_told, .int toldCount_])), (h0_plan, .inr (0, [.int plan_columnCount_, .int plan_roomCount_, .int plan_size_, .ref h0_plan_barsOf, .ref h0_plan_subjectOf, .ref h0_plan_teacherOf, .ref h0_plan_seatsOf, .ref h0_plan_columnOf, .ref h0_plan_columnsWith])), (h0_plan_columnOf, .inl (cyI, 16, .inl plan_columnOf_)), (h0_plan_columnsWith, .inl (cyI, 10, .inl plan_columnsWith_)), (h0_told, .inl (cyJ, 6, .inr (.inl told_)))] := hD
    refine lv_aload_n hx hb dX5_column_27 rfl (lv_at hl 1 rfl) ?_
    refine va_get (D := (dC, dI)) (ci := 5) (v := .ref h0_plan) (C := RX5) (T := TX5) (N := 10) hx hb hts hiX5 hown hK hP 0 rfl rfl 1 (by decide) (hts (.fieldLink RX5 19 "OptionLattice" "plan" "LOptionLattice$Plan;") (by decide +kernel)) (fun _ h9 => h9) rfl dX5_column_28 ?_
    refine lv_iload_n hx hb dX5_column_31 rfl (lv_at hl 2 rfl) ?_
    obtain ⟨r_4, hq, h⟩ := bd1_some h
    refine uV_i (b := h0_plan) (As := [.int v1]) (rest := [.int r_3, .ref h0]) ⟨hx, hb, hml, hown, hts⟩ (c_X0_subjectsIn l dC dI cyC cyI cyJ h0_plan h0_plan_barsOf h0_plan_subjectOf h0_plan_teacherOf h0_plan_seatsOf h0_plan_columnOf h0_plan_columnsWith plan_columnCount_ plan_roomCount_ plan_size_ plan_columnsWith_ v1 r_4 hq) (cwV 1 hts gX5_column_X0_subjectsIn rfl rfl rfl (by decide +kernel) ⟨Nat.le_of_ble_eq_true rfl, Nat.le_of_ble_eq_true rfl⟩) hK hE hA hP hD hS [1, 3] rfl rfl rfl 0 0 rfl rfl rfl hl.1 rfl (Nat.le_of_ble_eq_true rfl) ⟨Nat.zero_le _, Nat.zero_le _⟩ dX5_column_32 (fun H locs hP hD hS => ?_)
    have hP : va_P (dC, dI) vwCl [(h0, .inr (5, [.ref h0_text, .ref h0_plan, .ref h0_planDraft, .ref h0_roll, .ref h0_rollDraft, .ref h0_wayFinder, .ref h0_seating, .ref h0_demand, .ref h0_told, .int toldCount_])), (h0_plan, .inr (0, [.int plan_columnCount_, .int plan_roomCount_, .int plan_size_, .ref h0_plan_barsOf, .ref h0_plan_subjectOf, .ref h0_plan_teacherOf, .ref h0_plan_seatsOf, .ref h0_plan_columnOf, .ref h0_plan_columnsWith])), (h0_plan_columnOf, .inl (cyI, 16, .inl plan_columnOf_)), (h0_plan_columnsWith, .inl (cyI, 10, .inl plan_columnsWith_)), (h0_told, .inl (cyJ, 6, .inr (.inl told_)))] H := hP
    have hD : va_D A [(h0, .inr (5, [.ref h0_text, .ref h0_plan, .ref h0_planDraft, .ref h0_roll, .ref h0_rollDraft, .ref h0_wayFinder, .ref h0_seating, .ref h0_demand, .ref h0_told, .int toldCount_])), (h0_plan, .inr (0, [.int plan_columnCount_, .int plan_roomCount_, .int plan_size_, .ref h0_plan_barsOf, .ref h0_plan_subjectOf, .ref h0_plan_teacherOf, .ref h0_plan_seatsOf, .ref h0_plan_columnOf, .ref h0_plan_columnsWith])), (h0_plan_columnOf, .inl (cyI, 16, .inl plan_columnOf_)), (h0_plan_columnsWith, .inl (cyI, 10, .inl plan_columnsWith_)), (h0_told, .inl (cyJ, 6, .inr (.inl told_)))] := hD
    obtain ⟨toldCount_5, told_6, hq, h⟩ := bd2_some h
    refine uV_v (b := h0) (As := [.int r_3, .int r_4]) (rest := []) ⟨hx, hb, hml, hown, hts⟩ (c_X5_tell_ l dC dI cyC cyI cyJ h0 h0_text h0_plan h0_planDraft h0_roll h0_rollDraft h0_wayFinder h0_seating h0_demand h0_told toldCount_ told_ r_3 r_4 toldCount_5 told_6 hq) (cwV 2 hts gX5_column_X5_tell_ rfl rfl rfl (by decide +kernel) ⟨Nat.le_of_ble_eq_true rfl, Nat.le_of_ble_eq_true rfl⟩) hK hE hA hP hD hS [0, 4] rfl rfl rfl 5 0 rfl rfl rfl hl.1 rfl (Nat.le_of_ble_eq_true rfl) ⟨Nat.zero_le _, Nat.zero_le _⟩ dX5_column_35 (fun H locs hP hD hS => ?_)
    have hP : va_P (dC, dI) vwCl [(h0, .inr (5, [.ref h0_text, .ref h0_plan, .ref h0_planDraft, .ref h0_roll, .ref h0_rollDraft, .ref h0_wayFinder, .ref h0_seating, .ref h0_demand, .ref h0_told, .int toldCount_5])), (h0_plan, .inr (0, [.int plan_columnCount_, .int plan_roomCount_, .int plan_size_, .ref h0_plan_barsOf, .ref h0_plan_subjectOf, .ref h0_plan_teacherOf, .ref h0_plan_seatsOf, .ref h0_plan_columnOf, .ref h0_plan_columnsWith])), (h0_plan_columnOf, .inl (cyI, 16, .inl plan_columnOf_)), (h0_plan_columnsWith, .inl (cyI, 10, .inl plan_columnsWith_)), (h0_told, .inl (cyJ, 6, .inr (.inl told_6)))] H := hP
    have hD : va_D A [(h0, .inr (5, [.ref h0_text, .ref h0_plan, .ref h0_planDraft, .ref h0_roll, .ref h0_rollDraft, .ref h0_wayFinder, .ref h0_seating, .ref h0_demand, .ref h0_told, .int toldCount_5])), (h0_plan, .inr (0, [.int plan_columnCount_, .int plan_roomCount_, .int plan_size_, .ref h0_plan_barsOf, .ref h0_plan_subjectOf, .ref h0_plan_teacherOf, .ref h0_plan_seatsOf, .ref h0_plan_columnOf, .ref h0_plan_columnsWith])), (h0_plan_columnOf, .inl (cyI, 16, .inl plan_columnOf_)), (h0_plan_columnsWith, .inl (cyI, 10, .inl plan_columnsWith_)), (h0_told, .inl (cyJ, 6, .inr (.inl told_6)))] := hD
    refine lv_iload_n hx hb dX5_column_38 rfl (lv_at hl 0 rfl) ?_
    have h : some (r_2, toldCount_5, told_6) = some (rr, o0, o1) := h
    have z0 := Option.some.inj h
    obtain ⟨rfl, z1⟩ := Prod.mk.inj z0
    obtain ⟨rfl, z2⟩ := Prod.mk.inj z1
    obtain rfl := z2
    exact hret _ _ _ _ hP hS rfl dX5_column_39
  · have h := (if_pos c_).symm.trans h
    refine lv_iconst (v := (-1)) hx hb dX5_column_11 (by decide) ?_
    have h : some ((-1), toldCount_, told_) = some (rr, o0, o1) := h
    have z0 := Option.some.inj h
    obtain ⟨rfl, z1⟩ := Prod.mk.inj z0
    obtain ⟨rfl, z2⟩ := Prod.mk.inj z1
    obtain rfl := z2
    exact hret _ _ _ _ hP hS rfl dX5_column_12

def m_X5_tell__ (toldCount_ : Int32) (told_ : Nat → Int64) (v1 : Int32) (v2 : Int32) (v3 : Int32) : Option (Int32 × (Nat → Int64)) :=
  bd2 (m_X5_tell_ toldCount_ told_ v1 v2) (fun toldCount_1 told_2 => gd (inb 2 6) (some (3, (vp_updL told_2 (2 : Int32).toNatClampNeg (Int32.toInt64 v3)))))
abbrev rmX5_tell__ : Room := { frames := 1, cells := 0, slots := 0, locals := 22 }
set_option maxHeartbeats 4000000 in
set_option maxRecDepth 100000 in
theorem c_X5_tell__ (l : Launch) (dC : Nat → ClassId) (dI : Nat → Nat → Nat) (cyC cyI cyJ : ClassId) (h0 h0_text h0_plan h0_planDraft h0_roll h0_rollDraft h0_wayFinder h0_seating h0_demand h0_told : Nat) (toldCount_ : Int32) (told_ : Nat → Int64) (v1 : Int32) (v2 : Int32) (v3 : Int32) (o0 : Int32) (o1 : Nat → Int64) (h : m_X5_tell__ toldCount_ told_ v1 v2 v3 = some (o0, o1)) : uMv l yX5_tell__ wsX5_tell__ rmX5_tell__ (dC, dI) [(cyC, .char), (cyI, .int), (cyJ, .long)] [.ref h0, .int v1, .int v2, .int v3] [(h0, .inr (5, [.ref h0_text, .ref h0_plan, .ref h0_planDraft, .ref h0_roll, .ref h0_rollDraft, .ref h0_wayFinder, .ref h0_seating, .ref h0_demand, .ref h0_told, .int toldCount_])), (h0_told, .inl (cyJ, 6, .inr (.inl told_)))] [(h0, .inr (5, [.ref h0_text, .ref h0_plan, .ref h0_planDraft, .ref h0_roll, .ref h0_rollDraft, .ref h0_wayFinder, .ref h0_seating, .ref h0_demand, .ref h0_told, .int o0])), (h0_told, .inl (cyJ, 6, .inr (.inl o1)))] := by
  refine uMv.of (cc := cX5_tell__) (maxL := 4) (by decide) rfl (Nat.le_of_ble_eq_true rfl) (fun p e s m args below meth c A ls Q hx hb hml hown hts hA hP hK hD hE hS hl hret => ?_)
  have hown : s.vm.findClass RX5 = some m.cls := hown
  have hl : lv_has ls 4 [(0, .ref h0), (1, .int v1), (2, .int v2), (3, .int v3)] := hl
  have hiX5 : ∀ w ∈ u_ws RX5 TX5 10, w ∈ wsX5_tell__ := fun _ h9 => List.mem_cons_of_mem _ (List.mem_append_right _ h9)
  unfold m_X5_tell__ at h
  refine lv_aload_n hx hb dX5_tell___0 rfl (lv_at hl 0 rfl) ?_
  refine lv_iload_n hx hb dX5_tell___1 rfl (lv_at hl 1 rfl) ?_
  refine lv_iload_n hx hb dX5_tell___2 rfl (lv_at hl 2 rfl) ?_
  obtain ⟨toldCount_1, told_2, hq, h⟩ := bd2_some h
  refine uV_v (b := h0) (As := [.int v1, .int v2]) (rest := []) ⟨hx, hb, hml, hown, hts⟩ (c_X5_tell_ l dC dI cyC cyI cyJ h0 h0_text h0_plan h0_planDraft h0_roll h0_rollDraft h0_wayFinder h0_seating h0_demand h0_told toldCount_ told_ v1 v2 toldCount_1 told_2 hq) (cwV 2 hts gX5_tell___X5_tell_ rfl rfl rfl (by decide +kernel) ⟨Nat.le_of_ble_eq_true rfl, Nat.le_of_ble_eq_true rfl⟩) hK hE hA hP hD hS [0, 1] rfl rfl rfl 5 0 rfl rfl rfl hl.1 rfl (Nat.le_of_ble_eq_true rfl) ⟨Nat.zero_le _, Nat.zero_le _⟩ dX5_tell___3 (fun H locs hP hD hS => ?_)
  have hP : va_P (dC, dI) vwCl [(h0, .inr (5, [.ref h0_text, .ref h0_plan, .ref h0_planDraft, .ref h0_roll, .ref h0_rollDraft, .ref h0_wayFinder, .ref h0_seating, .ref h0_demand, .ref h0_told, .int toldCount_1])), (h0_told, .inl (cyJ, 6, .inr (.inl told_2)))] H := hP
  have hD : va_D A [(h0, .inr (5, [.ref h0_text, .ref h0_plan, .ref h0_planDraft, .ref h0_roll, .ref h0_rollDraft, .ref h0_wayFinder, .ref h0_seating, .ref h0_demand, .ref h0_told, .int toldCount_1])), (h0_told, .inl (cyJ, 6, .inr (.inl told_2)))] := hD
  refine lv_aload_n hx hb dX5_tell___6 rfl (lv_at hl 0 rfl) ?_
  refine va_get (D := (dC, dI)) (ci := 5) (v := .ref h0_told) (C := RX5) (T := TX5) (N := 10) hx hb hts hiX5 hown hK hP 0 rfl rfl 8 (by decide) (hts (.fieldLink RX5 54 "OptionLattice" "told" "[J") (by decide +kernel)) (fun _ h9 => h9) rfl dX5_tell___7 ?_
  refine lv_iconst (v := 2) hx hb dX5_tell___10 (by decide) ?_
  refine lv_iload_n hx hb dX5_tell___11 rfl (lv_at hl 3 rfl) ?_
  refine lv_i2l (v := (Int32.toInt64 v3)) hx hb dX5_tell___12 rfl ?_
  obtain ⟨g_, h⟩ := gd_some h
  refine va_last hx hb hK hP hD hS 1 2 rfl rfl (inb_in g_) dX5_tell___13 (fun H locs hP hD hS => ?_)
  have hP : va_P (dC, dI) vwCl [(h0, .inr (5, [.ref h0_text, .ref h0_plan, .ref h0_planDraft, .ref h0_roll, .ref h0_rollDraft, .ref h0_wayFinder, .ref h0_seating, .ref h0_demand, .ref h0_told, .int toldCount_1])), (h0_told, .inl (cyJ, 6, .inr (.inl (vp_updL told_2 (2 : Int32).toNatClampNeg (Int32.toInt64 v3)))))] H := hP
  have hD : va_D A [(h0, .inr (5, [.ref h0_text, .ref h0_plan, .ref h0_planDraft, .ref h0_roll, .ref h0_rollDraft, .ref h0_wayFinder, .ref h0_seating, .ref h0_demand, .ref h0_told, .int toldCount_1])), (h0_told, .inl (cyJ, 6, .inr (.inl (vp_updL told_2 (2 : Int32).toNatClampNeg (Int32.toInt64 v3)))))] := hD
  refine lv_aload_n hx hb dX5_tell___14 rfl (lv_at hl 0 rfl) ?_
  refine lv_iconst (v := 3) hx hb dX5_tell___15 (by decide) ?_
  refine va_put (D := (dC, dI)) (ci := 5) (v := .int 3) (ty := .int) (C := RX5) (T := TX5) (N := 10) hx hb hts hiX5 tyX5 tyX5_ok nmX5 hown hK hP hD hS 0 rfl rfl 9 (by decide) (hts (.fieldLink RX5 58 "OptionLattice" "toldCount" "I") (by decide +kernel)) (fun _ h9 => h9) rfl (by decide +kernel) rfl rfl (Nat.le_of_ble_eq_true rfl) dX5_tell___16 (fun H locs hP hD hS => ?_)
  have hP : va_P (dC, dI) vwCl [(h0, .inr (5, [.ref h0_text, .ref h0_plan, .ref h0_planDraft, .ref h0_roll, .ref h0_rollDraft, .ref h0_wayFinder, .ref h0_seating, .ref h0_demand, .ref h0_told, .int 3])), (h0_told, .inl (cyJ, 6, .inr (.inl (vp_updL told_2 (2 : Int32).toNatClampNeg (Int32.toInt64 v3)))))] H := hP
  have hD : va_D A [(h0, .inr (5, [.ref h0_text, .ref h0_plan, .ref h0_planDraft, .ref h0_roll, .ref h0_rollDraft, .ref h0_wayFinder, .ref h0_seating, .ref h0_demand, .ref h0_told, .int 3])), (h0_told, .inl (cyJ, 6, .inr (.inl (vp_updL told_2 (2 : Int32).toNatClampNeg (Int32.toInt64 v3)))))] := hD
  have h : some (3, (vp_updL told_2 (2 : Int32).toNatClampNeg (Int32.toInt64 v3))) = some (o0, o1) := h
  have z0 := Option.some.inj h
  obtain ⟨rfl, z1⟩ := Prod.mk.inj z0
  obtain rfl := z1
  exact hret _ _ _ _ hP hS dX5_tell___19
