def m_X5_crowd_108 (toldCount_ : Int32) (plan_columnsWith_ : Nat → Int32) (told_ : Nat → Int64) (v3 : Int32) : Option (Int32 × Int32 × (Nat → Int64)) :=
  bd1 (m_J6_bitCount_0f7a4 v3) (fun r_1 => bd1 (m_X0_columnsOfAny plan_columnsWith_ v3) (fun r_2 => bd2 (m_X5_tell_ toldCount_ told_ r_1 r_2) (fun toldCount_3 told_4 => some (v3, toldCount_3, told_4))))
def m_X5_crowd_71 (plan_columnsWith_ : Nat → Int32) (v2 : Int32) (v3 : Int32) (v4 : Int32) (t0 : Int32) (rec42 : Int32 → Int32 → Option (Int32 × Int32 × (Nat → Int64))) : Option (Int32 × Int32 × (Nat → Int64)) :=
  (if t0 = 0 then lt' (v4 + 1) (fun v4_5 => rec42 v3 v4_5) else (if (v4 &&& (v2 ^^^ (-1))) = 0 then bd1 (m_X0_isCrowded plan_columnsWith_ v4) (fun r_7 => (if r_7 = 0 then lt' (v4 + 1) (fun v4_8 => rec42 v3 v4_8) else lt' (v4 + 1) (fun v4_9 => rec42 v4 v4_9))) else lt' (v4 + 1) (fun v4_6 => rec42 v3 v4_6)))
def m_X5_crowd_66 (plan_columnsWith_ : Nat → Int32) (v2 : Int32) (v3 : Int32) (v4 : Int32) (rec42 : Int32 → Int32 → Option (Int32 × Int32 × (Nat → Int64))) : Option (Int32 × Int32 × (Nat → Int64)) :=
  m_X5_crowd_71 plan_columnsWith_ v2 v3 v4 1 rec42
def m_X5_crowd_42 (toldCount_ : Int32) (plan_columnsWith_ : Nat → Int32) (told_ : Nat → Int64) (v2 : Int32) (rec42 : Int32 → Int32 → Option (Int32 × Int32 × (Nat → Int64))) : Int32 → Int32 → Option (Int32 × Int32 × (Nat → Int64)) := fun v3 v4 =>
  (if 1023 < v4 then m_X5_crowd_108 toldCount_ plan_columnsWith_ told_ v3 else (if v3 = 0 then m_X5_crowd_66 plan_columnsWith_ v2 v3 v4 rec42 else bd1 (m_J6_bitCount_0f7a4 v4) (fun r_10 => bd1 (m_J6_bitCount_0f7a4 v3) (fun r_11 => (if r_11 ≤ r_10 then m_X5_crowd_71 plan_columnsWith_ v2 v3 v4 0 rec42 else m_X5_crowd_66 plan_columnsWith_ v2 v3 v4 rec42)))))
def m_X5_crowd (toldCount_ : Int32) (plan_columnsWith_ : Nat → Int32) (roll_size_ : Int32) (roll_choicesOf_ : Nat → Int32) (told_ : Nat → Int64) (v1 : Int32) : Option (Int32 × Int32 × (Nat → Int64)) :=
  bd1 (m_X1_has roll_size_ v1) (fun r_12 => (if r_12 = 0 then some ((-1), toldCount_, told_) else gd (inb v1 24) (lt' (roll_choicesOf_ v1.toNatClampNeg) (fun v2_13 => bd1 (m_X0_hasWay plan_columnsWith_ v2_13) (fun r_14 => (if r_14 = 0 then it2 (m_X5_crowd_42 toldCount_ plan_columnsWith_ told_ v2_13) 1100 0 1 else some ((-2), toldCount_, told_)))))))
abbrev rmX5_crowd : Room := { frames := 4, cells := 0, slots := 0, locals := 91 }
set_option maxHeartbeats 4000000 in
set_option maxRecDepth 100000 in
theorem c_X5_crowd (l : Launch) (dC : Nat → ClassId) (dI : Nat → Nat → Nat) (cyC cyI cyJ : ClassId) (h0 h0_text h0_plan h0_plan_barsOf h0_plan_subjectOf h0_plan_teacherOf h0_plan_seatsOf h0_plan_columnOf h0_plan_columnsWith h0_planDraft h0_roll h0_roll_choicesOf h0_rollDraft h0_wayFinder h0_seating h0_demand h0_told : Nat) (toldCount_ : Int32) (plan_columnCount_ : Int32) (plan_roomCount_ : Int32) (plan_size_ : Int32) (plan_columnsWith_ : Nat → Int32) (roll_size_ : Int32) (roll_kept_ : Int32) (roll_choicesOf_ : Nat → Int32) (told_ : Nat → Int64) (v1 : Int32) (rr : Int32) (o0 : Int32) (o1 : Nat → Int64) (h : m_X5_crowd toldCount_ plan_columnsWith_ roll_size_ roll_choicesOf_ told_ v1 = some (rr, o0, o1)) : uMi l yX5_crowd wsX5_crowd rmX5_crowd (dC, dI) [(cyC, .char), (cyI, .int), (cyJ, .long)] [.ref h0, .int v1] [(h0, .inr (5, [.ref h0_text, .ref h0_plan, .ref h0_planDraft, .ref h0_roll, .ref h0_rollDraft, .ref h0_wayFinder, .ref h0_seating, .ref h0_demand, .ref h0_told, .int toldCount_])), (h0_plan, .inr (0, [.int plan_columnCount_, .int plan_roomCount_, .int plan_size_, .ref h0_plan_barsOf, .ref h0_plan_subjectOf, .ref h0_plan_teacherOf, .ref h0_plan_seatsOf, .ref h0_plan_columnOf, .ref h0_plan_columnsWith])), (h0_plan_columnsWith, .inl (cyI, 10, .inl plan_columnsWith_)), (h0_roll, .inr (1, [.ref h0_roll_choicesOf, .int roll_size_, .int roll_kept_])), (h0_roll_choicesOf, .inl (cyI, 24, .inl roll_choicesOf_)), (h0_told, .inl (cyJ, 6, .inr (.inl told_)))] [(h0, .inr (5, [.ref h0_text, .ref h0_plan, .ref h0_planDraft, .ref h0_roll, .ref h0_rollDraft, .ref h0_wayFinder, .ref h0_seating, .ref h0_demand, .ref h0_told, .int o0])), (h0_plan, .inr (0, [.int plan_columnCount_, .int plan_roomCount_, .int plan_size_, .ref h0_plan_barsOf, .ref h0_plan_subjectOf, .ref h0_plan_teacherOf, .ref h0_plan_seatsOf, .ref h0_plan_columnOf, .ref h0_plan_columnsWith])), (h0_plan_columnsWith, .inl (cyI, 10, .inl plan_columnsWith_)), (h0_roll, .inr (1, [.ref h0_roll_choicesOf, .int roll_size_, .int roll_kept_])), (h0_roll_choicesOf, .inl (cyI, 24, .inl roll_choicesOf_)), (h0_told, .inl (cyJ, 6, .inr (.inl o1)))] rr := by
  refine uMi.of (cc := cX5_crowd) (maxL := 6) (by decide) rfl (Nat.le_of_ble_eq_true rfl) (fun p e s m args below meth c A ls Q hx hb hml hown hts hA hP hK hD hE hS hl hret => ?_)
  have hown : s.vm.findClass RX5 = some m.cls := hown
  have hl : lv_has ls 6 [(0, .ref h0), (1, .int v1)] := hl
  have hiX1 : ∀ w ∈ u_ws RX1 TX1 3, w ∈ wsX5_crowd := fun _ h9 => List.mem_cons_of_mem _ (List.mem_append_left _ (List.mem_append_right _ h9))
  have hiX5 : ∀ w ∈ u_ws RX5 TX5 10, w ∈ wsX5_crowd := fun _ h9 => List.mem_cons_of_mem _ (List.mem_append_left _ (List.mem_append_left _ (List.mem_append_right _ h9)))
  have J108 : ∀ (v3 : Int32), m_X5_crowd_108 toldCount_ plan_columnsWith_ told_ v3 = some (rr, o0, o1) → ∀ (H : Heap) (locs : List Loc) (ls : Array Slot), va_P (dC, dI) vwCl [(h0, .inr (5, [.ref h0_text, .ref h0_plan, .ref h0_planDraft, .ref h0_roll, .ref h0_rollDraft, .ref h0_wayFinder, .ref h0_seating, .ref h0_demand, .ref h0_told, .int toldCount_])), (h0_plan, .inr (0, [.int plan_columnCount_, .int plan_roomCount_, .int plan_size_, .ref h0_plan_barsOf, .ref h0_plan_subjectOf, .ref h0_plan_teacherOf, .ref h0_plan_seatsOf, .ref h0_plan_columnOf, .ref h0_plan_columnsWith])), (h0_plan_columnsWith, .inl (cyI, 10, .inl plan_columnsWith_)), (h0_roll, .inr (1, [.ref h0_roll_choicesOf, .int roll_size_, .int roll_kept_])), (h0_roll_choicesOf, .inl (cyI, 24, .inl roll_choicesOf_)), (h0_told, .inl (cyJ, 6, .inr (.inl told_)))] H → va_D A [(h0, .inr (5, [.ref h0_text, .ref h0_plan, .ref h0_planDraft, .ref h0_roll, .ref h0_rollDraft, .ref h0_wayFinder, .ref h0_seating, .ref h0_demand, .ref h0_told, .int toldCount_])), (h0_plan, .inr (0, [.int plan_columnCount_, .int plan_roomCount_, .int plan_size_, .ref h0_plan_barsOf, .ref h0_plan_subjectOf, .ref h0_plan_teacherOf, .ref h0_plan_seatsOf, .ref h0_plan_columnOf, .ref h0_plan_columnsWith])), (h0_plan_columnsWith, .inl (cyI, 10, .inl plan_columnsWith_)), (h0_roll, .inr (1, [.ref h0_roll_choicesOf, .int roll_size_, .int roll_kept_])), (h0_roll_choicesOf, .inl (cyI, 24, .inl roll_choicesOf_)), (h0_told, .inl (cyJ, 6, .inr (.inl told_)))] → va_S A s.heap H locs → lv_has ls 6 [(0, .ref h0), (3, .int v3)] → W p l e rmX5_crowd s m args below meth c H locs 0 0 Q (F0 m 108 ls []) := by
    intro v3 h H locs ls hP hD hS hl
    unfold m_X5_crowd_108 at h
    refine lv_aload_n hx hb dX5_crowd_108 rfl (lv_at hl 0 rfl) ?_
    refine lv_iload_n hx hb dX5_crowd_109 rfl (lv_at hl 1 rfl) ?_
    obtain ⟨r_1, hq, h⟩ := bd1_some h
    refine uS_i (As := [.int v3]) (rest := [.ref h0]) ⟨hx, hb, hml, hown, hts⟩ (c_J6_bitCount_0f7a4 l dC dI cyC cyI cyJ v3 r_1 hq) (va_cwS 1 hts gX5_crowd_J6_bitCount_0f7a4 rfl rfl rfl (by decide +kernel) ⟨Nat.le_of_ble_eq_true rfl, Nat.le_of_ble_eq_true rfl⟩) hK hE hA hP hD hS [] rfl rfl rfl rfl hl.1 rfl (Nat.le_of_ble_eq_true rfl) ⟨Nat.zero_le _, Nat.zero_le _⟩ dX5_crowd_110 (fun H locs hP hD hS => ?_)
    have hP : va_P (dC, dI) vwCl [(h0, .inr (5, [.ref h0_text, .ref h0_plan, .ref h0_planDraft, .ref h0_roll, .ref h0_rollDraft, .ref h0_wayFinder, .ref h0_seating, .ref h0_demand, .ref h0_told, .int toldCount_])), (h0_plan, .inr (0, [.int plan_columnCount_, .int plan_roomCount_, .int plan_size_, .ref h0_plan_barsOf, .ref h0_plan_subjectOf, .ref h0_plan_teacherOf, .ref h0_plan_seatsOf, .ref h0_plan_columnOf, .ref h0_plan_columnsWith])), (h0_plan_columnsWith, .inl (cyI, 10, .inl plan_columnsWith_)), (h0_roll, .inr (1, [.ref h0_roll_choicesOf, .int roll_size_, .int roll_kept_])), (h0_roll_choicesOf, .inl (cyI, 24, .inl roll_choicesOf_)), (h0_told, .inl (cyJ, 6, .inr (.inl told_)))] H := hP
    have hD : va_D A [(h0, .inr (5, [.ref h0_text, .ref h0_plan, .ref h0_planDraft, .ref h0_roll, .ref h0_rollDraft, .ref h0_wayFinder, .ref h0_seating, .ref h0_demand, .ref h0_told, .int toldCount_])), (h0_plan, .inr (0, [.int plan_columnCount_, .int plan_roomCount_, .int plan_size_, .ref h0_plan_barsOf, .ref h0_plan_subjectOf, .ref h0_plan_teacherOf, .ref h0_plan_seatsOf, .ref h0_plan_columnOf, .ref h0_plan_columnsWith])), (h0_plan_columnsWith, .inl (cyI, 10, .inl plan_columnsWith_)), (h0_roll, .inr (1, [.ref h0_roll_choicesOf, .int roll_size_, .int roll_kept_])), (h0_roll_choicesOf, .inl (cyI, 24, .inl roll_choicesOf_)), (h0_told, .inl (cyJ, 6, .inr (.inl told_)))] := hD
    refine lv_aload_n hx hb dX5_crowd_113 rfl (lv_at hl 0 rfl) ?_
    refine va_get (D := (dC, dI)) (ci := 5) (v := .ref h0_plan) (C := RX5) (T := TX5) (N := 10) hx hb hts hiX5 hown hK hP 0 rfl rfl 1 (by decide) (hts (.fieldLink RX5 19 "OptionLattice" "plan" "LOptionLattice$Plan;") (by decide +kernel)) (fun _ h9 => h9) rfl dX5_crowd_114 ?_
    refine lv_iload_n hx hb dX5_crowd_117 rfl (lv_at hl 1 rfl) ?_
    obtain ⟨r_2, hq, h⟩ := bd1_some h
    refine uV_i (b := h0_plan) (As := [.int v3]) (rest := [.int r_1, .ref h0]) ⟨hx, hb, hml, hown, hts⟩ (c_X0_columnsOfAny l dC dI cyC cyI cyJ h0_plan h0_plan_barsOf h0_plan_subjectOf h0_plan_teacherOf h0_plan_seatsOf h0_plan_columnOf h0_plan_columnsWith plan_columnCount_ plan_roomCount_ plan_size_ plan_columnsWith_ v3 r_2 hq) (cwV 1 hts gX5_crowd_X0_columnsOfAny rfl rfl rfl (by decide +kernel) ⟨Nat.le_of_ble_eq_true rfl, Nat.le_of_ble_eq_true rfl⟩) hK hE hA hP hD hS [1, 2] rfl rfl rfl 0 0 rfl rfl rfl hl.1 rfl (Nat.le_of_ble_eq_true rfl) ⟨Nat.zero_le _, Nat.zero_le _⟩ dX5_crowd_118 (fun H locs hP hD hS => ?_)
    have hP : va_P (dC, dI) vwCl [(h0, .inr (5, [.ref h0_text, .ref h0_plan, .ref h0_planDraft, .ref h0_roll, .ref h0_rollDraft, .ref h0_wayFinder, .ref h0_seating, .ref h0_demand, .ref h0_told, .int toldCount_])), (h0_plan, .inr (0, [.int plan_columnCount_, .int plan_roomCount_, .int plan_size_, .ref h0_plan_barsOf, .ref h0_plan_subjectOf, .ref h0_plan_teacherOf, .ref h0_plan_seatsOf, .ref h0_plan_columnOf, .ref h0_plan_columnsWith])), (h0_plan_columnsWith, .inl (cyI, 10, .inl plan_columnsWith_)), (h0_roll, .inr (1, [.ref h0_roll_choicesOf, .int roll_size_, .int roll_kept_])), (h0_roll_choicesOf, .inl (cyI, 24, .inl roll_choicesOf_)), (h0_told, .inl (cyJ, 6, .inr (.inl told_)))] H := hP
    have hD : va_D A [(h0, .inr (5, [.ref h0_text, .ref h0_plan, .ref h0_planDraft, .ref h0_roll, .ref h0_rollDraft, .ref h0_wayFinder, .ref h0_seating, .ref h0_demand, .ref h0_told, .int toldCount_])), (h0_plan, .inr (0, [.int plan_columnCount_, .int plan_roomCount_, .int plan_size_, .ref h0_plan_barsOf, .ref h0_plan_subjectOf, .ref h0_plan_teacherOf, .ref h0_plan_seatsOf, .ref h0_plan_columnOf, .ref h0_plan_columnsWith])), (h0_plan_columnsWith, .inl (cyI, 10, .inl plan_columnsWith_)), (h0_roll, .inr (1, [.ref h0_roll_choicesOf, .int roll_size_, .int roll_kept_])), (h0_roll_choicesOf, .inl (cyI, 24, .inl roll_choicesOf_)), (h0_told, .inl (cyJ, 6, .inr (.inl told_)))] := hD
    obtain ⟨toldCount_3, told_4, hq, h⟩ := bd2_some h
    refine uV_v (b := h0) (As := [.int r_1, .int r_2]) (rest := []) ⟨hx, hb, hml, hown, hts⟩ (c_X5_tell_ l dC dI cyC cyI cyJ h0 h0_text h0_plan h0_planDraft h0_roll h0_rollDraft h0_wayFinder h0_seating h0_demand h0_told toldCount_ told_ r_1 r_2 toldCount_3 told_4 hq) (cwV 2 hts gX5_crowd_X5_tell_ rfl rfl rfl (by decide +kernel) ⟨Nat.le_of_ble_eq_true rfl, Nat.le_of_ble_eq_true rfl⟩) hK hE hA hP hD hS [0, 5] rfl rfl rfl 5 0 rfl rfl rfl hl.1 rfl (Nat.le_of_ble_eq_true rfl) ⟨Nat.zero_le _, Nat.zero_le _⟩ dX5_crowd_121 (fun H locs hP hD hS => ?_)
    have hP : va_P (dC, dI) vwCl [(h0, .inr (5, [.ref h0_text, .ref h0_plan, .ref h0_planDraft, .ref h0_roll, .ref h0_rollDraft, .ref h0_wayFinder, .ref h0_seating, .ref h0_demand, .ref h0_told, .int toldCount_3])), (h0_plan, .inr (0, [.int plan_columnCount_, .int plan_roomCount_, .int plan_size_, .ref h0_plan_barsOf, .ref h0_plan_subjectOf, .ref h0_plan_teacherOf, .ref h0_plan_seatsOf, .ref h0_plan_columnOf, .ref h0_plan_columnsWith])), (h0_plan_columnsWith, .inl (cyI, 10, .inl plan_columnsWith_)), (h0_roll, .inr (1, [.ref h0_roll_choicesOf, .int roll_size_, .int roll_kept_])), (h0_roll_choicesOf, .inl (cyI, 24, .inl roll_choicesOf_)), (h0_told, .inl (cyJ, 6, .inr (.inl told_4)))] H := hP
    have hD : va_D A [(h0, .inr (5, [.ref h0_text, .ref h0_plan, .ref h0_planDraft, .ref h0_roll, .ref h0_rollDraft, .ref h0_wayFinder, .ref h0_seating, .ref h0_demand, .ref h0_told, .int toldCount_3])), (h0_plan, .inr (0, [.int plan_columnCount_, .int plan_roomCount_, .int plan_size_, .ref h0_plan_barsOf, .ref h0_plan_subjectOf, .ref h0_plan_teacherOf, .ref h0_plan_seatsOf, .ref h0_plan_columnOf, .ref h0_plan_columnsWith])), (h0_plan_columnsWith, .inl (cyI, 10, .inl plan_columnsWith_)), (h0_roll, .inr (1, [.ref h0_roll_choicesOf, .int roll_size_, .int roll_kept_])), (h0_roll_choicesOf, .inl (cyI, 24, .inl roll_choicesOf_)), (h0_told, .inl (cyJ, 6, .inr (.inl told_4)))] := hD
    refine lv_iload_n hx hb dX5_crowd_124 rfl (lv_at hl 1 rfl) ?_
    have h : some (v3, toldCount_3, told_4) = some (rr, o0, o1) := h
    have z0 := Option.some.inj h
    obtain ⟨rfl, z1⟩ := Prod.mk.inj z0
    obtain ⟨rfl, z2⟩ := Prod.mk.inj z1
    obtain rfl := z2
    exact hret _ _ _ _ hP hS rfl dX5_crowd_125
  have L42 : ∀ (v2 : Int32), ∀ (n42 : Nat), ∀ (v3 : Int32), ∀ (v4 : Int32), it2 (m_X5_crowd_42 toldCount_ plan_columnsWith_ told_ v2) n42 v3 v4 = some (rr, o0, o1) → ∀ (H : Heap) (locs : List Loc) (ls : Array Slot), va_P (dC, dI) vwCl [(h0, .inr (5, [.ref h0_text, .ref h0_plan, .ref h0_planDraft, .ref h0_roll, .ref h0_rollDraft, .ref h0_wayFinder, .ref h0_seating, .ref h0_demand, .ref h0_told, .int toldCount_])), (h0_plan, .inr (0, [.int plan_columnCount_, .int plan_roomCount_, .int plan_size_, .ref h0_plan_barsOf, .ref h0_plan_subjectOf, .ref h0_plan_teacherOf, .ref h0_plan_seatsOf, .ref h0_plan_columnOf, .ref h0_plan_columnsWith])), (h0_plan_columnsWith, .inl (cyI, 10, .inl plan_columnsWith_)), (h0_roll, .inr (1, [.ref h0_roll_choicesOf, .int roll_size_, .int roll_kept_])), (h0_roll_choicesOf, .inl (cyI, 24, .inl roll_choicesOf_)), (h0_told, .inl (cyJ, 6, .inr (.inl told_)))] H → va_D A [(h0, .inr (5, [.ref h0_text, .ref h0_plan, .ref h0_planDraft, .ref h0_roll, .ref h0_rollDraft, .ref h0_wayFinder, .ref h0_seating, .ref h0_demand, .ref h0_told, .int toldCount_])), (h0_plan, .inr (0, [.int plan_columnCount_, .int plan_roomCount_, .int plan_size_, .ref h0_plan_barsOf, .ref h0_plan_subjectOf, .ref h0_plan_teacherOf, .ref h0_plan_seatsOf, .ref h0_plan_columnOf, .ref h0_plan_columnsWith])), (h0_plan_columnsWith, .inl (cyI, 10, .inl plan_columnsWith_)), (h0_roll, .inr (1, [.ref h0_roll_choicesOf, .int roll_size_, .int roll_kept_])), (h0_roll_choicesOf, .inl (cyI, 24, .inl roll_choicesOf_)), (h0_told, .inl (cyJ, 6, .inr (.inl told_)))] → va_S A s.heap H locs → lv_has ls 6 [(0, .ref h0), (2, .int v2), (3, .int v3), (4, .int v4)] → W p l e rmX5_crowd s m args below meth c H locs 0 0 Q (F0 m 42 ls []) := by
    intro v2 n42
    induction n42 with
    | zero => intro v3 v4 h; exact absurd h (fun z => it2_z z)
    | succ n42 ih42 =>
      have J71 : ∀ (v3 : Int32), ∀ (v4 : Int32), ∀ (t0 : Int32), m_X5_crowd_71 plan_columnsWith_ v2 v3 v4 t0 (it2 (m_X5_crowd_42 toldCount_ plan_columnsWith_ told_ v2) n42) = some (rr, o0, o1) → ∀ (H : Heap) (locs : List Loc) (ls : Array Slot), va_P (dC, dI) vwCl [(h0, .inr (5, [.ref h0_text, .ref h0_plan, .ref h0_planDraft, .ref h0_roll, .ref h0_rollDraft, .ref h0_wayFinder, .ref h0_seating, .ref h0_demand, .ref h0_told, .int toldCount_])), (h0_plan, .inr (0, [.int plan_columnCount_, .int plan_roomCount_, .int plan_size_, .ref h0_plan_barsOf, .ref h0_plan_subjectOf, .ref h0_plan_teacherOf, .ref h0_plan_seatsOf, .ref h0_plan_columnOf, .ref h0_plan_columnsWith])), (h0_plan_columnsWith, .inl (cyI, 10, .inl plan_columnsWith_)), (h0_roll, .inr (1, [.ref h0_roll_choicesOf, .int roll_size_, .int roll_kept_])), (h0_roll_choicesOf, .inl (cyI, 24, .inl roll_choicesOf_)), (h0_told, .inl (cyJ, 6, .inr (.inl told_)))] H → va_D A [(h0, .inr (5, [.ref h0_text, .ref h0_plan, .ref h0_planDraft, .ref h0_roll, .ref h0_rollDraft, .ref h0_wayFinder, .ref h0_seating, .ref h0_demand, .ref h0_told, .int toldCount_])), (h0_plan, .inr (0, [.int plan_columnCount_, .int plan_roomCount_, .int plan_size_, .ref h0_plan_barsOf, .ref h0_plan_subjectOf, .ref h0_plan_teacherOf, .ref h0_plan_seatsOf, .ref h0_plan_columnOf, .ref h0_plan_columnsWith])), (h0_plan_columnsWith, .inl (cyI, 10, .inl plan_columnsWith_)), (h0_roll, .inr (1, [.ref h0_roll_choicesOf, .int roll_size_, .int roll_kept_])), (h0_roll_choicesOf, .inl (cyI, 24, .inl roll_choicesOf_)), (h0_told, .inl (cyJ, 6, .inr (.inl told_)))] → va_S A s.heap H locs → lv_has ls 6 [(0, .ref h0), (2, .int v2), (3, .int v3), (4, .int v4)] → W p l e rmX5_crowd s m args below meth c H locs 0 0 Q (F0 m 71 ls [.int t0]) := by
        intro v3 v4 t0 h H locs ls hP hD hS hl
        unfold m_X5_crowd_71 at h
        refine lv_istore (lv' := [(5, .int t0), (0, .ref h0), (2, .int v2), (3, .int v3), (4, .int v4)]) hx hb dX5_crowd_71 hl (by decide) rfl (fun ls hl => ?_)
        refine lv_iload hx hb dX5_crowd_73 (lv_at hl 0 rfl) ?_
        refine lv_if_eq (tgt := 102) hx hb dX5_crowd_75 (by decide) (fun c_ => ?_) (fun c_ => ?_)
        · have h := (if_pos c_).symm.trans h
          obtain ⟨v4_5, e_v4_5⟩ : ∃ z : Int32, z = (v4 + 1) := ⟨_, rfl⟩
          have h := lt_use e_v4_5 h
          refine lv_iinc (v := v4_5) (lv' := [(4, .int v4_5), (5, .int t0), (0, .ref h0), (2, .int v2), (3, .int v3)]) hx hb dX5_crowd_102 hl (k := 4) rfl (by rw [e_v4_5]; rfl) (by decide) rfl (fun ls hl => ?_)
          refine lv_goto (tgt := 42) hx hb dX5_crowd_105 (by decide) ?_
          exact ih42 v3 v4_5 h _ _ _ hP hD hS (lv_sub hl [2, 3, 4, 0] rfl)
        · have h := (if_neg c_).symm.trans h
          refine lv_iload hx hb dX5_crowd_78 (lv_at hl 4 rfl) ?_
          refine lv_iload_n hx hb dX5_crowd_80 rfl (lv_at hl 2 rfl) ?_
          refine lv_iconst (v := (-1)) hx hb dX5_crowd_81 (by decide) ?_
          refine lv_ixor hx hb dX5_crowd_82 ?_
          refine lv_iand hx hb dX5_crowd_83 ?_
          refine lv_if_ne (tgt := 102) hx hb dX5_crowd_84 (by decide) (fun c_ => ?_) (fun c_ => ?_)
          · have h := (if_neg c_).symm.trans h
            obtain ⟨v4_6, e_v4_6⟩ : ∃ z : Int32, z = (v4 + 1) := ⟨_, rfl⟩
            have h := lt_use e_v4_6 h
            refine lv_iinc (v := v4_6) (lv' := [(4, .int v4_6), (5, .int t0), (0, .ref h0), (2, .int v2), (3, .int v3)]) hx hb dX5_crowd_102 hl (k := 4) rfl (by rw [e_v4_6]; rfl) (by decide) rfl (fun ls hl => ?_)
            refine lv_goto (tgt := 42) hx hb dX5_crowd_105 (by decide) ?_
            exact ih42 v3 v4_6 h _ _ _ hP hD hS (lv_sub hl [2, 3, 4, 0] rfl)
          · have h := (if_pos c_).symm.trans h
            refine lv_aload_n hx hb dX5_crowd_87 rfl (lv_at hl 1 rfl) ?_
            refine va_get (D := (dC, dI)) (ci := 5) (v := .ref h0_plan) (C := RX5) (T := TX5) (N := 10) hx hb hts hiX5 hown hK hP 0 rfl rfl 1 (by decide) (hts (.fieldLink RX5 19 "OptionLattice" "plan" "LOptionLattice$Plan;") (by decide +kernel)) (fun _ h9 => h9) rfl dX5_crowd_88 ?_
            refine lv_iload hx hb dX5_crowd_91 (lv_at hl 4 rfl) ?_
            obtain ⟨r_7, hq, h⟩ := bd1_some h
            refine uV_i (b := h0_plan) (As := [.int v4]) (rest := []) ⟨hx, hb, hml, hown, hts⟩ (c_X0_isCrowded l dC dI cyC cyI cyJ h0_plan h0_plan_barsOf h0_plan_subjectOf h0_plan_teacherOf h0_plan_seatsOf h0_plan_columnOf h0_plan_columnsWith plan_columnCount_ plan_roomCount_ plan_size_ plan_columnsWith_ v4 r_7 hq) (cwV 1 hts gX5_crowd_X0_isCrowded rfl rfl rfl (by decide +kernel) ⟨Nat.le_of_ble_eq_true rfl, Nat.le_of_ble_eq_true rfl⟩) hK hE hA hP hD hS [1, 2] rfl rfl rfl 0 0 rfl rfl rfl hl.1 rfl (Nat.le_of_ble_eq_true rfl) ⟨Nat.zero_le _, Nat.zero_le _⟩ dX5_crowd_93 (fun H locs hP hD hS => ?_)
            have hP : va_P (dC, dI) vwCl [(h0, .inr (5, [.ref h0_text, .ref h0_plan, .ref h0_planDraft, .ref h0_roll, .ref h0_rollDraft, .ref h0_wayFinder, .ref h0_seating, .ref h0_demand, .ref h0_told, .int toldCount_])), (h0_plan, .inr (0, [.int plan_columnCount_, .int plan_roomCount_, .int plan_size_, .ref h0_plan_barsOf, .ref h0_plan_subjectOf, .ref h0_plan_teacherOf, .ref h0_plan_seatsOf, .ref h0_plan_columnOf, .ref h0_plan_columnsWith])), (h0_plan_columnsWith, .inl (cyI, 10, .inl plan_columnsWith_)), (h0_roll, .inr (1, [.ref h0_roll_choicesOf, .int roll_size_, .int roll_kept_])), (h0_roll_choicesOf, .inl (cyI, 24, .inl roll_choicesOf_)), (h0_told, .inl (cyJ, 6, .inr (.inl told_)))] H := hP
            have hD : va_D A [(h0, .inr (5, [.ref h0_text, .ref h0_plan, .ref h0_planDraft, .ref h0_roll, .ref h0_rollDraft, .ref h0_wayFinder, .ref h0_seating, .ref h0_demand, .ref h0_told, .int toldCount_])), (h0_plan, .inr (0, [.int plan_columnCount_, .int plan_roomCount_, .int plan_size_, .ref h0_plan_barsOf, .ref h0_plan_subjectOf, .ref h0_plan_teacherOf, .ref h0_plan_seatsOf, .ref h0_plan_columnOf, .ref h0_plan_columnsWith])), (h0_plan_columnsWith, .inl (cyI, 10, .inl plan_columnsWith_)), (h0_roll, .inr (1, [.ref h0_roll_choicesOf, .int roll_size_, .int roll_kept_])), (h0_roll_choicesOf, .inl (cyI, 24, .inl roll_choicesOf_)), (h0_told, .inl (cyJ, 6, .inr (.inl told_)))] := hD
            refine lv_if_eq (tgt := 102) hx hb dX5_crowd_96 (by decide) (fun c_ => ?_) (fun c_ => ?_)
            · have h := (if_pos c_).symm.trans h
              obtain ⟨v4_8, e_v4_8⟩ : ∃ z : Int32, z = (v4 + 1) := ⟨_, rfl⟩
              have h := lt_use e_v4_8 h
              refine lv_iinc (v := v4_8) (lv' := [(4, .int v4_8), (5, .int t0), (0, .ref h0), (2, .int v2), (3, .int v3)]) hx hb dX5_crowd_102 hl (k := 4) rfl (by rw [e_v4_8]; rfl) (by decide) rfl (fun ls hl => ?_)
              refine lv_goto (tgt := 42) hx hb dX5_crowd_105 (by decide) ?_
              exact ih42 v3 v4_8 h _ _ _ hP hD hS (lv_sub hl [2, 3, 4, 0] rfl)
            · have h := (if_neg c_).symm.trans h
              refine lv_iload hx hb dX5_crowd_99 (lv_at hl 4 rfl) ?_
              refine lv_istore_n (lv' := [(3, .int v4), (5, .int t0), (0, .ref h0), (2, .int v2), (4, .int v4)]) hx hb dX5_crowd_101 rfl hl (by decide) rfl (fun ls hl => ?_)
              obtain ⟨v4_9, e_v4_9⟩ : ∃ z : Int32, z = (v4 + 1) := ⟨_, rfl⟩
              have h := lt_use e_v4_9 h
              refine lv_iinc (v := v4_9) (lv' := [(4, .int v4_9), (3, .int v4), (5, .int t0), (0, .ref h0), (2, .int v2)]) hx hb dX5_crowd_102 hl (k := 4) rfl (by rw [e_v4_9]; rfl) (by decide) rfl (fun ls hl => ?_)
              refine lv_goto (tgt := 42) hx hb dX5_crowd_105 (by decide) ?_
              exact ih42 v4 v4_9 h _ _ _ hP hD hS (lv_sub hl [3, 4, 1, 0] rfl)
      have J66 : ∀ (v3 : Int32), ∀ (v4 : Int32), m_X5_crowd_66 plan_columnsWith_ v2 v3 v4 (it2 (m_X5_crowd_42 toldCount_ plan_columnsWith_ told_ v2) n42) = some (rr, o0, o1) → ∀ (H : Heap) (locs : List Loc) (ls : Array Slot), va_P (dC, dI) vwCl [(h0, .inr (5, [.ref h0_text, .ref h0_plan, .ref h0_planDraft, .ref h0_roll, .ref h0_rollDraft, .ref h0_wayFinder, .ref h0_seating, .ref h0_demand, .ref h0_told, .int toldCount_])), (h0_plan, .inr (0, [.int plan_columnCount_, .int plan_roomCount_, .int plan_size_, .ref h0_plan_barsOf, .ref h0_plan_subjectOf, .ref h0_plan_teacherOf, .ref h0_plan_seatsOf, .ref h0_plan_columnOf, .ref h0_plan_columnsWith])), (h0_plan_columnsWith, .inl (cyI, 10, .inl plan_columnsWith_)), (h0_roll, .inr (1, [.ref h0_roll_choicesOf, .int roll_size_, .int roll_kept_])), (h0_roll_choicesOf, .inl (cyI, 24, .inl roll_choicesOf_)), (h0_told, .inl (cyJ, 6, .inr (.inl told_)))] H → va_D A [(h0, .inr (5, [.ref h0_text, .ref h0_plan, .ref h0_planDraft, .ref h0_roll, .ref h0_rollDraft, .ref h0_wayFinder, .ref h0_seating, .ref h0_demand, .ref h0_told, .int toldCount_])), (h0_plan, .inr (0, [.int plan_columnCount_, .int plan_roomCount_, .int plan_size_, .ref h0_plan_barsOf, .ref h0_plan_subjectOf, .ref h0_plan_teacherOf, .ref h0_plan_seatsOf, .ref h0_plan_columnOf, .ref h0_plan_columnsWith])), (h0_plan_columnsWith, .inl (cyI, 10, .inl plan_columnsWith_)), (h0_roll, .inr (1, [.ref h0_roll_choicesOf, .int roll_size_, .int roll_kept_])), (h0_roll_choicesOf, .inl (cyI, 24, .inl roll_choicesOf_)), (h0_told, .inl (cyJ, 6, .inr (.inl told_)))] → va_S A s.heap H locs → lv_has ls 6 [(0, .ref h0), (2, .int v2), (3, .int v3), (4, .int v4)] → W p l e rmX5_crowd s m args below meth c H locs 0 0 Q (F0 m 66 ls []) := by
        intro v3 v4 h H locs ls hP hD hS hl
        unfold m_X5_crowd_66 at h
        refine lv_iconst (v := 1) hx hb dX5_crowd_66 (by decide) ?_
        refine lv_goto (tgt := 71) hx hb dX5_crowd_67 (by decide) ?_
        exact J71 v3 v4 1 h _ _ _ hP hD hS (lv_sub hl [0, 1, 2, 3] rfl)
      intro v3 v4 h H locs ls hP hD hS hl
      have h : m_X5_crowd_42 toldCount_ plan_columnsWith_ told_ v2 (it2 (m_X5_crowd_42 toldCount_ plan_columnsWith_ told_ v2) n42) v3 v4 = some (rr, o0, o1) := h
      unfold m_X5_crowd_42 at h
      refine lv_iload hx hb dX5_crowd_42 (lv_at hl 3 rfl) ?_
      refine lv_sipush (v := 1023) hx hb dX5_crowd_44 (by decide) ?_
      refine lv_icmp_gt (tgt := 108) hx hb dX5_crowd_47 (by decide) (fun c_ => ?_) (fun c_ => ?_)
      · have h := (if_pos c_).symm.trans h
        exact J108 v3 h _ _ _ hP hD hS (lv_sub hl [0, 2] rfl)
      · have h := (if_neg c_).symm.trans h
        refine lv_iload_n hx hb dX5_crowd_50 rfl (lv_at hl 2 rfl) ?_
        refine lv_if_eq (tgt := 66) hx hb dX5_crowd_51 (by decide) (fun c_ => ?_) (fun c_ => ?_)
        · have h := (if_pos c_).symm.trans h
          exact J66 v3 v4 h _ _ _ hP hD hS (lv_sub hl [0, 1, 2, 3] rfl)
        · have h := (if_neg c_).symm.trans h
          refine lv_iload hx hb dX5_crowd_54 (lv_at hl 3 rfl) ?_
          obtain ⟨r_10, hq, h⟩ := bd1_some h
          refine uS_i (As := [.int v4]) (rest := []) ⟨hx, hb, hml, hown, hts⟩ (c_J6_bitCount_0f7a4 l dC dI cyC cyI cyJ v4 r_10 hq) (va_cwS 1 hts gX5_crowd_J6_bitCount_0f7a4 rfl rfl rfl (by decide +kernel) ⟨Nat.le_of_ble_eq_true rfl, Nat.le_of_ble_eq_true rfl⟩) hK hE hA hP hD hS [] rfl rfl rfl rfl hl.1 rfl (Nat.le_of_ble_eq_true rfl) ⟨Nat.zero_le _, Nat.zero_le _⟩ dX5_crowd_56 (fun H locs hP hD hS => ?_)
          have hP : va_P (dC, dI) vwCl [(h0, .inr (5, [.ref h0_text, .ref h0_plan, .ref h0_planDraft, .ref h0_roll, .ref h0_rollDraft, .ref h0_wayFinder, .ref h0_seating, .ref h0_demand, .ref h0_told, .int toldCount_])), (h0_plan, .inr (0, [.int plan_columnCount_, .int plan_roomCount_, .int plan_size_, .ref h0_plan_barsOf, .ref h0_plan_subjectOf, .ref h0_plan_teacherOf, .ref h0_plan_seatsOf, .ref h0_plan_columnOf, .ref h0_plan_columnsWith])), (h0_plan_columnsWith, .inl (cyI, 10, .inl plan_columnsWith_)), (h0_roll, .inr (1, [.ref h0_roll_choicesOf, .int roll_size_, .int roll_kept_])), (h0_roll_choicesOf, .inl (cyI, 24, .inl roll_choicesOf_)), (h0_told, .inl (cyJ, 6, .inr (.inl told_)))] H := hP
          have hD : va_D A [(h0, .inr (5, [.ref h0_text, .ref h0_plan, .ref h0_planDraft, .ref h0_roll, .ref h0_rollDraft, .ref h0_wayFinder, .ref h0_seating, .ref h0_demand, .ref h0_told, .int toldCount_])), (h0_plan, .inr (0, [.int plan_columnCount_, .int plan_roomCount_, .int plan_size_, .ref h0_plan_barsOf, .ref h0_plan_subjectOf, .ref h0_plan_teacherOf, .ref h0_plan_seatsOf, .ref h0_plan_columnOf, .ref h0_plan_columnsWith])), (h0_plan_columnsWith, .inl (cyI, 10, .inl plan_columnsWith_)), (h0_roll, .inr (1, [.ref h0_roll_choicesOf, .int roll_size_, .int roll_kept_])), (h0_roll_choicesOf, .inl (cyI, 24, .inl roll_choicesOf_)), (h0_told, .inl (cyJ, 6, .inr (.inl told_)))] := hD
          refine lv_iload_n hx hb dX5_crowd_59 rfl (lv_at hl 2 rfl) ?_
          obtain ⟨r_11, hq, h⟩ := bd1_some h
          refine uS_i (As := [.int v3]) (rest := [.int r_10]) ⟨hx, hb, hml, hown, hts⟩ (c_J6_bitCount_0f7a4 l dC dI cyC cyI cyJ v3 r_11 hq) (va_cwS 1 hts gX5_crowd_J6_bitCount_0f7a4 rfl rfl rfl (by decide +kernel) ⟨Nat.le_of_ble_eq_true rfl, Nat.le_of_ble_eq_true rfl⟩) hK hE hA hP hD hS [] rfl rfl rfl rfl hl.1 rfl (Nat.le_of_ble_eq_true rfl) ⟨Nat.zero_le _, Nat.zero_le _⟩ dX5_crowd_60 (fun H locs hP hD hS => ?_)
          have hP : va_P (dC, dI) vwCl [(h0, .inr (5, [.ref h0_text, .ref h0_plan, .ref h0_planDraft, .ref h0_roll, .ref h0_rollDraft, .ref h0_wayFinder, .ref h0_seating, .ref h0_demand, .ref h0_told, .int toldCount_])), (h0_plan, .inr (0, [.int plan_columnCount_, .int plan_roomCount_, .int plan_size_, .ref h0_plan_barsOf, .ref h0_plan_subjectOf, .ref h0_plan_teacherOf, .ref h0_plan_seatsOf, .ref h0_plan_columnOf, .ref h0_plan_columnsWith])), (h0_plan_columnsWith, .inl (cyI, 10, .inl plan_columnsWith_)), (h0_roll, .inr (1, [.ref h0_roll_choicesOf, .int roll_size_, .int roll_kept_])), (h0_roll_choicesOf, .inl (cyI, 24, .inl roll_choicesOf_)), (h0_told, .inl (cyJ, 6, .inr (.inl told_)))] H := hP
          have hD : va_D A [(h0, .inr (5, [.ref h0_text, .ref h0_plan, .ref h0_planDraft, .ref h0_roll, .ref h0_rollDraft, .ref h0_wayFinder, .ref h0_seating, .ref h0_demand, .ref h0_told, .int toldCount_])), (h0_plan, .inr (0, [.int plan_columnCount_, .int plan_roomCount_, .int plan_size_, .ref h0_plan_barsOf, .ref h0_plan_subjectOf, .ref h0_plan_teacherOf, .ref h0_plan_seatsOf, .ref h0_plan_columnOf, .ref h0_plan_columnsWith])), (h0_plan_columnsWith, .inl (cyI, 10, .inl plan_columnsWith_)), (h0_roll, .inr (1, [.ref h0_roll_choicesOf, .int roll_size_, .int roll_kept_])), (h0_roll_choicesOf, .inl (cyI, 24, .inl roll_choicesOf_)), (h0_told, .inl (cyJ, 6, .inr (.inl told_)))] := hD
          refine lv_icmp_ge (tgt := 70) hx hb dX5_crowd_63 (by decide) (fun c_ => ?_) (fun c_ => ?_)
          · have h := (if_pos c_).symm.trans h
            refine lv_iconst (v := 0) hx hb dX5_crowd_70 (by decide) ?_
            exact J71 v3 v4 0 h _ _ _ hP hD hS (lv_sub hl [0, 1, 2, 3] rfl)
          · have h := (if_neg c_).symm.trans h
            exact J66 v3 v4 h _ _ _ hP hD hS (lv_sub hl [0, 1, 2, 3] rfl)
  unfold m_X5_crowd at h
  refine lv_aload_n hx hb dX5_crowd_0 rfl (lv_at hl 0 rfl) ?_
  refine va_get (D := (dC, dI)) (ci := 5) (v := .ref h0_roll) (C := RX5) (T := TX5) (N := 10) hx hb hts hiX5 hown hK hP 0 rfl rfl 3 (by decide) (hts (.fieldLink RX5 29 "OptionLattice" "roll" "LOptionLattice$Roll;") (by decide +kernel)) (fun _ h9 => h9) rfl dX5_crowd_1 ?_
  refine lv_iload_n hx hb dX5_crowd_4 rfl (lv_at hl 1 rfl) ?_
  obtain ⟨r_12, hq, h⟩ := bd1_some h
  refine uV_i (b := h0_roll) (As := [.int v1]) (rest := []) ⟨hx, hb, hml, hown, hts⟩ (c_X1_has l dC dI cyC cyI cyJ h0_roll h0_roll_choicesOf roll_size_ roll_kept_ v1 r_12 hq) (cwV 1 hts gX5_crowd_X1_has rfl rfl rfl (by decide +kernel) ⟨Nat.le_of_ble_eq_true rfl, Nat.le_of_ble_eq_true rfl⟩) hK hE hA hP hD hS [3] rfl rfl rfl 1 0 rfl rfl rfl hl.1 rfl (Nat.le_of_ble_eq_true rfl) ⟨Nat.zero_le _, Nat.zero_le _⟩ dX5_crowd_5 (fun H locs hP hD hS => ?_)
  have hP : va_P (dC, dI) vwCl [(h0, .inr (5, [.ref h0_text, .ref h0_plan, .ref h0_planDraft, .ref h0_roll, .ref h0_rollDraft, .ref h0_wayFinder, .ref h0_seating, .ref h0_demand, .ref h0_told, .int toldCount_])), (h0_plan, .inr (0, [.int plan_columnCount_, .int plan_roomCount_, .int plan_size_, .ref h0_plan_barsOf, .ref h0_plan_subjectOf, .ref h0_plan_teacherOf, .ref h0_plan_seatsOf, .ref h0_plan_columnOf, .ref h0_plan_columnsWith])), (h0_plan_columnsWith, .inl (cyI, 10, .inl plan_columnsWith_)), (h0_roll, .inr (1, [.ref h0_roll_choicesOf, .int roll_size_, .int roll_kept_])), (h0_roll_choicesOf, .inl (cyI, 24, .inl roll_choicesOf_)), (h0_told, .inl (cyJ, 6, .inr (.inl told_)))] H := hP
  have hD : va_D A [(h0, .inr (5, [.ref h0_text, .ref h0_plan, .ref h0_planDraft, .ref h0_roll, .ref h0_rollDraft, .ref h0_wayFinder, .ref h0_seating, .ref h0_demand, .ref h0_told, .int toldCount_])), (h0_plan, .inr (0, [.int plan_columnCount_, .int plan_roomCount_, .int plan_size_, .ref h0_plan_barsOf, .ref h0_plan_subjectOf, .ref h0_plan_teacherOf, .ref h0_plan_seatsOf, .ref h0_plan_columnOf, .ref h0_plan_columnsWith])), (h0_plan_columnsWith, .inl (cyI, 10, .inl plan_columnsWith_)), (h0_roll, .inr (1, [.ref h0_roll_choicesOf, .int roll_size_, .int roll_kept_])), (h0_roll_choicesOf, .inl (cyI, 24, .inl roll_choicesOf_)), (h0_told, .inl (cyJ, 6, .inr (.inl told_)))] := hD
  refine lv_if_ne (tgt := 13) hx hb dX5_crowd_8 (by decide) (fun c_ => ?_) (fun c_ => ?_)
  · have h := (if_neg c_).symm.trans h
    refine lv_aload_n hx hb dX5_crowd_13 rfl (lv_at hl 0 rfl) ?_
    refine va_get (D := (dC, dI)) (ci := 5) (v := .ref h0_roll) (C := RX5) (T := TX5) (N := 10) hx hb hts hiX5 hown hK hP 0 rfl rfl 3 (by decide) (hts (.fieldLink RX5 29 "OptionLattice" "roll" "LOptionLattice$Roll;") (by decide +kernel)) (fun _ h9 => h9) rfl dX5_crowd_14 ?_
    refine va_getN (host := "OptionLattice") (D := (dC, dI)) (ci := 1) (v := .ref h0_roll_choicesOf) (C := RX1) (T := TX1) (N := 3) hx hb hts hiX1 hown hK hP 3 rfl rfl 0 (by decide) (va_Nw.use rfl (hE.1 ("OptionLattice", 168, "OptionLattice$Roll", "choicesOf", "[I") (List.mem_of_getElem? (i := 17) rfl))) (fun _ h9 => h9) rfl dX5_crowd_17 ?_
    refine lv_iload_n hx hb dX5_crowd_20 rfl (lv_at hl 1 rfl) ?_
    obtain ⟨g_, h⟩ := gd_some h
    refine va_iald hx hb hK hP 4 1 rfl rfl (inb_in g_) dX5_crowd_21 ?_
    refine lv_topi (fun v2_13 e_v2_13 => ?_)
    have h := lt_use e_v2_13 h
    refine lv_istore_n (lv' := [(2, .int v2_13), (0, .ref h0), (1, .int v1)]) hx hb dX5_crowd_22 rfl hl (by decide) rfl (fun ls hl => ?_)
    refine lv_aload_n hx hb dX5_crowd_23 rfl (lv_at hl 1 rfl) ?_
    refine va_get (D := (dC, dI)) (ci := 5) (v := .ref h0_plan) (C := RX5) (T := TX5) (N := 10) hx hb hts hiX5 hown hK hP 0 rfl rfl 1 (by decide) (hts (.fieldLink RX5 19 "OptionLattice" "plan" "LOptionLattice$Plan;") (by decide +kernel)) (fun _ h9 => h9) rfl dX5_crowd_24 ?_
    refine lv_iload_n hx hb dX5_crowd_27 rfl (lv_at hl 0 rfl) ?_
    obtain ⟨r_14, hq, h⟩ := bd1_some h
    refine uV_i (b := h0_plan) (As := [.int v2_13]) (rest := []) ⟨hx, hb, hml, hown, hts⟩ (c_X0_hasWay l dC dI cyC cyI cyJ h0_plan h0_plan_barsOf h0_plan_subjectOf h0_plan_teacherOf h0_plan_seatsOf h0_plan_columnOf h0_plan_columnsWith plan_columnCount_ plan_roomCount_ plan_size_ plan_columnsWith_ v2_13 r_14 hq) (cwV 1 hts gX5_crowd_X0_hasWay rfl rfl rfl (by decide +kernel) ⟨Nat.le_of_ble_eq_true rfl, Nat.le_of_ble_eq_true rfl⟩) hK hE hA hP hD hS [1, 2] rfl rfl rfl 0 0 rfl rfl rfl hl.1 rfl (Nat.le_of_ble_eq_true rfl) ⟨Nat.zero_le _, Nat.zero_le _⟩ dX5_crowd_28 (fun H locs hP hD hS => ?_)
    have hP : va_P (dC, dI) vwCl [(h0, .inr (5, [.ref h0_text, .ref h0_plan, .ref h0_planDraft, .ref h0_roll, .ref h0_rollDraft, .ref h0_wayFinder, .ref h0_seating, .ref h0_demand, .ref h0_told, .int toldCount_])), (h0_plan, .inr (0, [.int plan_columnCount_, .int plan_roomCount_, .int plan_size_, .ref h0_plan_barsOf, .ref h0_plan_subjectOf, .ref h0_plan_teacherOf, .ref h0_plan_seatsOf, .ref h0_plan_columnOf, .ref h0_plan_columnsWith])), (h0_plan_columnsWith, .inl (cyI, 10, .inl plan_columnsWith_)), (h0_roll, .inr (1, [.ref h0_roll_choicesOf, .int roll_size_, .int roll_kept_])), (h0_roll_choicesOf, .inl (cyI, 24, .inl roll_choicesOf_)), (h0_told, .inl (cyJ, 6, .inr (.inl told_)))] H := hP
    have hD : va_D A [(h0, .inr (5, [.ref h0_text, .ref h0_plan, .ref h0_planDraft, .ref h0_roll, .ref h0_rollDraft, .ref h0_wayFinder, .ref h0_seating, .ref h0_demand, .ref h0_told, .int toldCount_])), (h0_plan, .inr (0, [.int plan_columnCount_, .int plan_roomCount_, .int plan_size_, .ref h0_plan_barsOf, .ref h0_plan_subjectOf, .ref h0_plan_teacherOf, .ref h0_plan_seatsOf, .ref h0_plan_columnOf, .ref h0_plan_columnsWith])), (h0_plan_columnsWith, .inl (cyI, 10, .inl plan_columnsWith_)), (h0_roll, .inr (1, [.ref h0_roll_choicesOf, .int roll_size_, .int roll_kept_])), (h0_roll_choicesOf, .inl (cyI, 24, .inl roll_choicesOf_)), (h0_told, .inl (cyJ, 6, .inr (.inl told_)))] := hD
    refine lv_if_eq (tgt := 37) hx hb dX5_crowd_31 (by decide) (fun c_ => ?_) (fun c_ => ?_)
    · have h := (if_pos c_).symm.trans h
      refine lv_iconst (v := 0) hx hb dX5_crowd_37 (by decide) ?_
      refine lv_istore_n (lv' := [(3, .int 0), (2, .int v2_13), (0, .ref h0), (1, .int v1)]) hx hb dX5_crowd_38 rfl hl (by decide) rfl (fun ls hl => ?_)
      refine lv_iconst (v := 1) hx hb dX5_crowd_39 (by decide) ?_
      refine lv_istore (lv' := [(4, .int 1), (3, .int 0), (2, .int v2_13), (0, .ref h0), (1, .int v1)]) hx hb dX5_crowd_40 hl (by decide) rfl (fun ls hl => ?_)
      exact L42 v2_13 1100 0 1 h _ _ _ hP hD hS (lv_sub hl [3, 2, 1, 0] rfl)
    · have h := (if_neg c_).symm.trans h
      refine lv_bipush (v := (-2)) hx hb dX5_crowd_34 (by decide) ?_
      have h : some ((-2), toldCount_, told_) = some (rr, o0, o1) := h
      have z0 := Option.some.inj h
      obtain ⟨rfl, z1⟩ := Prod.mk.inj z0
      obtain ⟨rfl, z2⟩ := Prod.mk.inj z1
      obtain rfl := z2
      exact hret _ _ _ _ hP hS rfl dX5_crowd_36
  · have h := (if_pos c_).symm.trans h
    refine lv_iconst (v := (-1)) hx hb dX5_crowd_11 (by decide) ?_
    have h : some ((-1), toldCount_, told_) = some (rr, o0, o1) := h
    have z0 := Option.some.inj h
    obtain ⟨rfl, z1⟩ := Prod.mk.inj z0
    obtain ⟨rfl, z2⟩ := Prod.mk.inj z1
    obtain rfl := z2
    exact hret _ _ _ _ hP hS rfl dX5_crowd_12

def m_X5_sets_77 (toldCount_ : Int32) (told_ : Nat → Int64) (v2 : Int32) (v3 : Int32) (v4 : Int32) : Option (Int32 × Int32 × (Nat → Int64)) :=
  bd2 (m_X5_tell_ toldCount_ told_ v2 v4) (fun toldCount_1 told_2 => some (v3, toldCount_1, told_2))
def m_X5_sets_23 (toldCount_ : Int32) (plan_columnsWith_ : Nat → Int32) (told_ : Nat → Int64) (v1 : Int32) (rec23 : Int32 → Int32 → Int32 → Int32 → Option (Int32 × Int32 × (Nat → Int64))) : Int32 → Int32 → Int32 → Int32 → Option (Int32 × Int32 × (Nat → Int64)) := fun v2 v3 v4 v5 =>
  (if 1023 < v5 then m_X5_sets_77 toldCount_ told_ v2 v3 v4 else bd1 (m_J6_bitCount_0f7a4 v5) (fun r_3 => (if r_3 = v1 then lt' (v2 + 1) (fun v2_5 => bd1 (m_X0_hasWay plan_columnsWith_ v5) (fun r_6 => (if r_6 = 0 then (if v4 = (-1) then lt' (v5 + 1) (fun v5_8 => rec23 v2_5 v3 v5 v5_8) else lt' (v5 + 1) (fun v5_7 => rec23 v2_5 v3 v4 v5_7)) else lt' (v3 + 1) (fun v3_9 => lt' (v5 + 1) (fun v5_10 => rec23 v2_5 v3_9 v4 v5_10))))) else lt' (v5 + 1) (fun v5_4 => rec23 v2 v3 v4 v5_4))))
def m_X5_sets (toldCount_ : Int32) (plan_columnsWith_ : Nat → Int32) (told_ : Nat → Int64) (v1 : Int32) : Option (Int32 × Int32 × (Nat → Int64)) :=
  (if v1 < 1 then some ((-1), toldCount_, told_) else (if v1 ≤ 6 then it4 (m_X5_sets_23 toldCount_ plan_columnsWith_ told_ v1) 1100 0 0 (-1) 1 else some ((-1), toldCount_, told_)))
abbrev rmX5_sets : Room := { frames := 4, cells := 0, slots := 0, locals := 91 }
set_option maxHeartbeats 4000000 in
set_option maxRecDepth 100000 in
theorem c_X5_sets (l : Launch) (dC : Nat → ClassId) (dI : Nat → Nat → Nat) (cyC cyI cyJ : ClassId) (h0 h0_text h0_plan h0_plan_barsOf h0_plan_subjectOf h0_plan_teacherOf h0_plan_seatsOf h0_plan_columnOf h0_plan_columnsWith h0_planDraft h0_roll h0_rollDraft h0_wayFinder h0_seating h0_demand h0_told : Nat) (toldCount_ : Int32) (plan_columnCount_ : Int32) (plan_roomCount_ : Int32) (plan_size_ : Int32) (plan_columnsWith_ : Nat → Int32) (told_ : Nat → Int64) (v1 : Int32) (rr : Int32) (o0 : Int32) (o1 : Nat → Int64) (h : m_X5_sets toldCount_ plan_columnsWith_ told_ v1 = some (rr, o0, o1)) : uMi l yX5_sets wsX5_sets rmX5_sets (dC, dI) [(cyC, .char), (cyI, .int), (cyJ, .long)] [.ref h0, .int v1] [(h0, .inr (5, [.ref h0_text, .ref h0_plan, .ref h0_planDraft, .ref h0_roll, .ref h0_rollDraft, .ref h0_wayFinder, .ref h0_seating, .ref h0_demand, .ref h0_told, .int toldCount_])), (h0_plan, .inr (0, [.int plan_columnCount_, .int plan_roomCount_, .int plan_size_, .ref h0_plan_barsOf, .ref h0_plan_subjectOf, .ref h0_plan_teacherOf, .ref h0_plan_seatsOf, .ref h0_plan_columnOf, .ref h0_plan_columnsWith])), (h0_plan_columnsWith, .inl (cyI, 10, .inl plan_columnsWith_)), (h0_told, .inl (cyJ, 6, .inr (.inl told_)))] [(h0, .inr (5, [.ref h0_text, .ref h0_plan, .ref h0_planDraft, .ref h0_roll, .ref h0_rollDraft, .ref h0_wayFinder, .ref h0_seating, .ref h0_demand, .ref h0_told, .int o0])), (h0_plan, .inr (0, [.int plan_columnCount_, .int plan_roomCount_, .int plan_size_, .ref h0_plan_barsOf, .ref h0_plan_subjectOf, .ref h0_plan_teacherOf, .ref h0_plan_seatsOf, .ref h0_plan_columnOf, .ref h0_plan_columnsWith])), (h0_plan_columnsWith, .inl (cyI, 10, .inl plan_columnsWith_)), (h0_told, .inl (cyJ, 6, .inr (.inl o1)))] rr := by
  refine uMi.of (cc := cX5_sets) (maxL := 6) (by decide) rfl (Nat.le_of_ble_eq_true rfl) (fun p e s m args below meth c A ls Q hx hb hml hown hts hA hP hK hD hE hS hl hret => ?_)
  have hown : s.vm.findClass RX5 = some m.cls := hown
  have hl : lv_has ls 6 [(0, .ref h0), (1, .int v1)] := hl
  have hiX5 : ∀ w ∈ u_ws RX5 TX5 10, w ∈ wsX5_sets := fun _ h9 => List.mem_cons_of_mem _ (List.mem_append_left _ (List.mem_append_right _ h9))
  have J77 : ∀ (v2 : Int32), ∀ (v3 : Int32), ∀ (v4 : Int32), m_X5_sets_77 toldCount_ told_ v2 v3 v4 = some (rr, o0, o1) → ∀ (H : Heap) (locs : List Loc) (ls : Array Slot), va_P (dC, dI) vwCl [(h0, .inr (5, [.ref h0_text, .ref h0_plan, .ref h0_planDraft, .ref h0_roll, .ref h0_rollDraft, .ref h0_wayFinder, .ref h0_seating, .ref h0_demand, .ref h0_told, .int toldCount_])), (h0_plan, .inr (0, [.int plan_columnCount_, .int plan_roomCount_, .int plan_size_, .ref h0_plan_barsOf, .ref h0_plan_subjectOf, .ref h0_plan_teacherOf, .ref h0_plan_seatsOf, .ref h0_plan_columnOf, .ref h0_plan_columnsWith])), (h0_plan_columnsWith, .inl (cyI, 10, .inl plan_columnsWith_)), (h0_told, .inl (cyJ, 6, .inr (.inl told_)))] H → va_D A [(h0, .inr (5, [.ref h0_text, .ref h0_plan, .ref h0_planDraft, .ref h0_roll, .ref h0_rollDraft, .ref h0_wayFinder, .ref h0_seating, .ref h0_demand, .ref h0_told, .int toldCount_])), (h0_plan, .inr (0, [.int plan_columnCount_, .int plan_roomCount_, .int plan_size_, .ref h0_plan_barsOf, .ref h0_plan_subjectOf, .ref h0_plan_teacherOf, .ref h0_plan_seatsOf, .ref h0_plan_columnOf, .ref h0_plan_columnsWith])), (h0_plan_columnsWith, .inl (cyI, 10, .inl plan_columnsWith_)), (h0_told, .inl (cyJ, 6, .inr (.inl told_)))] → va_S A s.heap H locs → lv_has ls 6 [(0, .ref h0), (2, .int v2), (3, .int v3), (4, .int v4)] → W p l e rmX5_sets s m args below meth c H locs 0 0 Q (F0 m 77 ls []) := by
    intro v2 v3 v4 h H locs ls hP hD hS hl
    unfold m_X5_sets_77 at h
    refine lv_aload_n hx hb dX5_sets_77 rfl (lv_at hl 0 rfl) ?_
    refine lv_iload_n hx hb dX5_sets_78 rfl (lv_at hl 1 rfl) ?_
    refine lv_iload hx hb dX5_sets_79 (lv_at hl 3 rfl) ?_
    obtain ⟨toldCount_1, told_2, hq, h⟩ := bd2_some h
    refine uV_v (b := h0) (As := [.int v2, .int v4]) (rest := []) ⟨hx, hb, hml, hown, hts⟩ (c_X5_tell_ l dC dI cyC cyI cyJ h0 h0_text h0_plan h0_planDraft h0_roll h0_rollDraft h0_wayFinder h0_seating h0_demand h0_told toldCount_ told_ v2 v4 toldCount_1 told_2 hq) (cwV 2 hts gX5_sets_X5_tell_ rfl rfl rfl (by decide +kernel) ⟨Nat.le_of_ble_eq_true rfl, Nat.le_of_ble_eq_true rfl⟩) hK hE hA hP hD hS [0, 3] rfl rfl rfl 5 0 rfl rfl rfl hl.1 rfl (Nat.le_of_ble_eq_true rfl) ⟨Nat.zero_le _, Nat.zero_le _⟩ dX5_sets_81 (fun H locs hP hD hS => ?_)
    have hP : va_P (dC, dI) vwCl [(h0, .inr (5, [.ref h0_text, .ref h0_plan, .ref h0_planDraft, .ref h0_roll, .ref h0_rollDraft, .ref h0_wayFinder, .ref h0_seating, .ref h0_demand, .ref h0_told, .int toldCount_1])), (h0_plan, .inr (0, [.int plan_columnCount_, .int plan_roomCount_, .int plan_size_, .ref h0_plan_barsOf, .ref h0_plan_subjectOf, .ref h0_plan_teacherOf, .ref h0_plan_seatsOf, .ref h0_plan_columnOf, .ref h0_plan_columnsWith])), (h0_plan_columnsWith, .inl (cyI, 10, .inl plan_columnsWith_)), (h0_told, .inl (cyJ, 6, .inr (.inl told_2)))] H := hP
    have hD : va_D A [(h0, .inr (5, [.ref h0_text, .ref h0_plan, .ref h0_planDraft, .ref h0_roll, .ref h0_rollDraft, .ref h0_wayFinder, .ref h0_seating, .ref h0_demand, .ref h0_told, .int toldCount_1])), (h0_plan, .inr (0, [.int plan_columnCount_, .int plan_roomCount_, .int plan_size_, .ref h0_plan_barsOf, .ref h0_plan_subjectOf, .ref h0_plan_teacherOf, .ref h0_plan_seatsOf, .ref h0_plan_columnOf, .ref h0_plan_columnsWith])), (h0_plan_columnsWith, .inl (cyI, 10, .inl plan_columnsWith_)), (h0_told, .inl (cyJ, 6, .inr (.inl told_2)))] := hD
    refine lv_iload_n hx hb dX5_sets_84 rfl (lv_at hl 2 rfl) ?_
    have h : some (v3, toldCount_1, told_2) = some (rr, o0, o1) := h
    have z0 := Option.some.inj h
    obtain ⟨rfl, z1⟩ := Prod.mk.inj z0
    obtain ⟨rfl, z2⟩ := Prod.mk.inj z1
    obtain rfl := z2
    exact hret _ _ _ _ hP hS rfl dX5_sets_85
  have L23 : ∀ (n23 : Nat), ∀ (v2 : Int32), ∀ (v3 : Int32), ∀ (v4 : Int32), ∀ (v5 : Int32), it4 (m_X5_sets_23 toldCount_ plan_columnsWith_ told_ v1) n23 v2 v3 v4 v5 = some (rr, o0, o1) → ∀ (H : Heap) (locs : List Loc) (ls : Array Slot), va_P (dC, dI) vwCl [(h0, .inr (5, [.ref h0_text, .ref h0_plan, .ref h0_planDraft, .ref h0_roll, .ref h0_rollDraft, .ref h0_wayFinder, .ref h0_seating, .ref h0_demand, .ref h0_told, .int toldCount_])), (h0_plan, .inr (0, [.int plan_columnCount_, .int plan_roomCount_, .int plan_size_, .ref h0_plan_barsOf, .ref h0_plan_subjectOf, .ref h0_plan_teacherOf, .ref h0_plan_seatsOf, .ref h0_plan_columnOf, .ref h0_plan_columnsWith])), (h0_plan_columnsWith, .inl (cyI, 10, .inl plan_columnsWith_)), (h0_told, .inl (cyJ, 6, .inr (.inl told_)))] H → va_D A [(h0, .inr (5, [.ref h0_text, .ref h0_plan, .ref h0_planDraft, .ref h0_roll, .ref h0_rollDraft, .ref h0_wayFinder, .ref h0_seating, .ref h0_demand, .ref h0_told, .int toldCount_])), (h0_plan, .inr (0, [.int plan_columnCount_, .int plan_roomCount_, .int plan_size_, .ref h0_plan_barsOf, .ref h0_plan_subjectOf, .ref h0_plan_teacherOf, .ref h0_plan_seatsOf, .ref h0_plan_columnOf, .ref h0_plan_columnsWith])), (h0_plan_columnsWith, .inl (cyI, 10, .inl plan_columnsWith_)), (h0_told, .inl (cyJ, 6, .inr (.inl told_)))] → va_S A s.heap H locs → lv_has ls 6 [(0, .ref h0), (1, .int v1), (2, .int v2), (3, .int v3), (4, .int v4), (5, .int v5)] → W p l e rmX5_sets s m args below meth c H locs 0 0 Q (F0 m 23 ls []) := by
    intro n23
    induction n23 with
    | zero => intro v2 v3 v4 v5 h; exact absurd h (fun z => it4_z z)
    | succ n23 ih23 =>
      intro v2 v3 v4 v5 h H locs ls hP hD hS hl
      have h : m_X5_sets_23 toldCount_ plan_columnsWith_ told_ v1 (it4 (m_X5_sets_23 toldCount_ plan_columnsWith_ told_ v1) n23) v2 v3 v4 v5 = some (rr, o0, o1) := h
      unfold m_X5_sets_23 at h
      refine lv_iload hx hb dX5_sets_23 (lv_at hl 5 rfl) ?_
      refine lv_sipush (v := 1023) hx hb dX5_sets_25 (by decide) ?_
      refine lv_icmp_gt (tgt := 77) hx hb dX5_sets_28 (by decide) (fun c_ => ?_) (fun c_ => ?_)
      · have h := (if_pos c_).symm.trans h
        exact J77 v2 v3 v4 h _ _ _ hP hD hS (lv_sub hl [0, 2, 3, 4] rfl)
      · have h := (if_neg c_).symm.trans h
        refine lv_iload hx hb dX5_sets_31 (lv_at hl 5 rfl) ?_
        obtain ⟨r_3, hq, h⟩ := bd1_some h
        refine uS_i (As := [.int v5]) (rest := []) ⟨hx, hb, hml, hown, hts⟩ (c_J6_bitCount_0f7a4 l dC dI cyC cyI cyJ v5 r_3 hq) (va_cwS 1 hts gX5_sets_J6_bitCount_0f7a4 rfl rfl rfl (by decide +kernel) ⟨Nat.le_of_ble_eq_true rfl, Nat.le_of_ble_eq_true rfl⟩) hK hE hA hP hD hS [] rfl rfl rfl rfl hl.1 rfl (Nat.le_of_ble_eq_true rfl) ⟨Nat.zero_le _, Nat.zero_le _⟩ dX5_sets_33 (fun H locs hP hD hS => ?_)
        have hP : va_P (dC, dI) vwCl [(h0, .inr (5, [.ref h0_text, .ref h0_plan, .ref h0_planDraft, .ref h0_roll, .ref h0_rollDraft, .ref h0_wayFinder, .ref h0_seating, .ref h0_demand, .ref h0_told, .int toldCount_])), (h0_plan, .inr (0, [.int plan_columnCount_, .int plan_roomCount_, .int plan_size_, .ref h0_plan_barsOf, .ref h0_plan_subjectOf, .ref h0_plan_teacherOf, .ref h0_plan_seatsOf, .ref h0_plan_columnOf, .ref h0_plan_columnsWith])), (h0_plan_columnsWith, .inl (cyI, 10, .inl plan_columnsWith_)), (h0_told, .inl (cyJ, 6, .inr (.inl told_)))] H := hP
        have hD : va_D A [(h0, .inr (5, [.ref h0_text, .ref h0_plan, .ref h0_planDraft, .ref h0_roll, .ref h0_rollDraft, .ref h0_wayFinder, .ref h0_seating, .ref h0_demand, .ref h0_told, .int toldCount_])), (h0_plan, .inr (0, [.int plan_columnCount_, .int plan_roomCount_, .int plan_size_, .ref h0_plan_barsOf, .ref h0_plan_subjectOf, .ref h0_plan_teacherOf, .ref h0_plan_seatsOf, .ref h0_plan_columnOf, .ref h0_plan_columnsWith])), (h0_plan_columnsWith, .inl (cyI, 10, .inl plan_columnsWith_)), (h0_told, .inl (cyJ, 6, .inr (.inl told_)))] := hD
        refine lv_iload_n hx hb dX5_sets_36 rfl (lv_at hl 1 rfl) ?_
        refine lv_icmp_ne (tgt := 71) hx hb dX5_sets_37 (by decide) (fun c_ => ?_) (fun c_ => ?_)
        · have h := (if_neg c_).symm.trans h
          obtain ⟨v5_4, e_v5_4⟩ : ∃ z : Int32, z = (v5 + 1) := ⟨_, rfl⟩
          have h := lt_use e_v5_4 h
          refine lv_iinc (v := v5_4) (lv' := [(5, .int v5_4), (0, .ref h0), (1, .int v1), (2, .int v2), (3, .int v3), (4, .int v4)]) hx hb dX5_sets_71 hl (k := 5) rfl (by rw [e_v5_4]; rfl) (by decide) rfl (fun ls hl => ?_)
          refine lv_goto (tgt := 23) hx hb dX5_sets_74 (by decide) ?_
          exact ih23 v2 v3 v4 v5_4 h _ _ _ hP hD hS (lv_sub hl [1, 2, 3, 4, 5, 0] rfl)
        · have h := (if_pos c_).symm.trans h
          obtain ⟨v2_5, e_v2_5⟩ : ∃ z : Int32, z = (v2 + 1) := ⟨_, rfl⟩
          have h := lt_use e_v2_5 h
          refine lv_iinc (v := v2_5) (lv' := [(2, .int v2_5), (0, .ref h0), (1, .int v1), (3, .int v3), (4, .int v4), (5, .int v5)]) hx hb dX5_sets_40 hl (k := 2) rfl (by rw [e_v2_5]; rfl) (by decide) rfl (fun ls hl => ?_)
          refine lv_aload_n hx hb dX5_sets_43 rfl (lv_at hl 1 rfl) ?_
          refine va_get (D := (dC, dI)) (ci := 5) (v := .ref h0_plan) (C := RX5) (T := TX5) (N := 10) hx hb hts hiX5 hown hK hP 0 rfl rfl 1 (by decide) (hts (.fieldLink RX5 19 "OptionLattice" "plan" "LOptionLattice$Plan;") (by decide +kernel)) (fun _ h9 => h9) rfl dX5_sets_44 ?_
          refine lv_iload hx hb dX5_sets_47 (lv_at hl 5 rfl) ?_
          obtain ⟨r_6, hq, h⟩ := bd1_some h
          refine uV_i (b := h0_plan) (As := [.int v5]) (rest := []) ⟨hx, hb, hml, hown, hts⟩ (c_X0_hasWay l dC dI cyC cyI cyJ h0_plan h0_plan_barsOf h0_plan_subjectOf h0_plan_teacherOf h0_plan_seatsOf h0_plan_columnOf h0_plan_columnsWith plan_columnCount_ plan_roomCount_ plan_size_ plan_columnsWith_ v5 r_6 hq) (cwV 1 hts gX5_sets_X0_hasWay rfl rfl rfl (by decide +kernel) ⟨Nat.le_of_ble_eq_true rfl, Nat.le_of_ble_eq_true rfl⟩) hK hE hA hP hD hS [1, 2] rfl rfl rfl 0 0 rfl rfl rfl hl.1 rfl (Nat.le_of_ble_eq_true rfl) ⟨Nat.zero_le _, Nat.zero_le _⟩ dX5_sets_49 (fun H locs hP hD hS => ?_)
          have hP : va_P (dC, dI) vwCl [(h0, .inr (5, [.ref h0_text, .ref h0_plan, .ref h0_planDraft, .ref h0_roll, .ref h0_rollDraft, .ref h0_wayFinder, .ref h0_seating, .ref h0_demand, .ref h0_told, .int toldCount_])), (h0_plan, .inr (0, [.int plan_columnCount_, .int plan_roomCount_, .int plan_size_, .ref h0_plan_barsOf, .ref h0_plan_subjectOf, .ref h0_plan_teacherOf, .ref h0_plan_seatsOf, .ref h0_plan_columnOf, .ref h0_plan_columnsWith])), (h0_plan_columnsWith, .inl (cyI, 10, .inl plan_columnsWith_)), (h0_told, .inl (cyJ, 6, .inr (.inl told_)))] H := hP
          have hD : va_D A [(h0, .inr (5, [.ref h0_text, .ref h0_plan, .ref h0_planDraft, .ref h0_roll, .ref h0_rollDraft, .ref h0_wayFinder, .ref h0_seating, .ref h0_demand, .ref h0_told, .int toldCount_])), (h0_plan, .inr (0, [.int plan_columnCount_, .int plan_roomCount_, .int plan_size_, .ref h0_plan_barsOf, .ref h0_plan_subjectOf, .ref h0_plan_teacherOf, .ref h0_plan_seatsOf, .ref h0_plan_columnOf, .ref h0_plan_columnsWith])), (h0_plan_columnsWith, .inl (cyI, 10, .inl plan_columnsWith_)), (h0_told, .inl (cyJ, 6, .inr (.inl told_)))] := hD
          refine lv_if_eq (tgt := 61) hx hb dX5_sets_52 (by decide) (fun c_ => ?_) (fun c_ => ?_)
          · have h := (if_pos c_).symm.trans h
            refine lv_iload hx hb dX5_sets_61 (lv_at hl 4 rfl) ?_
            refine lv_iconst (v := (-1)) hx hb dX5_sets_63 (by decide) ?_
            refine lv_icmp_ne (tgt := 71) hx hb dX5_sets_64 (by decide) (fun c_ => ?_) (fun c_ => ?_)
            · have h := (if_neg c_).symm.trans h
              obtain ⟨v5_7, e_v5_7⟩ : ∃ z : Int32, z = (v5 + 1) := ⟨_, rfl⟩
              have h := lt_use e_v5_7 h
              refine lv_iinc (v := v5_7) (lv' := [(5, .int v5_7), (2, .int v2_5), (0, .ref h0), (1, .int v1), (3, .int v3), (4, .int v4)]) hx hb dX5_sets_71 hl (k := 5) rfl (by rw [e_v5_7]; rfl) (by decide) rfl (fun ls hl => ?_)
              refine lv_goto (tgt := 23) hx hb dX5_sets_74 (by decide) ?_
              exact ih23 v2_5 v3 v4 v5_7 h _ _ _ hP hD hS (lv_sub hl [2, 3, 1, 4, 5, 0] rfl)
            · have h := (if_pos c_).symm.trans h
              refine lv_iload hx hb dX5_sets_67 (lv_at hl 5 rfl) ?_
              refine lv_istore (lv' := [(4, .int v5), (2, .int v2_5), (0, .ref h0), (1, .int v1), (3, .int v3), (5, .int v5)]) hx hb dX5_sets_69 hl (by decide) rfl (fun ls hl => ?_)
              obtain ⟨v5_8, e_v5_8⟩ : ∃ z : Int32, z = (v5 + 1) := ⟨_, rfl⟩
              have h := lt_use e_v5_8 h
              refine lv_iinc (v := v5_8) (lv' := [(5, .int v5_8), (4, .int v5), (2, .int v2_5), (0, .ref h0), (1, .int v1), (3, .int v3)]) hx hb dX5_sets_71 hl (k := 5) rfl (by rw [e_v5_8]; rfl) (by decide) rfl (fun ls hl => ?_)
              refine lv_goto (tgt := 23) hx hb dX5_sets_74 (by decide) ?_
              exact ih23 v2_5 v3 v5 v5_8 h _ _ _ hP hD hS (lv_sub hl [3, 4, 2, 5, 1, 0] rfl)
          · have h := (if_neg c_).symm.trans h
            obtain ⟨v3_9, e_v3_9⟩ : ∃ z : Int32, z = (v3 + 1) := ⟨_, rfl⟩
            have h := lt_use e_v3_9 h
            refine lv_iinc (v := v3_9) (lv' := [(3, .int v3_9), (2, .int v2_5), (0, .ref h0), (1, .int v1), (4, .int v4), (5, .int v5)]) hx hb dX5_sets_55 hl (k := 3) rfl (by rw [e_v3_9]; rfl) (by decide) rfl (fun ls hl => ?_)
            refine lv_goto (tgt := 71) hx hb dX5_sets_58 (by decide) ?_
            obtain ⟨v5_10, e_v5_10⟩ : ∃ z : Int32, z = (v5 + 1) := ⟨_, rfl⟩
            have h := lt_use e_v5_10 h
            refine lv_iinc (v := v5_10) (lv' := [(5, .int v5_10), (3, .int v3_9), (2, .int v2_5), (0, .ref h0), (1, .int v1), (4, .int v4)]) hx hb dX5_sets_71 hl (k := 5) rfl (by rw [e_v5_10]; rfl) (by decide) rfl (fun ls hl => ?_)
            refine lv_goto (tgt := 23) hx hb dX5_sets_74 (by decide) ?_
            exact ih23 v2_5 v3_9 v4 v5_10 h _ _ _ hP hD hS (lv_sub hl [3, 4, 2, 1, 5, 0] rfl)
  unfold m_X5_sets at h
  refine lv_iload_n hx hb dX5_sets_0 rfl (lv_at hl 1 rfl) ?_
  refine lv_iconst (v := 1) hx hb dX5_sets_1 (by decide) ?_
  refine lv_icmp_lt (tgt := 11) hx hb dX5_sets_2 (by decide) (fun c_ => ?_) (fun c_ => ?_)
  · have h := (if_pos c_).symm.trans h
    refine lv_iconst (v := (-1)) hx hb dX5_sets_11 (by decide) ?_
    have h : some ((-1), toldCount_, told_) = some (rr, o0, o1) := h
    have z0 := Option.some.inj h
    obtain ⟨rfl, z1⟩ := Prod.mk.inj z0
    obtain ⟨rfl, z2⟩ := Prod.mk.inj z1
    obtain rfl := z2
    exact hret _ _ _ _ hP hS rfl dX5_sets_12
  · have h := (if_neg c_).symm.trans h
    refine lv_iload_n hx hb dX5_sets_5 rfl (lv_at hl 1 rfl) ?_
    refine lv_bipush (v := 6) hx hb dX5_sets_6 (by decide) ?_
    refine lv_icmp_le (tgt := 13) hx hb dX5_sets_8 (by decide) (fun c_ => ?_) (fun c_ => ?_)
    · have h := (if_pos c_).symm.trans h
      refine lv_iconst (v := 0) hx hb dX5_sets_13 (by decide) ?_
      refine lv_istore_n (lv' := [(2, .int 0), (0, .ref h0), (1, .int v1)]) hx hb dX5_sets_14 rfl hl (by decide) rfl (fun ls hl => ?_)
      refine lv_iconst (v := 0) hx hb dX5_sets_15 (by decide) ?_
      refine lv_istore_n (lv' := [(3, .int 0), (2, .int 0), (0, .ref h0), (1, .int v1)]) hx hb dX5_sets_16 rfl hl (by decide) rfl (fun ls hl => ?_)
      refine lv_iconst (v := (-1)) hx hb dX5_sets_17 (by decide) ?_
      refine lv_istore (lv' := [(4, .int (-1)), (3, .int 0), (2, .int 0), (0, .ref h0), (1, .int v1)]) hx hb dX5_sets_18 hl (by decide) rfl (fun ls hl => ?_)
      refine lv_iconst (v := 1) hx hb dX5_sets_20 (by decide) ?_
      refine lv_istore (lv' := [(5, .int 1), (4, .int (-1)), (3, .int 0), (2, .int 0), (0, .ref h0), (1, .int v1)]) hx hb dX5_sets_21 hl (by decide) rfl (fun ls hl => ?_)
      exact L23  1100 0 0 (-1) 1 h _ _ _ hP hD hS (lv_sub hl [4, 5, 3, 2, 1, 0] rfl)
    · have h := (if_neg c_).symm.trans h
      refine lv_iconst (v := (-1)) hx hb dX5_sets_11 (by decide) ?_
      have h : some ((-1), toldCount_, told_) = some (rr, o0, o1) := h
      have z0 := Option.some.inj h
      obtain ⟨rfl, z1⟩ := Prod.mk.inj z0
      obtain ⟨rfl, z2⟩ := Prod.mk.inj z1
      obtain rfl := z2
      exact hret _ _ _ _ hP hS rfl dX5_sets_12

def m_X5_both (toldCount_ : Int32) (plan_columnsWith_ : Nat → Int32) (roll_size_ : Int32) (roll_choicesOf_ : Nat → Int32) (told_ : Nat → Int64) (v1 : Int32) (v2 : Int32) : Option (Int32 × Int32 × (Nat → Int64)) :=
  bd1 (m_X5_isSubject v1) (fun r_1 => (if r_1 = 0 then some ((-1), toldCount_, told_) else bd1 (m_X5_isSubject v2) (fun r_2 => (if r_2 = 0 then some ((-1), toldCount_, told_) else (if v1 = v2 then some ((-1), toldCount_, told_) else bd1 (m_X1_choosersOf roll_size_ roll_choicesOf_ (((1 : Int32) <<< (v1 &&& 31)) ||| ((1 : Int32) <<< (v2 &&& 31)))) (fun r_3 => bd1 (m_J6_bitCount_0f7a4 r_3) (fun r_4 => bd1 (m_X5_fitting plan_columnsWith_ roll_size_ roll_choicesOf_) (fun r_5 => bd1 (m_J6_bitCount_0f7a4 (r_3 &&& (r_5 ^^^ (-1)))) (fun r_6 => bd2 (m_X5_tell_ toldCount_ told_ r_4 r_6) (fun toldCount_7 told_8 => some (r_3, toldCount_7, told_8)))))))))))
abbrev rmX5_both : Room := { frames := 6, cells := 0, slots := 0, locals := 137 }
set_option maxHeartbeats 4000000 in
set_option maxRecDepth 100000 in
theorem c_X5_both (l : Launch) (dC : Nat → ClassId) (dI : Nat → Nat → Nat) (cyC cyI cyJ : ClassId) (h0 h0_text h0_plan h0_plan_barsOf h0_plan_subjectOf h0_plan_teacherOf h0_plan_seatsOf h0_plan_columnOf h0_plan_columnsWith h0_planDraft h0_roll h0_roll_choicesOf h0_rollDraft h0_wayFinder h0_seating h0_demand h0_told : Nat) (toldCount_ : Int32) (plan_columnCount_ : Int32) (plan_roomCount_ : Int32) (plan_size_ : Int32) (plan_columnsWith_ : Nat → Int32) (roll_size_ : Int32) (roll_kept_ : Int32) (roll_choicesOf_ : Nat → Int32) (told_ : Nat → Int64) (v1 : Int32) (v2 : Int32) (rr : Int32) (o0 : Int32) (o1 : Nat → Int64) (h : m_X5_both toldCount_ plan_columnsWith_ roll_size_ roll_choicesOf_ told_ v1 v2 = some (rr, o0, o1)) : uMi l yX5_both wsX5_both rmX5_both (dC, dI) [(cyC, .char), (cyI, .int), (cyJ, .long)] [.ref h0, .int v1, .int v2] [(h0, .inr (5, [.ref h0_text, .ref h0_plan, .ref h0_planDraft, .ref h0_roll, .ref h0_rollDraft, .ref h0_wayFinder, .ref h0_seating, .ref h0_demand, .ref h0_told, .int toldCount_])), (h0_plan, .inr (0, [.int plan_columnCount_, .int plan_roomCount_, .int plan_size_, .ref h0_plan_barsOf, .ref h0_plan_subjectOf, .ref h0_plan_teacherOf, .ref h0_plan_seatsOf, .ref h0_plan_columnOf, .ref h0_plan_columnsWith])), (h0_plan_columnsWith, .inl (cyI, 10, .inl plan_columnsWith_)), (h0_roll, .inr (1, [.ref h0_roll_choicesOf, .int roll_size_, .int roll_kept_])), (h0_roll_choicesOf, .inl (cyI, 24, .inl roll_choicesOf_)), (h0_told, .inl (cyJ, 6, .inr (.inl told_)))] [(h0, .inr (5, [.ref h0_text, .ref h0_plan, .ref h0_planDraft, .ref h0_roll, .ref h0_rollDraft, .ref h0_wayFinder, .ref h0_seating, .ref h0_demand, .ref h0_told, .int o0])), (h0_plan, .inr (0, [.int plan_columnCount_, .int plan_roomCount_, .int plan_size_, .ref h0_plan_barsOf, .ref h0_plan_subjectOf, .ref h0_plan_teacherOf, .ref h0_plan_seatsOf, .ref h0_plan_columnOf, .ref h0_plan_columnsWith])), (h0_plan_columnsWith, .inl (cyI, 10, .inl plan_columnsWith_)), (h0_roll, .inr (1, [.ref h0_roll_choicesOf, .int roll_size_, .int roll_kept_])), (h0_roll_choicesOf, .inl (cyI, 24, .inl roll_choicesOf_)), (h0_told, .inl (cyJ, 6, .inr (.inl o1)))] rr := by
  refine uMi.of (cc := cX5_both) (maxL := 4) (by decide) rfl (Nat.le_of_ble_eq_true rfl) (fun p e s m args below meth c A ls Q hx hb hml hown hts hA hP hK hD hE hS hl hret => ?_)
  have hown : s.vm.findClass RX5 = some m.cls := hown
  have hl : lv_has ls 4 [(0, .ref h0), (1, .int v1), (2, .int v2)] := hl
  have hiX5 : ∀ w ∈ u_ws RX5 TX5 10, w ∈ wsX5_both := fun _ h9 => List.mem_cons_of_mem _ (List.mem_append_left _ (List.mem_append_left _ (List.mem_append_right _ h9)))
  unfold m_X5_both at h
  refine lv_iload_n hx hb dX5_both_0 rfl (lv_at hl 1 rfl) ?_
  obtain ⟨r_1, hq, h⟩ := bd1_some h
  refine uS_i (As := [.int v1]) (rest := []) ⟨hx, hb, hml, hown, hts⟩ (c_X5_isSubject l dC dI cyC cyI cyJ v1 r_1 hq) (va_cwS 1 hts gX5_both_X5_isSubject rfl rfl rfl (by decide +kernel) ⟨Nat.le_of_ble_eq_true rfl, Nat.le_of_ble_eq_true rfl⟩) hK hE hA hP hD hS [] rfl rfl rfl rfl hl.1 rfl (Nat.le_of_ble_eq_true rfl) ⟨Nat.zero_le _, Nat.zero_le _⟩ dX5_both_1 (fun H locs hP hD hS => ?_)
  have hP : va_P (dC, dI) vwCl [(h0, .inr (5, [.ref h0_text, .ref h0_plan, .ref h0_planDraft, .ref h0_roll, .ref h0_rollDraft, .ref h0_wayFinder, .ref h0_seating, .ref h0_demand, .ref h0_told, .int toldCount_])), (h0_plan, .inr (0, [.int plan_columnCount_, .int plan_roomCount_, .int plan_size_, .ref h0_plan_barsOf, .ref h0_plan_subjectOf, .ref h0_plan_teacherOf, .ref h0_plan_seatsOf, .ref h0_plan_columnOf, .ref h0_plan_columnsWith])), (h0_plan_columnsWith, .inl (cyI, 10, .inl plan_columnsWith_)), (h0_roll, .inr (1, [.ref h0_roll_choicesOf, .int roll_size_, .int roll_kept_])), (h0_roll_choicesOf, .inl (cyI, 24, .inl roll_choicesOf_)), (h0_told, .inl (cyJ, 6, .inr (.inl told_)))] H := hP
  have hD : va_D A [(h0, .inr (5, [.ref h0_text, .ref h0_plan, .ref h0_planDraft, .ref h0_roll, .ref h0_rollDraft, .ref h0_wayFinder, .ref h0_seating, .ref h0_demand, .ref h0_told, .int toldCount_])), (h0_plan, .inr (0, [.int plan_columnCount_, .int plan_roomCount_, .int plan_size_, .ref h0_plan_barsOf, .ref h0_plan_subjectOf, .ref h0_plan_teacherOf, .ref h0_plan_seatsOf, .ref h0_plan_columnOf, .ref h0_plan_columnsWith])), (h0_plan_columnsWith, .inl (cyI, 10, .inl plan_columnsWith_)), (h0_roll, .inr (1, [.ref h0_roll_choicesOf, .int roll_size_, .int roll_kept_])), (h0_roll_choicesOf, .inl (cyI, 24, .inl roll_choicesOf_)), (h0_told, .inl (cyJ, 6, .inr (.inl told_)))] := hD
  refine lv_if_eq (tgt := 19) hx hb dX5_both_4 (by decide) (fun c_ => ?_) (fun c_ => ?_)
  · have h := (if_pos c_).symm.trans h
    refine lv_iconst (v := (-1)) hx hb dX5_both_19 (by decide) ?_
    have h : some ((-1), toldCount_, told_) = some (rr, o0, o1) := h
    have z0 := Option.some.inj h
    obtain ⟨rfl, z1⟩ := Prod.mk.inj z0
    obtain ⟨rfl, z2⟩ := Prod.mk.inj z1
    obtain rfl := z2
    exact hret _ _ _ _ hP hS rfl dX5_both_20
  · have h := (if_neg c_).symm.trans h
    refine lv_iload_n hx hb dX5_both_7 rfl (lv_at hl 2 rfl) ?_
    obtain ⟨r_2, hq, h⟩ := bd1_some h
    refine uS_i (As := [.int v2]) (rest := []) ⟨hx, hb, hml, hown, hts⟩ (c_X5_isSubject l dC dI cyC cyI cyJ v2 r_2 hq) (va_cwS 1 hts gX5_both_X5_isSubject rfl rfl rfl (by decide +kernel) ⟨Nat.le_of_ble_eq_true rfl, Nat.le_of_ble_eq_true rfl⟩) hK hE hA hP hD hS [] rfl rfl rfl rfl hl.1 rfl (Nat.le_of_ble_eq_true rfl) ⟨Nat.zero_le _, Nat.zero_le _⟩ dX5_both_8 (fun H locs hP hD hS => ?_)
    have hP : va_P (dC, dI) vwCl [(h0, .inr (5, [.ref h0_text, .ref h0_plan, .ref h0_planDraft, .ref h0_roll, .ref h0_rollDraft, .ref h0_wayFinder, .ref h0_seating, .ref h0_demand, .ref h0_told, .int toldCount_])), (h0_plan, .inr (0, [.int plan_columnCount_, .int plan_roomCount_, .int plan_size_, .ref h0_plan_barsOf, .ref h0_plan_subjectOf, .ref h0_plan_teacherOf, .ref h0_plan_seatsOf, .ref h0_plan_columnOf, .ref h0_plan_columnsWith])), (h0_plan_columnsWith, .inl (cyI, 10, .inl plan_columnsWith_)), (h0_roll, .inr (1, [.ref h0_roll_choicesOf, .int roll_size_, .int roll_kept_])), (h0_roll_choicesOf, .inl (cyI, 24, .inl roll_choicesOf_)), (h0_told, .inl (cyJ, 6, .inr (.inl told_)))] H := hP
    have hD : va_D A [(h0, .inr (5, [.ref h0_text, .ref h0_plan, .ref h0_planDraft, .ref h0_roll, .ref h0_rollDraft, .ref h0_wayFinder, .ref h0_seating, .ref h0_demand, .ref h0_told, .int toldCount_])), (h0_plan, .inr (0, [.int plan_columnCount_, .int plan_roomCount_, .int plan_size_, .ref h0_plan_barsOf, .ref h0_plan_subjectOf, .ref h0_plan_teacherOf, .ref h0_plan_seatsOf, .ref h0_plan_columnOf, .ref h0_plan_columnsWith])), (h0_plan_columnsWith, .inl (cyI, 10, .inl plan_columnsWith_)), (h0_roll, .inr (1, [.ref h0_roll_choicesOf, .int roll_size_, .int roll_kept_])), (h0_roll_choicesOf, .inl (cyI, 24, .inl roll_choicesOf_)), (h0_told, .inl (cyJ, 6, .inr (.inl told_)))] := hD
    refine lv_if_eq (tgt := 19) hx hb dX5_both_11 (by decide) (fun c_ => ?_) (fun c_ => ?_)
    · have h := (if_pos c_).symm.trans h
      refine lv_iconst (v := (-1)) hx hb dX5_both_19 (by decide) ?_
      have h : some ((-1), toldCount_, told_) = some (rr, o0, o1) := h
      have z0 := Option.some.inj h
      obtain ⟨rfl, z1⟩ := Prod.mk.inj z0
      obtain ⟨rfl, z2⟩ := Prod.mk.inj z1
      obtain rfl := z2
      exact hret _ _ _ _ hP hS rfl dX5_both_20
    · have h := (if_neg c_).symm.trans h
      refine lv_iload_n hx hb dX5_both_14 rfl (lv_at hl 1 rfl) ?_
      refine lv_iload_n hx hb dX5_both_15 rfl (lv_at hl 2 rfl) ?_
      refine lv_icmp_ne (tgt := 21) hx hb dX5_both_16 (by decide) (fun c_ => ?_) (fun c_ => ?_)
      · have h := (if_neg c_).symm.trans h
        refine lv_aload_n hx hb dX5_both_21 rfl (lv_at hl 0 rfl) ?_
        refine va_get (D := (dC, dI)) (ci := 5) (v := .ref h0_roll) (C := RX5) (T := TX5) (N := 10) hx hb hts hiX5 hown hK hP 0 rfl rfl 3 (by decide) (hts (.fieldLink RX5 29 "OptionLattice" "roll" "LOptionLattice$Roll;") (by decide +kernel)) (fun _ h9 => h9) rfl dX5_both_22 ?_
        refine lv_iconst (v := 1) hx hb dX5_both_25 (by decide) ?_
        refine lv_iload_n hx hb dX5_both_26 rfl (lv_at hl 1 rfl) ?_
        refine lv_ishl hx hb dX5_both_27 ?_
        refine lv_iconst (v := 1) hx hb dX5_both_28 (by decide) ?_
        refine lv_iload_n hx hb dX5_both_29 rfl (lv_at hl 2 rfl) ?_
        refine lv_ishl hx hb dX5_both_30 ?_
        refine lv_ior hx hb dX5_both_31 ?_
        obtain ⟨r_3, hq, h⟩ := bd1_some h
        refine uV_i (b := h0_roll) (As := [.int (((1 : Int32) <<< (v1 &&& 31)) ||| ((1 : Int32) <<< (v2 &&& 31)))]) (rest := []) ⟨hx, hb, hml, hown, hts⟩ (c_X1_choosersOf l dC dI cyC cyI cyJ h0_roll h0_roll_choicesOf roll_size_ roll_kept_ roll_choicesOf_ (((1 : Int32) <<< (v1 &&& 31)) ||| ((1 : Int32) <<< (v2 &&& 31))) r_3 hq) (cwV 1 hts gX5_both_X1_choosersOf rfl rfl rfl (by decide +kernel) ⟨Nat.le_of_ble_eq_true rfl, Nat.le_of_ble_eq_true rfl⟩) hK hE hA hP hD hS [3, 4] rfl rfl rfl 1 0 rfl rfl rfl hl.1 rfl (Nat.le_of_ble_eq_true rfl) ⟨Nat.zero_le _, Nat.zero_le _⟩ dX5_both_32 (fun H locs hP hD hS => ?_)
        have hP : va_P (dC, dI) vwCl [(h0, .inr (5, [.ref h0_text, .ref h0_plan, .ref h0_planDraft, .ref h0_roll, .ref h0_rollDraft, .ref h0_wayFinder, .ref h0_seating, .ref h0_demand, .ref h0_told, .int toldCount_])), (h0_plan, .inr (0, [.int plan_columnCount_, .int plan_roomCount_, .int plan_size_, .ref h0_plan_barsOf, .ref h0_plan_subjectOf, .ref h0_plan_teacherOf, .ref h0_plan_seatsOf, .ref h0_plan_columnOf, .ref h0_plan_columnsWith])), (h0_plan_columnsWith, .inl (cyI, 10, .inl plan_columnsWith_)), (h0_roll, .inr (1, [.ref h0_roll_choicesOf, .int roll_size_, .int roll_kept_])), (h0_roll_choicesOf, .inl (cyI, 24, .inl roll_choicesOf_)), (h0_told, .inl (cyJ, 6, .inr (.inl told_)))] H := hP
        have hD : va_D A [(h0, .inr (5, [.ref h0_text, .ref h0_plan, .ref h0_planDraft, .ref h0_roll, .ref h0_rollDraft, .ref h0_wayFinder, .ref h0_seating, .ref h0_demand, .ref h0_told, .int toldCount_])), (h0_plan, .inr (0, [.int plan_columnCount_, .int plan_roomCount_, .int plan_size_, .ref h0_plan_barsOf, .ref h0_plan_subjectOf, .ref h0_plan_teacherOf, .ref h0_plan_seatsOf, .ref h0_plan_columnOf, .ref h0_plan_columnsWith])), (h0_plan_columnsWith, .inl (cyI, 10, .inl plan_columnsWith_)), (h0_roll, .inr (1, [.ref h0_roll_choicesOf, .int roll_size_, .int roll_kept_])), (h0_roll_choicesOf, .inl (cyI, 24, .inl roll_choicesOf_)), (h0_told, .inl (cyJ, 6, .inr (.inl told_)))] := hD
        refine lv_istore_n (lv' := [(3, .int r_3), (0, .ref h0), (1, .int v1), (2, .int v2)]) hx hb dX5_both_35 rfl hl (by decide) rfl (fun ls hl => ?_)
        refine lv_aload_n hx hb dX5_both_36 rfl (lv_at hl 1 rfl) ?_
        refine lv_iload_n hx hb dX5_both_37 rfl (lv_at hl 0 rfl) ?_
        obtain ⟨r_4, hq, h⟩ := bd1_some h
        refine uS_i (As := [.int r_3]) (rest := [.ref h0]) ⟨hx, hb, hml, hown, hts⟩ (c_J6_bitCount_0f7a4 l dC dI cyC cyI cyJ r_3 r_4 hq) (va_cwS 1 hts gX5_both_J6_bitCount_0f7a4 rfl rfl rfl (by decide +kernel) ⟨Nat.le_of_ble_eq_true rfl, Nat.le_of_ble_eq_true rfl⟩) hK hE hA hP hD hS [] rfl rfl rfl rfl hl.1 rfl (Nat.le_of_ble_eq_true rfl) ⟨Nat.zero_le _, Nat.zero_le _⟩ dX5_both_38 (fun H locs hP hD hS => ?_)
        have hP : va_P (dC, dI) vwCl [(h0, .inr (5, [.ref h0_text, .ref h0_plan, .ref h0_planDraft, .ref h0_roll, .ref h0_rollDraft, .ref h0_wayFinder, .ref h0_seating, .ref h0_demand, .ref h0_told, .int toldCount_])), (h0_plan, .inr (0, [.int plan_columnCount_, .int plan_roomCount_, .int plan_size_, .ref h0_plan_barsOf, .ref h0_plan_subjectOf, .ref h0_plan_teacherOf, .ref h0_plan_seatsOf, .ref h0_plan_columnOf, .ref h0_plan_columnsWith])), (h0_plan_columnsWith, .inl (cyI, 10, .inl plan_columnsWith_)), (h0_roll, .inr (1, [.ref h0_roll_choicesOf, .int roll_size_, .int roll_kept_])), (h0_roll_choicesOf, .inl (cyI, 24, .inl roll_choicesOf_)), (h0_told, .inl (cyJ, 6, .inr (.inl told_)))] H := hP
        have hD : va_D A [(h0, .inr (5, [.ref h0_text, .ref h0_plan, .ref h0_planDraft, .ref h0_roll, .ref h0_rollDraft, .ref h0_wayFinder, .ref h0_seating, .ref h0_demand, .ref h0_told, .int toldCount_])), (h0_plan, .inr (0, [.int plan_columnCount_, .int plan_roomCount_, .int plan_size_, .ref h0_plan_barsOf, .ref h0_plan_subjectOf, .ref h0_plan_teacherOf, .ref h0_plan_seatsOf, .ref h0_plan_columnOf, .ref h0_plan_columnsWith])), (h0_plan_columnsWith, .inl (cyI, 10, .inl plan_columnsWith_)), (h0_roll, .inr (1, [.ref h0_roll_choicesOf, .int roll_size_, .int roll_kept_])), (h0_roll_choicesOf, .inl (cyI, 24, .inl roll_choicesOf_)), (h0_told, .inl (cyJ, 6, .inr (.inl told_)))] := hD
        refine lv_iload_n hx hb dX5_both_41 rfl (lv_at hl 0 rfl) ?_
        refine lv_aload_n hx hb dX5_both_42 rfl (lv_at hl 1 rfl) ?_
        obtain ⟨r_5, hq, h⟩ := bd1_some h
        refine uV_i (b := h0) (As := []) (rest := [.int r_3, .int r_4, .ref h0]) ⟨hx, hb, hml, hown, hts⟩ (c_X5_fitting l dC dI cyC cyI cyJ h0 h0_text h0_plan h0_plan_barsOf h0_plan_subjectOf h0_plan_teacherOf h0_plan_seatsOf h0_plan_columnOf h0_plan_columnsWith h0_planDraft h0_roll h0_roll_choicesOf h0_rollDraft h0_wayFinder h0_seating h0_demand h0_told toldCount_ plan_columnCount_ plan_roomCount_ plan_size_ plan_columnsWith_ roll_size_ roll_kept_ roll_choicesOf_ r_5 hq) (cwV 0 hts gX5_both_X5_fitting rfl rfl rfl (by decide +kernel) ⟨Nat.le_of_ble_eq_true rfl, Nat.le_of_ble_eq_true rfl⟩) hK hE hA hP hD hS [0, 1, 2, 3, 4] rfl rfl rfl 5 0 rfl rfl rfl hl.1 rfl (Nat.le_of_ble_eq_true rfl) ⟨Nat.zero_le _, Nat.zero_le _⟩ dX5_both_43 (fun H locs hP hD hS => ?_)
        have hP : va_P (dC, dI) vwCl [(h0, .inr (5, [.ref h0_text, .ref h0_plan, .ref h0_planDraft, .ref h0_roll, .ref h0_rollDraft, .ref h0_wayFinder, .ref h0_seating, .ref h0_demand, .ref h0_told, .int toldCount_])), (h0_plan, .inr (0, [.int plan_columnCount_, .int plan_roomCount_, .int plan_size_, .ref h0_plan_barsOf, .ref h0_plan_subjectOf, .ref h0_plan_teacherOf, .ref h0_plan_seatsOf, .ref h0_plan_columnOf, .ref h0_plan_columnsWith])), (h0_plan_columnsWith, .inl (cyI, 10, .inl plan_columnsWith_)), (h0_roll, .inr (1, [.ref h0_roll_choicesOf, .int roll_size_, .int roll_kept_])), (h0_roll_choicesOf, .inl (cyI, 24, .inl roll_choicesOf_)), (h0_told, .inl (cyJ, 6, .inr (.inl told_)))] H := hP
        have hD : va_D A [(h0, .inr (5, [.ref h0_text, .ref h0_plan, .ref h0_planDraft, .ref h0_roll, .ref h0_rollDraft, .ref h0_wayFinder, .ref h0_seating, .ref h0_demand, .ref h0_told, .int toldCount_])), (h0_plan, .inr (0, [.int plan_columnCount_, .int plan_roomCount_, .int plan_size_, .ref h0_plan_barsOf, .ref h0_plan_subjectOf, .ref h0_plan_teacherOf, .ref h0_plan_seatsOf, .ref h0_plan_columnOf, .ref h0_plan_columnsWith])), (h0_plan_columnsWith, .inl (cyI, 10, .inl plan_columnsWith_)), (h0_roll, .inr (1, [.ref h0_roll_choicesOf, .int roll_size_, .int roll_kept_])), (h0_roll_choicesOf, .inl (cyI, 24, .inl roll_choicesOf_)), (h0_told, .inl (cyJ, 6, .inr (.inl told_)))] := hD
        refine lv_iconst (v := (-1)) hx hb dX5_both_46 (by decide) ?_
        refine lv_ixor hx hb dX5_both_47 ?_
        refine lv_iand hx hb dX5_both_48 ?_
        obtain ⟨r_6, hq, h⟩ := bd1_some h
        refine uS_i (As := [.int (r_3 &&& (r_5 ^^^ (-1)))]) (rest := [.int r_4, .ref h0]) ⟨hx, hb, hml, hown, hts⟩ (c_J6_bitCount_0f7a4 l dC dI cyC cyI cyJ (r_3 &&& (r_5 ^^^ (-1))) r_6 hq) (va_cwS 1 hts gX5_both_J6_bitCount_0f7a4 rfl rfl rfl (by decide +kernel) ⟨Nat.le_of_ble_eq_true rfl, Nat.le_of_ble_eq_true rfl⟩) hK hE hA hP hD hS [] rfl rfl rfl rfl hl.1 rfl (Nat.le_of_ble_eq_true rfl) ⟨Nat.zero_le _, Nat.zero_le _⟩ dX5_both_49 (fun H locs hP hD hS => ?_)
        have hP : va_P (dC, dI) vwCl [(h0, .inr (5, [.ref h0_text, .ref h0_plan, .ref h0_planDraft, .ref h0_roll, .ref h0_rollDraft, .ref h0_wayFinder, .ref h0_seating, .ref h0_demand, .ref h0_told, .int toldCount_])), (h0_plan, .inr (0, [.int plan_columnCount_, .int plan_roomCount_, .int plan_size_, .ref h0_plan_barsOf, .ref h0_plan_subjectOf, .ref h0_plan_teacherOf, .ref h0_plan_seatsOf, .ref h0_plan_columnOf, .ref h0_plan_columnsWith])), (h0_plan_columnsWith, .inl (cyI, 10, .inl plan_columnsWith_)), (h0_roll, .inr (1, [.ref h0_roll_choicesOf, .int roll_size_, .int roll_kept_])), (h0_roll_choicesOf, .inl (cyI, 24, .inl roll_choicesOf_)), (h0_told, .inl (cyJ, 6, .inr (.inl told_)))] H := hP
        have hD : va_D A [(h0, .inr (5, [.ref h0_text, .ref h0_plan, .ref h0_planDraft, .ref h0_roll, .ref h0_rollDraft, .ref h0_wayFinder, .ref h0_seating, .ref h0_demand, .ref h0_told, .int toldCount_])), (h0_plan, .inr (0, [.int plan_columnCount_, .int plan_roomCount_, .int plan_size_, .ref h0_plan_barsOf, .ref h0_plan_subjectOf, .ref h0_plan_teacherOf, .ref h0_plan_seatsOf, .ref h0_plan_columnOf, .ref h0_plan_columnsWith])), (h0_plan_columnsWith, .inl (cyI, 10, .inl plan_columnsWith_)), (h0_roll, .inr (1, [.ref h0_roll_choicesOf, .int roll_size_, .int roll_kept_])), (h0_roll_choicesOf, .inl (cyI, 24, .inl roll_choicesOf_)), (h0_told, .inl (cyJ, 6, .inr (.inl told_)))] := hD
        obtain ⟨toldCount_7, told_8, hq, h⟩ := bd2_some h
        refine uV_v (b := h0) (As := [.int r_4, .int r_6]) (rest := []) ⟨hx, hb, hml, hown, hts⟩ (c_X5_tell_ l dC dI cyC cyI cyJ h0 h0_text h0_plan h0_planDraft h0_roll h0_rollDraft h0_wayFinder h0_seating h0_demand h0_told toldCount_ told_ r_4 r_6 toldCount_7 told_8 hq) (cwV 2 hts gX5_both_X5_tell_ rfl rfl rfl (by decide +kernel) ⟨Nat.le_of_ble_eq_true rfl, Nat.le_of_ble_eq_true rfl⟩) hK hE hA hP hD hS [0, 5] rfl rfl rfl 5 0 rfl rfl rfl hl.1 rfl (Nat.le_of_ble_eq_true rfl) ⟨Nat.zero_le _, Nat.zero_le _⟩ dX5_both_52 (fun H locs hP hD hS => ?_)
        have hP : va_P (dC, dI) vwCl [(h0, .inr (5, [.ref h0_text, .ref h0_plan, .ref h0_planDraft, .ref h0_roll, .ref h0_rollDraft, .ref h0_wayFinder, .ref h0_seating, .ref h0_demand, .ref h0_told, .int toldCount_7])), (h0_plan, .inr (0, [.int plan_columnCount_, .int plan_roomCount_, .int plan_size_, .ref h0_plan_barsOf, .ref h0_plan_subjectOf, .ref h0_plan_teacherOf, .ref h0_plan_seatsOf, .ref h0_plan_columnOf, .ref h0_plan_columnsWith])), (h0_plan_columnsWith, .inl (cyI, 10, .inl plan_columnsWith_)), (h0_roll, .inr (1, [.ref h0_roll_choicesOf, .int roll_size_, .int roll_kept_])), (h0_roll_choicesOf, .inl (cyI, 24, .inl roll_choicesOf_)), (h0_told, .inl (cyJ, 6, .inr (.inl told_8)))] H := hP
        have hD : va_D A [(h0, .inr (5, [.ref h0_text, .ref h0_plan, .ref h0_planDraft, .ref h0_roll, .ref h0_rollDraft, .ref h0_wayFinder, .ref h0_seating, .ref h0_demand, .ref h0_told, .int toldCount_7])), (h0_plan, .inr (0, [.int plan_columnCount_, .int plan_roomCount_, .int plan_size_, .ref h0_plan_barsOf, .ref h0_plan_subjectOf, .ref h0_plan_teacherOf, .ref h0_plan_seatsOf, .ref h0_plan_columnOf, .ref h0_plan_columnsWith])), (h0_plan_columnsWith, .inl (cyI, 10, .inl plan_columnsWith_)), (h0_roll, .inr (1, [.ref h0_roll_choicesOf, .int roll_size_, .int roll_kept_])), (h0_roll_choicesOf, .inl (cyI, 24, .inl roll_choicesOf_)), (h0_told, .inl (cyJ, 6, .inr (.inl told_8)))] := hD
        refine lv_iload_n hx hb dX5_both_55 rfl (lv_at hl 0 rfl) ?_
        have h : some (r_3, toldCount_7, told_8) = some (rr, o0, o1) := h
        have z0 := Option.some.inj h
        obtain ⟨rfl, z1⟩ := Prod.mk.inj z0
        obtain ⟨rfl, z2⟩ := Prod.mk.inj z1
        obtain rfl := z2
        exact hret _ _ _ _ hP hS rfl dX5_both_56
      · have h := (if_pos c_).symm.trans h
        refine lv_iconst (v := (-1)) hx hb dX5_both_19 (by decide) ?_
        have h : some ((-1), toldCount_, told_) = some (rr, o0, o1) := h
        have z0 := Option.some.inj h
        obtain ⟨rfl, z1⟩ := Prod.mk.inj z0
        obtain ⟨rfl, z2⟩ := Prod.mk.inj z1
        obtain rfl := z2
        exact hret _ _ _ _ hP hS rfl dX5_both_20

def m_X5_leastBit_2 (v0 : Int32) (rec2 : Int32 → Option (Int32)) : Int32 → Option (Int32) := fun v1 =>
  (if 24 ≤ v1 then some (-1) else bd1 (m_X5_hasBit v0 v1) (fun r_1 => (if r_1 = 0 then lt' (v1 + 1) (fun v1_2 => rec2 v1_2) else some v1)))
def m_X5_leastBit (v0 : Int32) : Option (Int32) :=
  it1 (m_X5_leastBit_2 v0) 1100 0
abbrev rmX5_leastBit : Room := { frames := 1, cells := 0, slots := 0, locals := 21 }
set_option maxHeartbeats 4000000 in
set_option maxRecDepth 100000 in
theorem c_X5_leastBit (l : Launch) (dC : Nat → ClassId) (dI : Nat → Nat → Nat) (cyC cyI cyJ : ClassId) (v0 : Int32) (rr : Int32) (h : m_X5_leastBit v0 = some rr) : uMi l yX5_leastBit wsX5_leastBit rmX5_leastBit (dC, dI) [(cyC, .char), (cyI, .int), (cyJ, .long)] [.int v0] [] [] rr := by
  refine uMi.of (cc := cX5_leastBit) (maxL := 2) (by decide) rfl (Nat.le_of_ble_eq_true rfl) (fun p e s m args below meth c A ls Q hx hb hml hown hts hA hP hK hD hE hS hl hret => ?_)
  have hown : s.vm.findClass RX5 = some m.cls := hown
  have hl : lv_has ls 2 [(0, .int v0)] := hl
  have L2 : ∀ (n2 : Nat), ∀ (v1 : Int32), it1 (m_X5_leastBit_2 v0) n2 v1 = some rr → ∀ (H : Heap) (locs : List Loc) (ls : Array Slot), va_P (dC, dI) vwCl [] H → va_D A [] → va_S A s.heap H locs → lv_has ls 2 [(0, .int v0), (1, .int v1)] → W p l e rmX5_leastBit s m args below meth c H locs 0 0 Q (F0 m 2 ls []) := by
    intro n2
    induction n2 with
    | zero => intro v1 h; exact absurd h (fun z => it1_z z)
    | succ n2 ih2 =>
      intro v1 h H locs ls hP hD hS hl
      have h : m_X5_leastBit_2 v0 (it1 (m_X5_leastBit_2 v0) n2) v1 = some rr := h
      unfold m_X5_leastBit_2 at h
      refine lv_iload_n hx hb dX5_leastBit_2 rfl (lv_at hl 1 rfl) ?_
      refine lv_bipush (v := 24) hx hb dX5_leastBit_3 (by decide) ?_
      refine lv_icmp_ge (tgt := 24) hx hb dX5_leastBit_5 (by decide) (fun c_ => ?_) (fun c_ => ?_)
      · have h := (if_pos c_).symm.trans h
        refine lv_iconst (v := (-1)) hx hb dX5_leastBit_24 (by decide) ?_
        have h : some (-1) = some rr := h
        have z0 := Option.some.inj h
        obtain rfl := z0
        exact hret _ _ _ _ hP hS rfl dX5_leastBit_25
      · have h := (if_neg c_).symm.trans h
        refine lv_iload_n hx hb dX5_leastBit_8 rfl (lv_at hl 0 rfl) ?_
        refine lv_iload_n hx hb dX5_leastBit_9 rfl (lv_at hl 1 rfl) ?_
        obtain ⟨r_1, hq, h⟩ := bd1_some h
        refine uS_i (As := [.int v0, .int v1]) (rest := []) ⟨hx, hb, hml, hown, hts⟩ (c_X5_hasBit l dC dI cyC cyI cyJ v0 v1 r_1 hq) (va_cwS 2 hts gX5_leastBit_X5_hasBit rfl rfl rfl (by decide +kernel) ⟨Nat.le_of_ble_eq_true rfl, Nat.le_of_ble_eq_true rfl⟩) hK hE hA hP hD hS [] rfl rfl rfl rfl hl.1 rfl (Nat.le_of_ble_eq_true rfl) ⟨Nat.zero_le _, Nat.zero_le _⟩ dX5_leastBit_10 (fun H locs hP hD hS => ?_)
        refine lv_if_eq (tgt := 18) hx hb dX5_leastBit_13 (by decide) (fun c_ => ?_) (fun c_ => ?_)
        · have h := (if_pos c_).symm.trans h
          obtain ⟨v1_2, e_v1_2⟩ : ∃ z : Int32, z = (v1 + 1) := ⟨_, rfl⟩
          have h := lt_use e_v1_2 h
          refine lv_iinc (v := v1_2) (lv' := [(1, .int v1_2), (0, .int v0)]) hx hb dX5_leastBit_18 hl (k := 1) rfl (by rw [e_v1_2]; rfl) (by decide) rfl (fun ls hl => ?_)
          refine lv_goto (tgt := 2) hx hb dX5_leastBit_21 (by decide) ?_
          exact ih2 v1_2 h _ _ _ hP hD hS (lv_sub hl [1, 0] rfl)
        · have h := (if_neg c_).symm.trans h
          refine lv_iload_n hx hb dX5_leastBit_16 rfl (lv_at hl 1 rfl) ?_
          have h : some v1 = some rr := h
          have z0 := Option.some.inj h
          obtain rfl := z0
          exact hret _ _ _ _ hP hS rfl dX5_leastBit_17
  unfold m_X5_leastBit at h
  refine lv_iconst (v := 0) hx hb dX5_leastBit_0 (by decide) ?_
  refine lv_istore_n (lv' := [(1, .int 0), (0, .int v0)]) hx hb dX5_leastBit_1 rfl hl (by decide) rfl (fun ls hl => ?_)
  exact L2  1100 0 h _ _ _ hP hD hS (lv_sub hl [1, 0] rfl)

def m_X5_clash_113 (toldCount_ : Int32) (told_ : Nat → Int64) (v1 : Int32) (v2 : Int32) (v3 : Int32) : Option (Int32 × Int32 × (Nat → Int64)) :=
  (if v2 = (-2) then some (v2, toldCount_, told_) else bd2 (m_X5_tell_ toldCount_ told_ v1 v3) (fun toldCount_1 told_2 => some (v2, toldCount_1, told_2)))
def m_X5_clash_67 (plan_columnsWith_ : Nat → Int32) (v1 : Int32) (v2 : Int32) (v3 : Int32) (v4 : Int32) (v5 : Int32) (t0 : Int32) (rec23 : Int32 → Int32 → Int32 → Int32 → Option (Int32 × Int32 × (Nat → Int64))) : Option (Int32 × Int32 × (Nat → Int64)) :=
  (if t0 ≤ v1 then lt' (v5 + 1) (fun v5_3 => rec23 v1 v2 v3 v5_3) else lt' (((10 : Int32) * v4) + v5) (fun v2_4 => gd (inb v4 10) (bd1 (m_X5_leastBit (plan_columnsWith_ v4.toNatClampNeg)) (fun r_5 => lt' (v5 + 1) (fun v5_6 => rec23 t0 v2_4 r_5 v5_6)))))
def m_X5_clash_23 (plan_columnsWith_ : Nat → Int32) (roll_size_ : Int32) (roll_choicesOf_ : Nat → Int32) (v4 : Int32) (rec10 : Int32 → Int32 → Int32 → Int32 → Option (Int32 × Int32 × (Nat → Int64))) (rec23 : Int32 → Int32 → Int32 → Int32 → Option (Int32 × Int32 × (Nat → Int64))) : Int32 → Int32 → Int32 → Int32 → Option (Int32 × Int32 × (Nat → Int64)) := fun v1 v2 v3 v5 =>
  (if 10 ≤ v5 then lt' (v4 + 1) (fun v4_7 => rec10 v1 v2 v3 v4_7) else bd1 (m_X0_shareTheirOnlyColumn plan_columnsWith_ v4 v5) (fun r_8 => (if r_8 = 0 then m_X5_clash_67 plan_columnsWith_ v1 v2 v3 v4 v5 0 rec23 else bd1 (m_X1_choosersOf roll_size_ roll_choicesOf_ (((1 : Int32) <<< (v4 &&& 31)) ||| ((1 : Int32) <<< (v5 &&& 31)))) (fun r_9 => bd1 (m_J6_bitCount_0f7a4 r_9) (fun r_10 => m_X5_clash_67 plan_columnsWith_ v1 v2 v3 v4 v5 r_10 rec23)))))
def m_X5_clash_10 (toldCount_ : Int32) (plan_columnsWith_ : Nat → Int32) (roll_size_ : Int32) (roll_choicesOf_ : Nat → Int32) (told_ : Nat → Int64) (rec10 : Int32 → Int32 → Int32 → Int32 → Option (Int32 × Int32 × (Nat → Int64))) : Int32 → Int32 → Int32 → Int32 → Option (Int32 × Int32 × (Nat → Int64)) := fun v1 v2 v3 v4 =>
  (if 10 ≤ v4 then m_X5_clash_113 toldCount_ told_ v1 v2 v3 else lt' (v4 + 1) (fun v5_11 => it4 (m_X5_clash_23 plan_columnsWith_ roll_size_ roll_choicesOf_ v4 rec10) 1100 v1 v2 v3 v5_11))
def m_X5_clash (toldCount_ : Int32) (plan_columnsWith_ : Nat → Int32) (roll_size_ : Int32) (roll_choicesOf_ : Nat → Int32) (told_ : Nat → Int64) : Option (Int32 × Int32 × (Nat → Int64)) :=
  it4 (m_X5_clash_10 toldCount_ plan_columnsWith_ roll_size_ roll_choicesOf_ told_) 1100 0 (-2) (-1) 0
abbrev rmX5_clash : Room := { frames := 2, cells := 0, slots := 0, locals := 42 }
set_option maxHeartbeats 4000000 in
set_option maxRecDepth 100000 in
theorem c_X5_clash (l : Launch) (dC : Nat → ClassId) (dI : Nat → Nat → Nat) (cyC cyI cyJ : ClassId) (h0 h0_text h0_plan h0_plan_barsOf h0_plan_subjectOf h0_plan_teacherOf h0_plan_seatsOf h0_plan_columnOf h0_plan_columnsWith h0_planDraft h0_roll h0_roll_choicesOf h0_rollDraft h0_wayFinder h0_seating h0_demand h0_told : Nat) (toldCount_ : Int32) (plan_columnCount_ : Int32) (plan_roomCount_ : Int32) (plan_size_ : Int32) (plan_columnsWith_ : Nat → Int32) (roll_size_ : Int32) (roll_kept_ : Int32) (roll_choicesOf_ : Nat → Int32) (told_ : Nat → Int64) (rr : Int32) (o0 : Int32) (o1 : Nat → Int64) (h : m_X5_clash toldCount_ plan_columnsWith_ roll_size_ roll_choicesOf_ told_ = some (rr, o0, o1)) : uMi l yX5_clash wsX5_clash rmX5_clash (dC, dI) [(cyC, .char), (cyI, .int), (cyJ, .long)] [.ref h0] [(h0, .inr (5, [.ref h0_text, .ref h0_plan, .ref h0_planDraft, .ref h0_roll, .ref h0_rollDraft, .ref h0_wayFinder, .ref h0_seating, .ref h0_demand, .ref h0_told, .int toldCount_])), (h0_plan, .inr (0, [.int plan_columnCount_, .int plan_roomCount_, .int plan_size_, .ref h0_plan_barsOf, .ref h0_plan_subjectOf, .ref h0_plan_teacherOf, .ref h0_plan_seatsOf, .ref h0_plan_columnOf, .ref h0_plan_columnsWith])), (h0_plan_columnsWith, .inl (cyI, 10, .inl plan_columnsWith_)), (h0_roll, .inr (1, [.ref h0_roll_choicesOf, .int roll_size_, .int roll_kept_])), (h0_roll_choicesOf, .inl (cyI, 24, .inl roll_choicesOf_)), (h0_told, .inl (cyJ, 6, .inr (.inl told_)))] [(h0, .inr (5, [.ref h0_text, .ref h0_plan, .ref h0_planDraft, .ref h0_roll, .ref h0_rollDraft, .ref h0_wayFinder, .ref h0_seating, .ref h0_demand, .ref h0_told, .int o0])), (h0_plan, .inr (0, [.int plan_columnCount_, .int plan_roomCount_, .int plan_size_, .ref h0_plan_barsOf, .ref h0_plan_subjectOf, .ref h0_plan_teacherOf, .ref h0_plan_seatsOf, .ref h0_plan_columnOf, .ref h0_plan_columnsWith])), (h0_plan_columnsWith, .inl (cyI, 10, .inl plan_columnsWith_)), (h0_roll, .inr (1, [.ref h0_roll_choicesOf, .int roll_size_, .int roll_kept_])), (h0_roll_choicesOf, .inl (cyI, 24, .inl roll_choicesOf_)), (h0_told, .inl (cyJ, 6, .inr (.inl o1)))] rr := by
  refine uMi.of (cc := cX5_clash) (maxL := 7) (by decide) rfl (Nat.le_of_ble_eq_true rfl) (fun p e s m args below meth c A ls Q hx hb hml hown hts hA hP hK hD hE hS hl hret => ?_)
  have hown : s.vm.findClass RX5 = some m.cls := hown
  have hl : lv_has ls 7 [(0, .ref h0)] := hl
  have hiX0 : ∀ w ∈ u_ws RX0 TX0 9, w ∈ wsX5_clash := fun _ h9 => List.mem_cons_of_mem _ (List.mem_append_left _ (List.mem_append_right _ h9))
  have hiX5 : ∀ w ∈ u_ws RX5 TX5 10, w ∈ wsX5_clash := fun _ h9 => List.mem_cons_of_mem _ (List.mem_append_left _ (List.mem_append_left _ (List.mem_append_right _ h9)))
  have J113 : ∀ (v1 : Int32), ∀ (v2 : Int32), ∀ (v3 : Int32), m_X5_clash_113 toldCount_ told_ v1 v2 v3 = some (rr, o0, o1) → ∀ (H : Heap) (locs : List Loc) (ls : Array Slot), va_P (dC, dI) vwCl [(h0, .inr (5, [.ref h0_text, .ref h0_plan, .ref h0_planDraft, .ref h0_roll, .ref h0_rollDraft, .ref h0_wayFinder, .ref h0_seating, .ref h0_demand, .ref h0_told, .int toldCount_])), (h0_plan, .inr (0, [.int plan_columnCount_, .int plan_roomCount_, .int plan_size_, .ref h0_plan_barsOf, .ref h0_plan_subjectOf, .ref h0_plan_teacherOf, .ref h0_plan_seatsOf, .ref h0_plan_columnOf, .ref h0_plan_columnsWith])), (h0_plan_columnsWith, .inl (cyI, 10, .inl plan_columnsWith_)), (h0_roll, .inr (1, [.ref h0_roll_choicesOf, .int roll_size_, .int roll_kept_])), (h0_roll_choicesOf, .inl (cyI, 24, .inl roll_choicesOf_)), (h0_told, .inl (cyJ, 6, .inr (.inl told_)))] H → va_D A [(h0, .inr (5, [.ref h0_text, .ref h0_plan, .ref h0_planDraft, .ref h0_roll, .ref h0_rollDraft, .ref h0_wayFinder, .ref h0_seating, .ref h0_demand, .ref h0_told, .int toldCount_])), (h0_plan, .inr (0, [.int plan_columnCount_, .int plan_roomCount_, .int plan_size_, .ref h0_plan_barsOf, .ref h0_plan_subjectOf, .ref h0_plan_teacherOf, .ref h0_plan_seatsOf, .ref h0_plan_columnOf, .ref h0_plan_columnsWith])), (h0_plan_columnsWith, .inl (cyI, 10, .inl plan_columnsWith_)), (h0_roll, .inr (1, [.ref h0_roll_choicesOf, .int roll_size_, .int roll_kept_])), (h0_roll_choicesOf, .inl (cyI, 24, .inl roll_choicesOf_)), (h0_told, .inl (cyJ, 6, .inr (.inl told_)))] → va_S A s.heap H locs → lv_has ls 7 [(0, .ref h0), (1, .int v1), (2, .int v2), (3, .int v3)] → W p l e rmX5_clash s m args below meth c H locs 0 0 Q (F0 m 113 ls []) := by
    intro v1 v2 v3 h H locs ls hP hD hS hl
    unfold m_X5_clash_113 at h
    refine lv_iload_n hx hb dX5_clash_113 rfl (lv_at hl 2 rfl) ?_
    refine lv_bipush (v := (-2)) hx hb dX5_clash_114 (by decide) ?_
    refine lv_icmp_eq (tgt := 125) hx hb dX5_clash_116 (by decide) (fun c_ => ?_) (fun c_ => ?_)
    · have h := (if_pos c_).symm.trans h
      refine lv_iload_n hx hb dX5_clash_125 rfl (lv_at hl 2 rfl) ?_
      have h : some (v2, toldCount_, told_) = some (rr, o0, o1) := h
      have z0 := Option.some.inj h
      obtain ⟨rfl, z1⟩ := Prod.mk.inj z0
      obtain ⟨rfl, z2⟩ := Prod.mk.inj z1
      obtain rfl := z2
      exact hret _ _ _ _ hP hS rfl dX5_clash_126
    · have h := (if_neg c_).symm.trans h
      refine lv_aload_n hx hb dX5_clash_119 rfl (lv_at hl 0 rfl) ?_
      refine lv_iload_n hx hb dX5_clash_120 rfl (lv_at hl 1 rfl) ?_
      refine lv_iload_n hx hb dX5_clash_121 rfl (lv_at hl 3 rfl) ?_
      obtain ⟨toldCount_1, told_2, hq, h⟩ := bd2_some h
      refine uV_v (b := h0) (As := [.int v1, .int v3]) (rest := []) ⟨hx, hb, hml, hown, hts⟩ (c_X5_tell_ l dC dI cyC cyI cyJ h0 h0_text h0_plan h0_planDraft h0_roll h0_rollDraft h0_wayFinder h0_seating h0_demand h0_told toldCount_ told_ v1 v3 toldCount_1 told_2 hq) (cwV 2 hts gX5_clash_X5_tell_ rfl rfl rfl (by decide +kernel) ⟨Nat.le_of_ble_eq_true rfl, Nat.le_of_ble_eq_true rfl⟩) hK hE hA hP hD hS [0, 5] rfl rfl rfl 5 0 rfl rfl rfl hl.1 rfl (Nat.le_of_ble_eq_true rfl) ⟨Nat.zero_le _, Nat.zero_le _⟩ dX5_clash_122 (fun H locs hP hD hS => ?_)
      have hP : va_P (dC, dI) vwCl [(h0, .inr (5, [.ref h0_text, .ref h0_plan, .ref h0_planDraft, .ref h0_roll, .ref h0_rollDraft, .ref h0_wayFinder, .ref h0_seating, .ref h0_demand, .ref h0_told, .int toldCount_1])), (h0_plan, .inr (0, [.int plan_columnCount_, .int plan_roomCount_, .int plan_size_, .ref h0_plan_barsOf, .ref h0_plan_subjectOf, .ref h0_plan_teacherOf, .ref h0_plan_seatsOf, .ref h0_plan_columnOf, .ref h0_plan_columnsWith])), (h0_plan_columnsWith, .inl (cyI, 10, .inl plan_columnsWith_)), (h0_roll, .inr (1, [.ref h0_roll_choicesOf, .int roll_size_, .int roll_kept_])), (h0_roll_choicesOf, .inl (cyI, 24, .inl roll_choicesOf_)), (h0_told, .inl (cyJ, 6, .inr (.inl told_2)))] H := hP
      have hD : va_D A [(h0, .inr (5, [.ref h0_text, .ref h0_plan, .ref h0_planDraft, .ref h0_roll, .ref h0_rollDraft, .ref h0_wayFinder, .ref h0_seating, .ref h0_demand, .ref h0_told, .int toldCount_1])), (h0_plan, .inr (0, [.int plan_columnCount_, .int plan_roomCount_, .int plan_size_, .ref h0_plan_barsOf, .ref h0_plan_subjectOf, .ref h0_plan_teacherOf, .ref h0_plan_seatsOf, .ref h0_plan_columnOf, .ref h0_plan_columnsWith])), (h0_plan_columnsWith, .inl (cyI, 10, .inl plan_columnsWith_)), (h0_roll, .inr (1, [.ref h0_roll_choicesOf, .int roll_size_, .int roll_kept_])), (h0_roll_choicesOf, .inl (cyI, 24, .inl roll_choicesOf_)), (h0_told, .inl (cyJ, 6, .inr (.inl told_2)))] := hD
      refine lv_iload_n hx hb dX5_clash_125 rfl (lv_at hl 2 rfl) ?_
      have h : some (v2, toldCount_1, told_2) = some (rr, o0, o1) := h
      have z0 := Option.some.inj h
      obtain ⟨rfl, z1⟩ := Prod.mk.inj z0
      obtain ⟨rfl, z2⟩ := Prod.mk.inj z1
      obtain rfl := z2
      exact hret _ _ _ _ hP hS rfl dX5_clash_126
  have L10 : ∀ (n10 : Nat), ∀ (v1 : Int32), ∀ (v2 : Int32), ∀ (v3 : Int32), ∀ (v4 : Int32), it4 (m_X5_clash_10 toldCount_ plan_columnsWith_ roll_size_ roll_choicesOf_ told_) n10 v1 v2 v3 v4 = some (rr, o0, o1) → ∀ (H : Heap) (locs : List Loc) (ls : Array Slot), va_P (dC, dI) vwCl [(h0, .inr (5, [.ref h0_text, .ref h0_plan, .ref h0_planDraft, .ref h0_roll, .ref h0_rollDraft, .ref h0_wayFinder, .ref h0_seating, .ref h0_demand, .ref h0_told, .int toldCount_])), (h0_plan, .inr (0, [.int plan_columnCount_, .int plan_roomCount_, .int plan_size_, .ref h0_plan_barsOf, .ref h0_plan_subjectOf, .ref h0_plan_teacherOf, .ref h0_plan_seatsOf, .ref h0_plan_columnOf, .ref h0_plan_columnsWith])), (h0_plan_columnsWith, .inl (cyI, 10, .inl plan_columnsWith_)), (h0_roll, .inr (1, [.ref h0_roll_choicesOf, .int roll_size_, .int roll_kept_])), (h0_roll_choicesOf, .inl (cyI, 24, .inl roll_choicesOf_)), (h0_told, .inl (cyJ, 6, .inr (.inl told_)))] H → va_D A [(h0, .inr (5, [.ref h0_text, .ref h0_plan, .ref h0_planDraft, .ref h0_roll, .ref h0_rollDraft, .ref h0_wayFinder, .ref h0_seating, .ref h0_demand, .ref h0_told, .int toldCount_])), (h0_plan, .inr (0, [.int plan_columnCount_, .int plan_roomCount_, .int plan_size_, .ref h0_plan_barsOf, .ref h0_plan_subjectOf, .ref h0_plan_teacherOf, .ref h0_plan_seatsOf, .ref h0_plan_columnOf, .ref h0_plan_columnsWith])), (h0_plan_columnsWith, .inl (cyI, 10, .inl plan_columnsWith_)), (h0_roll, .inr (1, [.ref h0_roll_choicesOf, .int roll_size_, .int roll_kept_])), (h0_roll_choicesOf, .inl (cyI, 24, .inl roll_choicesOf_)), (h0_told, .inl (cyJ, 6, .inr (.inl told_)))] → va_S A s.heap H locs → lv_has ls 7 [(0, .ref h0), (1, .int v1), (2, .int v2), (3, .int v3), (4, .int v4)] → W p l e rmX5_clash s m args below meth c H locs 0 0 Q (F0 m 10 ls []) := by
    intro n10
    induction n10 with
    | zero => intro v1 v2 v3 v4 h; exact absurd h (fun z => it4_z z)
    | succ n10 ih10 =>
      have L23 : ∀ (v4 : Int32), ∀ (n23 : Nat), ∀ (v1 : Int32), ∀ (v2 : Int32), ∀ (v3 : Int32), ∀ (v5 : Int32), it4 (m_X5_clash_23 plan_columnsWith_ roll_size_ roll_choicesOf_ v4 (it4 (m_X5_clash_10 toldCount_ plan_columnsWith_ roll_size_ roll_choicesOf_ told_) n10)) n23 v1 v2 v3 v5 = some (rr, o0, o1) → ∀ (H : Heap) (locs : List Loc) (ls : Array Slot), va_P (dC, dI) vwCl [(h0, .inr (5, [.ref h0_text, .ref h0_plan, .ref h0_planDraft, .ref h0_roll, .ref h0_rollDraft, .ref h0_wayFinder, .ref h0_seating, .ref h0_demand, .ref h0_told, .int toldCount_])), (h0_plan, .inr (0, [.int plan_columnCount_, .int plan_roomCount_, .int plan_size_, .ref h0_plan_barsOf, .ref h0_plan_subjectOf, .ref h0_plan_teacherOf, .ref h0_plan_seatsOf, .ref h0_plan_columnOf, .ref h0_plan_columnsWith])), (h0_plan_columnsWith, .inl (cyI, 10, .inl plan_columnsWith_)), (h0_roll, .inr (1, [.ref h0_roll_choicesOf, .int roll_size_, .int roll_kept_])), (h0_roll_choicesOf, .inl (cyI, 24, .inl roll_choicesOf_)), (h0_told, .inl (cyJ, 6, .inr (.inl told_)))] H → va_D A [(h0, .inr (5, [.ref h0_text, .ref h0_plan, .ref h0_planDraft, .ref h0_roll, .ref h0_rollDraft, .ref h0_wayFinder, .ref h0_seating, .ref h0_demand, .ref h0_told, .int toldCount_])), (h0_plan, .inr (0, [.int plan_columnCount_, .int plan_roomCount_, .int plan_size_, .ref h0_plan_barsOf, .ref h0_plan_subjectOf, .ref h0_plan_teacherOf, .ref h0_plan_seatsOf, .ref h0_plan_columnOf, .ref h0_plan_columnsWith])), (h0_plan_columnsWith, .inl (cyI, 10, .inl plan_columnsWith_)), (h0_roll, .inr (1, [.ref h0_roll_choicesOf, .int roll_size_, .int roll_kept_])), (h0_roll_choicesOf, .inl (cyI, 24, .inl roll_choicesOf_)), (h0_told, .inl (cyJ, 6, .inr (.inl told_)))] → va_S A s.heap H locs → lv_has ls 7 [(0, .ref h0), (1, .int v1), (2, .int v2), (3, .int v3), (4, .int v4), (5, .int v5)] → W p l e rmX5_clash s m args below meth c H locs 0 0 Q (F0 m 23 ls []) := by
        intro v4 n23
        induction n23 with
        | zero => intro v1 v2 v3 v5 h; exact absurd h (fun z => it4_z z)
        | succ n23 ih23 =>
          have J67 : ∀ (v1 : Int32), ∀ (v2 : Int32), ∀ (v3 : Int32), ∀ (v5 : Int32), ∀ (t0 : Int32), m_X5_clash_67 plan_columnsWith_ v1 v2 v3 v4 v5 t0 (it4 (m_X5_clash_23 plan_columnsWith_ roll_size_ roll_choicesOf_ v4 (it4 (m_X5_clash_10 toldCount_ plan_columnsWith_ roll_size_ roll_choicesOf_ told_) n10)) n23) = some (rr, o0, o1) → ∀ (H : Heap) (locs : List Loc) (ls : Array Slot), va_P (dC, dI) vwCl [(h0, .inr (5, [.ref h0_text, .ref h0_plan, .ref h0_planDraft, .ref h0_roll, .ref h0_rollDraft, .ref h0_wayFinder, .ref h0_seating, .ref h0_demand, .ref h0_told, .int toldCount_])), (h0_plan, .inr (0, [.int plan_columnCount_, .int plan_roomCount_, .int plan_size_, .ref h0_plan_barsOf, .ref h0_plan_subjectOf, .ref h0_plan_teacherOf, .ref h0_plan_seatsOf, .ref h0_plan_columnOf, .ref h0_plan_columnsWith])), (h0_plan_columnsWith, .inl (cyI, 10, .inl plan_columnsWith_)), (h0_roll, .inr (1, [.ref h0_roll_choicesOf, .int roll_size_, .int roll_kept_])), (h0_roll_choicesOf, .inl (cyI, 24, .inl roll_choicesOf_)), (h0_told, .inl (cyJ, 6, .inr (.inl told_)))] H → va_D A [(h0, .inr (5, [.ref h0_text, .ref h0_plan, .ref h0_planDraft, .ref h0_roll, .ref h0_rollDraft, .ref h0_wayFinder, .ref h0_seating, .ref h0_demand, .ref h0_told, .int toldCount_])), (h0_plan, .inr (0, [.int plan_columnCount_, .int plan_roomCount_, .int plan_size_, .ref h0_plan_barsOf, .ref h0_plan_subjectOf, .ref h0_plan_teacherOf, .ref h0_plan_seatsOf, .ref h0_plan_columnOf, .ref h0_plan_columnsWith])), (h0_plan_columnsWith, .inl (cyI, 10, .inl plan_columnsWith_)), (h0_roll, .inr (1, [.ref h0_roll_choicesOf, .int roll_size_, .int roll_kept_])), (h0_roll_choicesOf, .inl (cyI, 24, .inl roll_choicesOf_)), (h0_told, .inl (cyJ, 6, .inr (.inl told_)))] → va_S A s.heap H locs → lv_has ls 7 [(0, .ref h0), (1, .int v1), (2, .int v2), (3, .int v3), (4, .int v4), (5, .int v5)] → W p l e rmX5_clash s m args below meth c H locs 0 0 Q (F0 m 67 ls [.int t0]) := by
            intro v1 v2 v3 v5 t0 h H locs ls hP hD hS hl
            unfold m_X5_clash_67 at h
            refine lv_istore (lv' := [(6, .int t0), (0, .ref h0), (1, .int v1), (2, .int v2), (3, .int v3), (4, .int v4), (5, .int v5)]) hx hb dX5_clash_67 hl (by decide) rfl (fun ls hl => ?_)
            refine lv_iload hx hb dX5_clash_69 (lv_at hl 0 rfl) ?_
            refine lv_iload_n hx hb dX5_clash_71 rfl (lv_at hl 2 rfl) ?_
            refine lv_icmp_le (tgt := 101) hx hb dX5_clash_72 (by decide) (fun c_ => ?_) (fun c_ => ?_)
            · have h := (if_pos c_).symm.trans h
              obtain ⟨v5_3, e_v5_3⟩ : ∃ z : Int32, z = (v5 + 1) := ⟨_, rfl⟩
              have h := lt_use e_v5_3 h
              refine lv_iinc (v := v5_3) (lv' := [(5, .int v5_3), (6, .int t0), (0, .ref h0), (1, .int v1), (2, .int v2), (3, .int v3), (4, .int v4)]) hx hb dX5_clash_101 hl (k := 6) rfl (by rw [e_v5_3]; rfl) (by decide) rfl (fun ls hl => ?_)
              refine lv_goto (tgt := 23) hx hb dX5_clash_104 (by decide) ?_
              exact ih23 v1 v2 v3 v5_3 h _ _ _ hP hD hS (lv_sub hl [2, 3, 4, 5, 6, 0] rfl)
            · have h := (if_neg c_).symm.trans h
              refine lv_iload hx hb dX5_clash_75 (lv_at hl 0 rfl) ?_
              refine lv_istore_n (lv' := [(1, .int t0), (6, .int t0), (0, .ref h0), (2, .int v2), (3, .int v3), (4, .int v4), (5, .int v5)]) hx hb dX5_clash_77 rfl hl (by decide) rfl (fun ls hl => ?_)
              refine lv_bipush (v := 10) hx hb dX5_clash_78 (by decide) ?_
              refine lv_iload hx hb dX5_clash_80 (lv_at hl 5 rfl) ?_
              refine lv_imul hx hb dX5_clash_82 ?_
              refine lv_iload hx hb dX5_clash_83 (lv_at hl 6 rfl) ?_
              refine lv_iadd hx hb dX5_clash_85 ?_
              refine lv_topi (fun v2_4 e_v2_4 => ?_)
              have h := lt_use e_v2_4 h
              refine lv_istore_n (lv' := [(2, .int v2_4), (1, .int t0), (6, .int t0), (0, .ref h0), (3, .int v3), (4, .int v4), (5, .int v5)]) hx hb dX5_clash_86 rfl hl (by decide) rfl (fun ls hl => ?_)
              refine lv_aload_n hx hb dX5_clash_87 rfl (lv_at hl 3 rfl) ?_
              refine va_get (D := (dC, dI)) (ci := 5) (v := .ref h0_plan) (C := RX5) (T := TX5) (N := 10) hx hb hts hiX5 hown hK hP 0 rfl rfl 1 (by decide) (hts (.fieldLink RX5 19 "OptionLattice" "plan" "LOptionLattice$Plan;") (by decide +kernel)) (fun _ h9 => h9) rfl dX5_clash_88 ?_
              refine va_getN (host := "OptionLattice") (D := (dC, dI)) (ci := 0) (v := .ref h0_plan_columnsWith) (C := RX0) (T := TX0) (N := 9) hx hb hts hiX0 hown hK hP 1 rfl rfl 8 (by decide) (va_Nw.use rfl (hE.1 ("OptionLattice", 192, "OptionLattice$Plan", "columnsWith", "[I") (List.mem_of_getElem? (i := 15) rfl))) (fun _ h9 => h9) rfl dX5_clash_91 ?_
              refine lv_iload hx hb dX5_clash_94 (lv_at hl 5 rfl) ?_
              obtain ⟨g_, h⟩ := gd_some h
              refine va_iald hx hb hK hP 2 1 rfl rfl (inb_in g_) dX5_clash_96 ?_
              obtain ⟨r_5, hq, h⟩ := bd1_some h
              refine uS_i (As := [.int (plan_columnsWith_ v4.toNatClampNeg)]) (rest := []) ⟨hx, hb, hml, hown, hts⟩ (c_X5_leastBit l dC dI cyC cyI cyJ (plan_columnsWith_ v4.toNatClampNeg) r_5 hq) (va_cwS 1 hts gX5_clash_X5_leastBit rfl rfl rfl (by decide +kernel) ⟨Nat.le_of_ble_eq_true rfl, Nat.le_of_ble_eq_true rfl⟩) hK hE hA hP hD hS [] rfl rfl rfl rfl hl.1 rfl (Nat.le_of_ble_eq_true rfl) ⟨Nat.zero_le _, Nat.zero_le _⟩ dX5_clash_97 (fun H locs hP hD hS => ?_)
              have hP : va_P (dC, dI) vwCl [(h0, .inr (5, [.ref h0_text, .ref h0_plan, .ref h0_planDraft, .ref h0_roll, .ref h0_rollDraft, .ref h0_wayFinder, .ref h0_seating, .ref h0_demand, .ref h0_told, .int toldCount_])), (h0_plan, .inr (0, [.int plan_columnCount_, .int plan_roomCount_, .int plan_size_, .ref h0_plan_barsOf, .ref h0_plan_subjectOf, .ref h0_plan_teacherOf, .ref h0_plan_seatsOf, .ref h0_plan_columnOf, .ref h0_plan_columnsWith])), (h0_plan_columnsWith, .inl (cyI, 10, .inl plan_columnsWith_)), (h0_roll, .inr (1, [.ref h0_roll_choicesOf, .int roll_size_, .int roll_kept_])), (h0_roll_choicesOf, .inl (cyI, 24, .inl roll_choicesOf_)), (h0_told, .inl (cyJ, 6, .inr (.inl told_)))] H := hP
              have hD : va_D A [(h0, .inr (5, [.ref h0_text, .ref h0_plan, .ref h0_planDraft, .ref h0_roll, .ref h0_rollDraft, .ref h0_wayFinder, .ref h0_seating, .ref h0_demand, .ref h0_told, .int toldCount_])), (h0_plan, .inr (0, [.int plan_columnCount_, .int plan_roomCount_, .int plan_size_, .ref h0_plan_barsOf, .ref h0_plan_subjectOf, .ref h0_plan_teacherOf, .ref h0_plan_seatsOf, .ref h0_plan_columnOf, .ref h0_plan_columnsWith])), (h0_plan_columnsWith, .inl (cyI, 10, .inl plan_columnsWith_)), (h0_roll, .inr (1, [.ref h0_roll_choicesOf, .int roll_size_, .int roll_kept_])), (h0_roll_choicesOf, .inl (cyI, 24, .inl roll_choicesOf_)), (h0_told, .inl (cyJ, 6, .inr (.inl told_)))] := hD
              refine lv_istore_n (lv' := [(3, .int r_5), (2, .int v2_4), (1, .int t0), (6, .int t0), (0, .ref h0), (4, .int v4), (5, .int v5)]) hx hb dX5_clash_100 rfl hl (by decide) rfl (fun ls hl => ?_)
              obtain ⟨v5_6, e_v5_6⟩ : ∃ z : Int32, z = (v5 + 1) := ⟨_, rfl⟩
              have h := lt_use e_v5_6 h
              refine lv_iinc (v := v5_6) (lv' := [(5, .int v5_6), (3, .int r_5), (2, .int v2_4), (1, .int t0), (6, .int t0), (0, .ref h0), (4, .int v4)]) hx hb dX5_clash_101 hl (k := 6) rfl (by rw [e_v5_6]; rfl) (by decide) rfl (fun ls hl => ?_)
              refine lv_goto (tgt := 23) hx hb dX5_clash_104 (by decide) ?_
              exact ih23 t0 v2_4 r_5 v5_6 h _ _ _ hP hD hS (lv_sub hl [5, 3, 2, 1, 6, 0] rfl)
          intro v1 v2 v3 v5 h H locs ls hP hD hS hl
          have h : m_X5_clash_23 plan_columnsWith_ roll_size_ roll_choicesOf_ v4 (it4 (m_X5_clash_10 toldCount_ plan_columnsWith_ roll_size_ roll_choicesOf_ told_) n10) (it4 (m_X5_clash_23 plan_columnsWith_ roll_size_ roll_choicesOf_ v4 (it4 (m_X5_clash_10 toldCount_ plan_columnsWith_ roll_size_ roll_choicesOf_ told_) n10)) n23) v1 v2 v3 v5 = some (rr, o0, o1) := h
          unfold m_X5_clash_23 at h
          refine lv_iload hx hb dX5_clash_23 (lv_at hl 5 rfl) ?_
          refine lv_bipush (v := 10) hx hb dX5_clash_25 (by decide) ?_
          refine lv_icmp_ge (tgt := 107) hx hb dX5_clash_27 (by decide) (fun c_ => ?_) (fun c_ => ?_)
          · have h := (if_pos c_).symm.trans h
            obtain ⟨v4_7, e_v4_7⟩ : ∃ z : Int32, z = (v4 + 1) := ⟨_, rfl⟩
            have h := lt_use e_v4_7 h
            refine lv_iinc (v := v4_7) (lv' := [(4, .int v4_7), (0, .ref h0), (1, .int v1), (2, .int v2), (3, .int v3), (5, .int v5)]) hx hb dX5_clash_107 hl (k := 4) rfl (by rw [e_v4_7]; rfl) (by decide) rfl (fun ls hl => ?_)
            refine lv_goto (tgt := 10) hx hb dX5_clash_110 (by decide) ?_
            exact ih10 v1 v2 v3 v4_7 h _ _ _ hP hD hS (lv_sub hl [1, 2, 3, 4, 0] rfl)
          · have h := (if_neg c_).symm.trans h
            refine lv_aload_n hx hb dX5_clash_30 rfl (lv_at hl 0 rfl) ?_
            refine va_get (D := (dC, dI)) (ci := 5) (v := .ref h0_plan) (C := RX5) (T := TX5) (N := 10) hx hb hts hiX5 hown hK hP 0 rfl rfl 1 (by decide) (hts (.fieldLink RX5 19 "OptionLattice" "plan" "LOptionLattice$Plan;") (by decide +kernel)) (fun _ h9 => h9) rfl dX5_clash_31 ?_
            refine lv_iload hx hb dX5_clash_34 (lv_at hl 4 rfl) ?_
            refine lv_iload hx hb dX5_clash_36 (lv_at hl 5 rfl) ?_
            obtain ⟨r_8, hq, h⟩ := bd1_some h
            refine uV_i (b := h0_plan) (As := [.int v4, .int v5]) (rest := []) ⟨hx, hb, hml, hown, hts⟩ (c_X0_shareTheirOnlyColumn l dC dI cyC cyI cyJ h0_plan h0_plan_barsOf h0_plan_subjectOf h0_plan_teacherOf h0_plan_seatsOf h0_plan_columnOf h0_plan_columnsWith plan_columnCount_ plan_roomCount_ plan_size_ plan_columnsWith_ v4 v5 r_8 hq) (cwV 2 hts gX5_clash_X0_shareTheirOnlyColumn rfl rfl rfl (by decide +kernel) ⟨Nat.le_of_ble_eq_true rfl, Nat.le_of_ble_eq_true rfl⟩) hK hE hA hP hD hS [1, 2] rfl rfl rfl 0 0 rfl rfl rfl hl.1 rfl (Nat.le_of_ble_eq_true rfl) ⟨Nat.zero_le _, Nat.zero_le _⟩ dX5_clash_38 (fun H locs hP hD hS => ?_)
            have hP : va_P (dC, dI) vwCl [(h0, .inr (5, [.ref h0_text, .ref h0_plan, .ref h0_planDraft, .ref h0_roll, .ref h0_rollDraft, .ref h0_wayFinder, .ref h0_seating, .ref h0_demand, .ref h0_told, .int toldCount_])), (h0_plan, .inr (0, [.int plan_columnCount_, .int plan_roomCount_, .int plan_size_, .ref h0_plan_barsOf, .ref h0_plan_subjectOf, .ref h0_plan_teacherOf, .ref h0_plan_seatsOf, .ref h0_plan_columnOf, .ref h0_plan_columnsWith])), (h0_plan_columnsWith, .inl (cyI, 10, .inl plan_columnsWith_)), (h0_roll, .inr (1, [.ref h0_roll_choicesOf, .int roll_size_, .int roll_kept_])), (h0_roll_choicesOf, .inl (cyI, 24, .inl roll_choicesOf_)), (h0_told, .inl (cyJ, 6, .inr (.inl told_)))] H := hP
            have hD : va_D A [(h0, .inr (5, [.ref h0_text, .ref h0_plan, .ref h0_planDraft, .ref h0_roll, .ref h0_rollDraft, .ref h0_wayFinder, .ref h0_seating, .ref h0_demand, .ref h0_told, .int toldCount_])), (h0_plan, .inr (0, [.int plan_columnCount_, .int plan_roomCount_, .int plan_size_, .ref h0_plan_barsOf, .ref h0_plan_subjectOf, .ref h0_plan_teacherOf, .ref h0_plan_seatsOf, .ref h0_plan_columnOf, .ref h0_plan_columnsWith])), (h0_plan_columnsWith, .inl (cyI, 10, .inl plan_columnsWith_)), (h0_roll, .inr (1, [.ref h0_roll_choicesOf, .int roll_size_, .int roll_kept_])), (h0_roll_choicesOf, .inl (cyI, 24, .inl roll_choicesOf_)), (h0_told, .inl (cyJ, 6, .inr (.inl told_)))] := hD
            refine lv_if_eq (tgt := 66) hx hb dX5_clash_41 (by decide) (fun c_ => ?_) (fun c_ => ?_)
            · have h := (if_pos c_).symm.trans h
              refine lv_iconst (v := 0) hx hb dX5_clash_66 (by decide) ?_
              exact J67 v1 v2 v3 v5 0 h _ _ _ hP hD hS (lv_sub hl [0, 1, 2, 3, 4, 5] rfl)
            · have h := (if_neg c_).symm.trans h
              refine lv_aload_n hx hb dX5_clash_44 rfl (lv_at hl 0 rfl) ?_
              refine va_get (D := (dC, dI)) (ci := 5) (v := .ref h0_roll) (C := RX5) (T := TX5) (N := 10) hx hb hts hiX5 hown hK hP 0 rfl rfl 3 (by decide) (hts (.fieldLink RX5 29 "OptionLattice" "roll" "LOptionLattice$Roll;") (by decide +kernel)) (fun _ h9 => h9) rfl dX5_clash_45 ?_
              refine lv_iconst (v := 1) hx hb dX5_clash_48 (by decide) ?_
              refine lv_iload hx hb dX5_clash_49 (lv_at hl 4 rfl) ?_
              refine lv_ishl hx hb dX5_clash_51 ?_
              refine lv_iconst (v := 1) hx hb dX5_clash_52 (by decide) ?_
              refine lv_iload hx hb dX5_clash_53 (lv_at hl 5 rfl) ?_
              refine lv_ishl hx hb dX5_clash_55 ?_
              refine lv_ior hx hb dX5_clash_56 ?_
              obtain ⟨r_9, hq, h⟩ := bd1_some h
              refine uV_i (b := h0_roll) (As := [.int (((1 : Int32) <<< (v4 &&& 31)) ||| ((1 : Int32) <<< (v5 &&& 31)))]) (rest := []) ⟨hx, hb, hml, hown, hts⟩ (c_X1_choosersOf l dC dI cyC cyI cyJ h0_roll h0_roll_choicesOf roll_size_ roll_kept_ roll_choicesOf_ (((1 : Int32) <<< (v4 &&& 31)) ||| ((1 : Int32) <<< (v5 &&& 31))) r_9 hq) (cwV 1 hts gX5_clash_X1_choosersOf rfl rfl rfl (by decide +kernel) ⟨Nat.le_of_ble_eq_true rfl, Nat.le_of_ble_eq_true rfl⟩) hK hE hA hP hD hS [3, 4] rfl rfl rfl 1 0 rfl rfl rfl hl.1 rfl (Nat.le_of_ble_eq_true rfl) ⟨Nat.zero_le _, Nat.zero_le _⟩ dX5_clash_57 (fun H locs hP hD hS => ?_)
              have hP : va_P (dC, dI) vwCl [(h0, .inr (5, [.ref h0_text, .ref h0_plan, .ref h0_planDraft, .ref h0_roll, .ref h0_rollDraft, .ref h0_wayFinder, .ref h0_seating, .ref h0_demand, .ref h0_told, .int toldCount_])), (h0_plan, .inr (0, [.int plan_columnCount_, .int plan_roomCount_, .int plan_size_, .ref h0_plan_barsOf, .ref h0_plan_subjectOf, .ref h0_plan_teacherOf, .ref h0_plan_seatsOf, .ref h0_plan_columnOf, .ref h0_plan_columnsWith])), (h0_plan_columnsWith, .inl (cyI, 10, .inl plan_columnsWith_)), (h0_roll, .inr (1, [.ref h0_roll_choicesOf, .int roll_size_, .int roll_kept_])), (h0_roll_choicesOf, .inl (cyI, 24, .inl roll_choicesOf_)), (h0_told, .inl (cyJ, 6, .inr (.inl told_)))] H := hP
              have hD : va_D A [(h0, .inr (5, [.ref h0_text, .ref h0_plan, .ref h0_planDraft, .ref h0_roll, .ref h0_rollDraft, .ref h0_wayFinder, .ref h0_seating, .ref h0_demand, .ref h0_told, .int toldCount_])), (h0_plan, .inr (0, [.int plan_columnCount_, .int plan_roomCount_, .int plan_size_, .ref h0_plan_barsOf, .ref h0_plan_subjectOf, .ref h0_plan_teacherOf, .ref h0_plan_seatsOf, .ref h0_plan_columnOf, .ref h0_plan_columnsWith])), (h0_plan_columnsWith, .inl (cyI, 10, .inl plan_columnsWith_)), (h0_roll, .inr (1, [.ref h0_roll_choicesOf, .int roll_size_, .int roll_kept_])), (h0_roll_choicesOf, .inl (cyI, 24, .inl roll_choicesOf_)), (h0_told, .inl (cyJ, 6, .inr (.inl told_)))] := hD
              obtain ⟨r_10, hq, h⟩ := bd1_some h
              refine uS_i (As := [.int r_9]) (rest := []) ⟨hx, hb, hml, hown, hts⟩ (c_J6_bitCount_0f7a4 l dC dI cyC cyI cyJ r_9 r_10 hq) (va_cwS 1 hts gX5_clash_J6_bitCount_0f7a4 rfl rfl rfl (by decide +kernel) ⟨Nat.le_of_ble_eq_true rfl, Nat.le_of_ble_eq_true rfl⟩) hK hE hA hP hD hS [] rfl rfl rfl rfl hl.1 rfl (Nat.le_of_ble_eq_true rfl) ⟨Nat.zero_le _, Nat.zero_le _⟩ dX5_clash_60 (fun H locs hP hD hS => ?_)
              have hP : va_P (dC, dI) vwCl [(h0, .inr (5, [.ref h0_text, .ref h0_plan, .ref h0_planDraft, .ref h0_roll, .ref h0_rollDraft, .ref h0_wayFinder, .ref h0_seating, .ref h0_demand, .ref h0_told, .int toldCount_])), (h0_plan, .inr (0, [.int plan_columnCount_, .int plan_roomCount_, .int plan_size_, .ref h0_plan_barsOf, .ref h0_plan_subjectOf, .ref h0_plan_teacherOf, .ref h0_plan_seatsOf, .ref h0_plan_columnOf, .ref h0_plan_columnsWith])), (h0_plan_columnsWith, .inl (cyI, 10, .inl plan_columnsWith_)), (h0_roll, .inr (1, [.ref h0_roll_choicesOf, .int roll_size_, .int roll_kept_])), (h0_roll_choicesOf, .inl (cyI, 24, .inl roll_choicesOf_)), (h0_told, .inl (cyJ, 6, .inr (.inl told_)))] H := hP
              have hD : va_D A [(h0, .inr (5, [.ref h0_text, .ref h0_plan, .ref h0_planDraft, .ref h0_roll, .ref h0_rollDraft, .ref h0_wayFinder, .ref h0_seating, .ref h0_demand, .ref h0_told, .int toldCount_])), (h0_plan, .inr (0, [.int plan_columnCount_, .int plan_roomCount_, .int plan_size_, .ref h0_plan_barsOf, .ref h0_plan_subjectOf, .ref h0_plan_teacherOf, .ref h0_plan_seatsOf, .ref h0_plan_columnOf, .ref h0_plan_columnsWith])), (h0_plan_columnsWith, .inl (cyI, 10, .inl plan_columnsWith_)), (h0_roll, .inr (1, [.ref h0_roll_choicesOf, .int roll_size_, .int roll_kept_])), (h0_roll_choicesOf, .inl (cyI, 24, .inl roll_choicesOf_)), (h0_told, .inl (cyJ, 6, .inr (.inl told_)))] := hD
              refine lv_goto (tgt := 67) hx hb dX5_clash_63 (by decide) ?_
              exact J67 v1 v2 v3 v5 r_10 h _ _ _ hP hD hS (lv_sub hl [0, 1, 2, 3, 4, 5] rfl)
      intro v1 v2 v3 v4 h H locs ls hP hD hS hl
      have h : m_X5_clash_10 toldCount_ plan_columnsWith_ roll_size_ roll_choicesOf_ told_ (it4 (m_X5_clash_10 toldCount_ plan_columnsWith_ roll_size_ roll_choicesOf_ told_) n10) v1 v2 v3 v4 = some (rr, o0, o1) := h
      unfold m_X5_clash_10 at h
      refine lv_iload hx hb dX5_clash_10 (lv_at hl 4 rfl) ?_
      refine lv_bipush (v := 10) hx hb dX5_clash_12 (by decide) ?_
      refine lv_icmp_ge (tgt := 113) hx hb dX5_clash_14 (by decide) (fun c_ => ?_) (fun c_ => ?_)
      · have h := (if_pos c_).symm.trans h
        exact J113 v1 v2 v3 h _ _ _ hP hD hS (lv_sub hl [0, 1, 2, 3] rfl)
      · have h := (if_neg c_).symm.trans h
        refine lv_iload hx hb dX5_clash_17 (lv_at hl 4 rfl) ?_
        refine lv_iconst (v := 1) hx hb dX5_clash_19 (by decide) ?_
        refine lv_iadd hx hb dX5_clash_20 ?_
        refine lv_topi (fun v5_11 e_v5_11 => ?_)
        have h := lt_use e_v5_11 h
        refine lv_istore (lv' := [(5, .int v5_11), (0, .ref h0), (1, .int v1), (2, .int v2), (3, .int v3), (4, .int v4)]) hx hb dX5_clash_21 hl (by decide) rfl (fun ls hl => ?_)
        exact L23 v4 1100 v1 v2 v3 v5_11 h _ _ _ hP hD hS (lv_sub hl [1, 2, 3, 4, 5, 0] rfl)
  unfold m_X5_clash at h
  refine lv_iconst (v := 0) hx hb dX5_clash_0 (by decide) ?_
  refine lv_istore_n (lv' := [(1, .int 0), (0, .ref h0)]) hx hb dX5_clash_1 rfl hl (by decide) rfl (fun ls hl => ?_)
  refine lv_bipush (v := (-2)) hx hb dX5_clash_2 (by decide) ?_
  refine lv_istore_n (lv' := [(2, .int (-2)), (1, .int 0), (0, .ref h0)]) hx hb dX5_clash_4 rfl hl (by decide) rfl (fun ls hl => ?_)
  refine lv_iconst (v := (-1)) hx hb dX5_clash_5 (by decide) ?_
  refine lv_istore_n (lv' := [(3, .int (-1)), (2, .int (-2)), (1, .int 0), (0, .ref h0)]) hx hb dX5_clash_6 rfl hl (by decide) rfl (fun ls hl => ?_)
  refine lv_iconst (v := 0) hx hb dX5_clash_7 (by decide) ?_
  refine lv_istore (lv' := [(4, .int 0), (3, .int (-1)), (2, .int (-2)), (1, .int 0), (0, .ref h0)]) hx hb dX5_clash_8 hl (by decide) rfl (fun ls hl => ?_)
  exact L10  1100 0 (-2) (-1) 0 h _ _ _ hP hD hS (lv_sub hl [4, 3, 2, 1, 0] rfl)

def m_X5_fittingMoved (plan_size_ : Int32) (plan_subjectOf_ : Nat → Int32) (plan_columnOf_ : Nat → Int32) (plan_columnsWith_ : Nat → Int32) (roll_size_ : Int32) (roll_choicesOf_ : Nat → Int32) (v1 : Int32) (v2 : Int32) (v3 : Int32) : Option (Int32 × (Nat → Int32) × (Nat → Int32)) :=
  gd (inb v2 16) (lt' (plan_columnOf_ v2.toNatClampNeg) (fun v4_1 => bd2 (m_X0_place plan_size_ plan_subjectOf_ plan_columnOf_ plan_columnsWith_ v2 v3) (fun plan_columnOf_2 plan_columnsWith_3 => gd (inb v2 16) (bd1 (m_X5_fittingAnew plan_columnsWith_3 roll_size_ roll_choicesOf_ v1 ((1 : Int32) <<< ((plan_subjectOf_ v2.toNatClampNeg) &&& 31))) (fun r_4 => bd2 (m_X0_place plan_size_ plan_subjectOf_ plan_columnOf_2 plan_columnsWith_3 v2 v4_1) (fun plan_columnOf_5 plan_columnsWith_6 => some (r_4, plan_columnOf_5, plan_columnsWith_6)))))))
abbrev rmX5_fittingMoved : Room := { frames := 5, cells := 0, slots := 0, locals := 117 }
set_option maxHeartbeats 4000000 in
set_option maxRecDepth 100000 in
theorem c_X5_fittingMoved (l : Launch) (dC : Nat → ClassId) (dI : Nat → Nat → Nat) (cyC cyI cyJ : ClassId) (h0 h0_text h0_plan h0_plan_barsOf h0_plan_subjectOf h0_plan_teacherOf h0_plan_seatsOf h0_plan_columnOf h0_plan_columnsWith h0_planDraft h0_roll h0_roll_choicesOf h0_rollDraft h0_wayFinder h0_seating h0_demand h0_told : Nat) (toldCount_ : Int32) (plan_columnCount_ : Int32) (plan_roomCount_ : Int32) (plan_size_ : Int32) (plan_subjectOf_ : Nat → Int32) (plan_columnOf_ : Nat → Int32) (plan_columnsWith_ : Nat → Int32) (roll_size_ : Int32) (roll_kept_ : Int32) (roll_choicesOf_ : Nat → Int32) (v1 : Int32) (v2 : Int32) (v3 : Int32) (rr : Int32) (o0 : Nat → Int32) (o1 : Nat → Int32) (h : m_X5_fittingMoved plan_size_ plan_subjectOf_ plan_columnOf_ plan_columnsWith_ roll_size_ roll_choicesOf_ v1 v2 v3 = some (rr, o0, o1)) : uMi l yX5_fittingMoved wsX5_fittingMoved rmX5_fittingMoved (dC, dI) [(cyC, .char), (cyI, .int), (cyJ, .long)] [.ref h0, .int v1, .int v2, .int v3] [(h0, .inr (5, [.ref h0_text, .ref h0_plan, .ref h0_planDraft, .ref h0_roll, .ref h0_rollDraft, .ref h0_wayFinder, .ref h0_seating, .ref h0_demand, .ref h0_told, .int toldCount_])), (h0_plan, .inr (0, [.int plan_columnCount_, .int plan_roomCount_, .int plan_size_, .ref h0_plan_barsOf, .ref h0_plan_subjectOf, .ref h0_plan_teacherOf, .ref h0_plan_seatsOf, .ref h0_plan_columnOf, .ref h0_plan_columnsWith])), (h0_plan_subjectOf, .inl (cyI, 16, .inl plan_subjectOf_)), (h0_plan_columnOf, .inl (cyI, 16, .inl plan_columnOf_)), (h0_plan_columnsWith, .inl (cyI, 10, .inl plan_columnsWith_)), (h0_roll, .inr (1, [.ref h0_roll_choicesOf, .int roll_size_, .int roll_kept_])), (h0_roll_choicesOf, .inl (cyI, 24, .inl roll_choicesOf_))] [(h0, .inr (5, [.ref h0_text, .ref h0_plan, .ref h0_planDraft, .ref h0_roll, .ref h0_rollDraft, .ref h0_wayFinder, .ref h0_seating, .ref h0_demand, .ref h0_told, .int toldCount_])), (h0_plan, .inr (0, [.int plan_columnCount_, .int plan_roomCount_, .int plan_size_, .ref h0_plan_barsOf, .ref h0_plan_subjectOf, .ref h0_plan_teacherOf, .ref h0_plan_seatsOf, .ref h0_plan_columnOf, .ref h0_plan_columnsWith])), (h0_plan_subjectOf, .inl (cyI, 16, .inl plan_subjectOf_)), (h0_plan_columnOf, .inl (cyI, 16, .inl o0)), (h0_plan_columnsWith, .inl (cyI, 10, .inl o1)), (h0_roll, .inr (1, [.ref h0_roll_choicesOf, .int roll_size_, .int roll_kept_])), (h0_roll_choicesOf, .inl (cyI, 24, .inl roll_choicesOf_))] rr := by
  refine uMi.of (cc := cX5_fittingMoved) (maxL := 6) (by decide) rfl (Nat.le_of_ble_eq_true rfl) (fun p e s m args below meth c A ls Q hx hb hml hown hts hA hP hK hD hE hS hl hret => ?_)
  have hown : s.vm.findClass RX5 = some m.cls := hown
  have hl : lv_has ls 6 [(0, .ref h0), (1, .int v1), (2, .int v2), (3, .int v3)] := hl
  have hiX0 : ∀ w ∈ u_ws RX0 TX0 9, w ∈ wsX5_fittingMoved := fun _ h9 => List.mem_cons_of_mem _ (List.mem_append_left _ (List.mem_append_right _ h9))
  have hiX5 : ∀ w ∈ u_ws RX5 TX5 10, w ∈ wsX5_fittingMoved := fun _ h9 => List.mem_cons_of_mem _ (List.mem_append_left _ (List.mem_append_left _ (List.mem_append_right _ h9)))
  unfold m_X5_fittingMoved at h
  refine lv_aload_n hx hb dX5_fittingMoved_0 rfl (lv_at hl 0 rfl) ?_
  refine va_get (D := (dC, dI)) (ci := 5) (v := .ref h0_plan) (C := RX5) (T := TX5) (N := 10) hx hb hts hiX5 hown hK hP 0 rfl rfl 1 (by decide) (hts (.fieldLink RX5 19 "OptionLattice" "plan" "LOptionLattice$Plan;") (by decide +kernel)) (fun _ h9 => h9) rfl dX5_fittingMoved_1 ?_
  refine va_getN (host := "OptionLattice") (D := (dC, dI)) (ci := 0) (v := .ref h0_plan_columnOf) (C := RX0) (T := TX0) (N := 9) hx hb hts hiX0 hown hK hP 1 rfl rfl 7 (by decide) (va_Nw.use rfl (hE.1 ("OptionLattice", 122, "OptionLattice$Plan", "columnOf", "[I") (List.mem_of_getElem? (i := 13) rfl))) (fun _ h9 => h9) rfl dX5_fittingMoved_4 ?_
  refine lv_iload_n hx hb dX5_fittingMoved_7 rfl (lv_at hl 2 rfl) ?_
  obtain ⟨g_, h⟩ := gd_some h
  refine va_iald hx hb hK hP 3 1 rfl rfl (inb_in g_) dX5_fittingMoved_8 ?_
  refine lv_topi (fun v4_1 e_v4_1 => ?_)
  have h := lt_use e_v4_1 h
  refine lv_istore (lv' := [(4, .int v4_1), (0, .ref h0), (1, .int v1), (2, .int v2), (3, .int v3)]) hx hb dX5_fittingMoved_9 hl (by decide) rfl (fun ls hl => ?_)
  refine lv_aload_n hx hb dX5_fittingMoved_11 rfl (lv_at hl 1 rfl) ?_
  refine va_get (D := (dC, dI)) (ci := 5) (v := .ref h0_plan) (C := RX5) (T := TX5) (N := 10) hx hb hts hiX5 hown hK hP 0 rfl rfl 1 (by decide) (hts (.fieldLink RX5 19 "OptionLattice" "plan" "LOptionLattice$Plan;") (by decide +kernel)) (fun _ h9 => h9) rfl dX5_fittingMoved_12 ?_
  refine lv_iload_n hx hb dX5_fittingMoved_15 rfl (lv_at hl 3 rfl) ?_
  refine lv_iload_n hx hb dX5_fittingMoved_16 rfl (lv_at hl 4 rfl) ?_
  obtain ⟨plan_columnOf_2, plan_columnsWith_3, hq, h⟩ := bd2_some h
  refine uV_v (b := h0_plan) (As := [.int v2, .int v3]) (rest := []) ⟨hx, hb, hml, hown, hts⟩ (c_X0_place l dC dI cyC cyI cyJ h0_plan h0_plan_barsOf h0_plan_subjectOf h0_plan_teacherOf h0_plan_seatsOf h0_plan_columnOf h0_plan_columnsWith plan_columnCount_ plan_roomCount_ plan_size_ plan_subjectOf_ plan_columnOf_ plan_columnsWith_ v2 v3 plan_columnOf_2 plan_columnsWith_3 hq) (cwV 2 hts gX5_fittingMoved_X0_place rfl rfl rfl (by decide +kernel) ⟨Nat.le_of_ble_eq_true rfl, Nat.le_of_ble_eq_true rfl⟩) hK hE hA hP hD hS [1, 2, 3, 4] rfl rfl rfl 0 0 rfl rfl rfl hl.1 rfl (Nat.le_of_ble_eq_true rfl) ⟨Nat.zero_le _, Nat.zero_le _⟩ dX5_fittingMoved_17 (fun H locs hP hD hS => ?_)
  have hP : va_P (dC, dI) vwCl [(h0, .inr (5, [.ref h0_text, .ref h0_plan, .ref h0_planDraft, .ref h0_roll, .ref h0_rollDraft, .ref h0_wayFinder, .ref h0_seating, .ref h0_demand, .ref h0_told, .int toldCount_])), (h0_plan, .inr (0, [.int plan_columnCount_, .int plan_roomCount_, .int plan_size_, .ref h0_plan_barsOf, .ref h0_plan_subjectOf, .ref h0_plan_teacherOf, .ref h0_plan_seatsOf, .ref h0_plan_columnOf, .ref h0_plan_columnsWith])), (h0_plan_subjectOf, .inl (cyI, 16, .inl plan_subjectOf_)), (h0_plan_columnOf, .inl (cyI, 16, .inl plan_columnOf_2)), (h0_plan_columnsWith, .inl (cyI, 10, .inl plan_columnsWith_3)), (h0_roll, .inr (1, [.ref h0_roll_choicesOf, .int roll_size_, .int roll_kept_])), (h0_roll_choicesOf, .inl (cyI, 24, .inl roll_choicesOf_))] H := hP
  have hD : va_D A [(h0, .inr (5, [.ref h0_text, .ref h0_plan, .ref h0_planDraft, .ref h0_roll, .ref h0_rollDraft, .ref h0_wayFinder, .ref h0_seating, .ref h0_demand, .ref h0_told, .int toldCount_])), (h0_plan, .inr (0, [.int plan_columnCount_, .int plan_roomCount_, .int plan_size_, .ref h0_plan_barsOf, .ref h0_plan_subjectOf, .ref h0_plan_teacherOf, .ref h0_plan_seatsOf, .ref h0_plan_columnOf, .ref h0_plan_columnsWith])), (h0_plan_subjectOf, .inl (cyI, 16, .inl plan_subjectOf_)), (h0_plan_columnOf, .inl (cyI, 16, .inl plan_columnOf_2)), (h0_plan_columnsWith, .inl (cyI, 10, .inl plan_columnsWith_3)), (h0_roll, .inr (1, [.ref h0_roll_choicesOf, .int roll_size_, .int roll_kept_])), (h0_roll_choicesOf, .inl (cyI, 24, .inl roll_choicesOf_))] := hD
  refine lv_aload_n hx hb dX5_fittingMoved_20 rfl (lv_at hl 1 rfl) ?_
  refine lv_iload_n hx hb dX5_fittingMoved_21 rfl (lv_at hl 2 rfl) ?_
  refine lv_iconst (v := 1) hx hb dX5_fittingMoved_22 (by decide) ?_
  refine lv_aload_n hx hb dX5_fittingMoved_23 rfl (lv_at hl 1 rfl) ?_
  refine va_get (D := (dC, dI)) (ci := 5) (v := .ref h0_plan) (C := RX5) (T := TX5) (N := 10) hx hb hts hiX5 hown hK hP 0 rfl rfl 1 (by decide) (hts (.fieldLink RX5 19 "OptionLattice" "plan" "LOptionLattice$Plan;") (by decide +kernel)) (fun _ h9 => h9) rfl dX5_fittingMoved_24 ?_
  refine va_getN (host := "OptionLattice") (D := (dC, dI)) (ci := 0) (v := .ref h0_plan_subjectOf) (C := RX0) (T := TX0) (N := 9) hx hb hts hiX0 hown hK hP 1 rfl rfl 4 (by decide) (va_Nw.use rfl (hE.1 ("OptionLattice", 174, "OptionLattice$Plan", "subjectOf", "[I") (List.mem_of_getElem? (i := 8) rfl))) (fun _ h9 => h9) rfl dX5_fittingMoved_27 ?_
  refine lv_iload_n hx hb dX5_fittingMoved_30 rfl (lv_at hl 3 rfl) ?_
  obtain ⟨g_, h⟩ := gd_some h
  refine va_iald hx hb hK hP 2 1 rfl rfl (inb_in g_) dX5_fittingMoved_31 ?_
  refine lv_ishl hx hb dX5_fittingMoved_32 ?_
  obtain ⟨r_4, hq, h⟩ := bd1_some h
  refine uV_i (b := h0) (As := [.int v1, .int ((1 : Int32) <<< ((plan_subjectOf_ v2.toNatClampNeg) &&& 31))]) (rest := []) ⟨hx, hb, hml, hown, hts⟩ (c_X5_fittingAnew l dC dI cyC cyI cyJ h0 h0_text h0_plan h0_plan_barsOf h0_plan_subjectOf h0_plan_teacherOf h0_plan_seatsOf h0_plan_columnOf h0_plan_columnsWith h0_planDraft h0_roll h0_roll_choicesOf h0_rollDraft h0_wayFinder h0_seating h0_demand h0_told toldCount_ plan_columnCount_ plan_roomCount_ plan_size_ plan_columnsWith_3 roll_size_ roll_kept_ roll_choicesOf_ v1 ((1 : Int32) <<< ((plan_subjectOf_ v2.toNatClampNeg) &&& 31)) r_4 hq) (cwV 2 hts gX5_fittingMoved_X5_fittingAnew rfl rfl rfl (by decide +kernel) ⟨Nat.le_of_ble_eq_true rfl, Nat.le_of_ble_eq_true rfl⟩) hK hE hA hP hD hS [0, 1, 4, 5, 6] rfl rfl rfl 5 0 rfl rfl rfl hl.1 rfl (Nat.le_of_ble_eq_true rfl) ⟨Nat.zero_le _, Nat.zero_le _⟩ dX5_fittingMoved_33 (fun H locs hP hD hS => ?_)
  have hP : va_P (dC, dI) vwCl [(h0, .inr (5, [.ref h0_text, .ref h0_plan, .ref h0_planDraft, .ref h0_roll, .ref h0_rollDraft, .ref h0_wayFinder, .ref h0_seating, .ref h0_demand, .ref h0_told, .int toldCount_])), (h0_plan, .inr (0, [.int plan_columnCount_, .int plan_roomCount_, .int plan_size_, .ref h0_plan_barsOf, .ref h0_plan_subjectOf, .ref h0_plan_teacherOf, .ref h0_plan_seatsOf, .ref h0_plan_columnOf, .ref h0_plan_columnsWith])), (h0_plan_subjectOf, .inl (cyI, 16, .inl plan_subjectOf_)), (h0_plan_columnOf, .inl (cyI, 16, .inl plan_columnOf_2)), (h0_plan_columnsWith, .inl (cyI, 10, .inl plan_columnsWith_3)), (h0_roll, .inr (1, [.ref h0_roll_choicesOf, .int roll_size_, .int roll_kept_])), (h0_roll_choicesOf, .inl (cyI, 24, .inl roll_choicesOf_))] H := hP
  have hD : va_D A [(h0, .inr (5, [.ref h0_text, .ref h0_plan, .ref h0_planDraft, .ref h0_roll, .ref h0_rollDraft, .ref h0_wayFinder, .ref h0_seating, .ref h0_demand, .ref h0_told, .int toldCount_])), (h0_plan, .inr (0, [.int plan_columnCount_, .int plan_roomCount_, .int plan_size_, .ref h0_plan_barsOf, .ref h0_plan_subjectOf, .ref h0_plan_teacherOf, .ref h0_plan_seatsOf, .ref h0_plan_columnOf, .ref h0_plan_columnsWith])), (h0_plan_subjectOf, .inl (cyI, 16, .inl plan_subjectOf_)), (h0_plan_columnOf, .inl (cyI, 16, .inl plan_columnOf_2)), (h0_plan_columnsWith, .inl (cyI, 10, .inl plan_columnsWith_3)), (h0_roll, .inr (1, [.ref h0_roll_choicesOf, .int roll_size_, .int roll_kept_])), (h0_roll_choicesOf, .inl (cyI, 24, .inl roll_choicesOf_))] := hD
  refine lv_istore (lv' := [(5, .int r_4), (4, .int v4_1), (0, .ref h0), (1, .int v1), (2, .int v2), (3, .int v3)]) hx hb dX5_fittingMoved_36 hl (by decide) rfl (fun ls hl => ?_)
  refine lv_aload_n hx hb dX5_fittingMoved_38 rfl (lv_at hl 2 rfl) ?_
  refine va_get (D := (dC, dI)) (ci := 5) (v := .ref h0_plan) (C := RX5) (T := TX5) (N := 10) hx hb hts hiX5 hown hK hP 0 rfl rfl 1 (by decide) (hts (.fieldLink RX5 19 "OptionLattice" "plan" "LOptionLattice$Plan;") (by decide +kernel)) (fun _ h9 => h9) rfl dX5_fittingMoved_39 ?_
  refine lv_iload_n hx hb dX5_fittingMoved_42 rfl (lv_at hl 4 rfl) ?_
  refine lv_iload hx hb dX5_fittingMoved_43 (lv_at hl 1 rfl) ?_
  obtain ⟨plan_columnOf_5, plan_columnsWith_6, hq, h⟩ := bd2_some h
  refine uV_v (b := h0_plan) (As := [.int v2, .int v4_1]) (rest := []) ⟨hx, hb, hml, hown, hts⟩ (c_X0_place l dC dI cyC cyI cyJ h0_plan h0_plan_barsOf h0_plan_subjectOf h0_plan_teacherOf h0_plan_seatsOf h0_plan_columnOf h0_plan_columnsWith plan_columnCount_ plan_roomCount_ plan_size_ plan_subjectOf_ plan_columnOf_2 plan_columnsWith_3 v2 v4_1 plan_columnOf_5 plan_columnsWith_6 hq) (cwV 2 hts gX5_fittingMoved_X0_place rfl rfl rfl (by decide +kernel) ⟨Nat.le_of_ble_eq_true rfl, Nat.le_of_ble_eq_true rfl⟩) hK hE hA hP hD hS [1, 2, 3, 4] rfl rfl rfl 0 0 rfl rfl rfl hl.1 rfl (Nat.le_of_ble_eq_true rfl) ⟨Nat.zero_le _, Nat.zero_le _⟩ dX5_fittingMoved_45 (fun H locs hP hD hS => ?_)
  have hP : va_P (dC, dI) vwCl [(h0, .inr (5, [.ref h0_text, .ref h0_plan, .ref h0_planDraft, .ref h0_roll, .ref h0_rollDraft, .ref h0_wayFinder, .ref h0_seating, .ref h0_demand, .ref h0_told, .int toldCount_])), (h0_plan, .inr (0, [.int plan_columnCount_, .int plan_roomCount_, .int plan_size_, .ref h0_plan_barsOf, .ref h0_plan_subjectOf, .ref h0_plan_teacherOf, .ref h0_plan_seatsOf, .ref h0_plan_columnOf, .ref h0_plan_columnsWith])), (h0_plan_subjectOf, .inl (cyI, 16, .inl plan_subjectOf_)), (h0_plan_columnOf, .inl (cyI, 16, .inl plan_columnOf_5)), (h0_plan_columnsWith, .inl (cyI, 10, .inl plan_columnsWith_6)), (h0_roll, .inr (1, [.ref h0_roll_choicesOf, .int roll_size_, .int roll_kept_])), (h0_roll_choicesOf, .inl (cyI, 24, .inl roll_choicesOf_))] H := hP
  have hD : va_D A [(h0, .inr (5, [.ref h0_text, .ref h0_plan, .ref h0_planDraft, .ref h0_roll, .ref h0_rollDraft, .ref h0_wayFinder, .ref h0_seating, .ref h0_demand, .ref h0_told, .int toldCount_])), (h0_plan, .inr (0, [.int plan_columnCount_, .int plan_roomCount_, .int plan_size_, .ref h0_plan_barsOf, .ref h0_plan_subjectOf, .ref h0_plan_teacherOf, .ref h0_plan_seatsOf, .ref h0_plan_columnOf, .ref h0_plan_columnsWith])), (h0_plan_subjectOf, .inl (cyI, 16, .inl plan_subjectOf_)), (h0_plan_columnOf, .inl (cyI, 16, .inl plan_columnOf_5)), (h0_plan_columnsWith, .inl (cyI, 10, .inl plan_columnsWith_6)), (h0_roll, .inr (1, [.ref h0_roll_choicesOf, .int roll_size_, .int roll_kept_])), (h0_roll_choicesOf, .inl (cyI, 24, .inl roll_choicesOf_))] := hD
  refine lv_iload hx hb dX5_fittingMoved_48 (lv_at hl 0 rfl) ?_
  have h : some (r_4, plan_columnOf_5, plan_columnsWith_6) = some (rr, o0, o1) := h
  have z0 := Option.some.inj h
  obtain ⟨rfl, z1⟩ := Prod.mk.inj z0
  obtain ⟨rfl, z2⟩ := Prod.mk.inj z1
  obtain rfl := z2
  exact hret _ _ _ _ hP hS rfl dX5_fittingMoved_50
