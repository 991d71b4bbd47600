def m_X2_seatAll_38 (left_ : Nat → Int32) (sitting_ : Nat → Int32) (openColumns_ : Nat → Int32) (wayFinder_first_ : Nat → Int32) (wayFinder_startsAt_ : Nat → Int64) (a1_size_ : Int32) (a1_subjectOf_ : Nat → Int32) (a1_columnOf_ : Nat → Int32) (a2_choicesOf_ : Nat → Int32) (v4 : Int32) (v5 : Int32) (t0 : Int32) (rec11 : Int32 → Int32 → (Nat → Int32) → (Nat → Int32) → (Nat → Int32) → (Nat → Int32) → (Nat → Int64) → Option (Int32 × (Nat → Int32) × (Nat → Int32) × (Nat → Int32) × (Nat → Int32) × (Nat → Int64))) : Option (Int32 × (Nat → Int32) × (Nat → Int32) × (Nat → Int32) × (Nat → Int32) × (Nat → Int64)) :=
  gd (inb t0 24) (lt' (a2_choicesOf_ t0.toNatClampNeg) (fun v7_1 => bd3 (m_X4_findFirst wayFinder_first_ wayFinder_startsAt_ openColumns_ v7_1) (fun r_2 wayFinder_first_3 wayFinder_startsAt_4 => (if r_2 = 0 then lt' (v5 + 1) (fun v5_5 => rec11 v4 v5_5 left_ sitting_ openColumns_ wayFinder_first_3 wayFinder_startsAt_4) else bd3 (m_X2_seatOne left_ sitting_ openColumns_ wayFinder_first_3 a1_size_ a1_subjectOf_ a1_columnOf_ t0 v7_1) (fun left_6 sitting_7 openColumns_8 => lt' (v4 ||| ((1 : Int32) <<< (t0 &&& 31))) (fun v4_9 => lt' (v5 + 1) (fun v5_10 => rec11 v4_9 v5_10 left_6 sitting_7 openColumns_8 wayFinder_first_3 wayFinder_startsAt_4)))))))
def m_X2_seatAll_11 (a1_size_ : Int32) (a1_subjectOf_ : Nat → Int32) (a1_columnOf_ : Nat → Int32) (a2_size_ : Int32) (a2_choicesOf_ : Nat → Int32) (v3 : Int32) (rec11 : Int32 → Int32 → (Nat → Int32) → (Nat → Int32) → (Nat → Int32) → (Nat → Int32) → (Nat → Int64) → Option (Int32 × (Nat → Int32) × (Nat → Int32) × (Nat → Int32) × (Nat → Int32) × (Nat → Int64))) : Int32 → Int32 → (Nat → Int32) → (Nat → Int32) → (Nat → Int32) → (Nat → Int32) → (Nat → Int64) → Option (Int32 × (Nat → Int32) × (Nat → Int32) × (Nat → Int32) × (Nat → Int32) × (Nat → Int64)) := fun v4 v5 left_ sitting_ openColumns_ wayFinder_first_ wayFinder_startsAt_ =>
  (if a2_size_ ≤ v5 then some (v4, left_, sitting_, openColumns_, wayFinder_first_, wayFinder_startsAt_) else (if v3 = 0 then m_X2_seatAll_38 left_ sitting_ openColumns_ wayFinder_first_ wayFinder_startsAt_ a1_size_ a1_subjectOf_ a1_columnOf_ a2_choicesOf_ v4 v5 v5 rec11 else m_X2_seatAll_38 left_ sitting_ openColumns_ wayFinder_first_ wayFinder_startsAt_ a1_size_ a1_subjectOf_ a1_columnOf_ a2_choicesOf_ v4 v5 ((a2_size_ - 1) - v5) rec11))
def m_X2_seatAll (left_ : Nat → Int32) (sitting_ : Nat → Int32) (openColumns_ : Nat → Int32) (wayFinder_first_ : Nat → Int32) (wayFinder_startsAt_ : Nat → Int64) (a1_size_ : Int32) (a1_subjectOf_ : Nat → Int32) (a1_seatsOf_ : Nat → Int32) (a1_columnOf_ : Nat → Int32) (a1_columnsWith_ : Nat → Int32) (a2_size_ : Int32) (a2_choicesOf_ : Nat → Int32) (v3 : Int32) : Option (Int32 × (Nat → Int32) × (Nat → Int32) × (Nat → Int32) × (Nat → Int32) × (Nat → Int64)) :=
  bd3 (m_X2_clear left_ sitting_ openColumns_ a1_size_ a1_seatsOf_ a1_columnsWith_) (fun left_11 sitting_12 openColumns_13 => it7 (m_X2_seatAll_11 a1_size_ a1_subjectOf_ a1_columnOf_ a2_size_ a2_choicesOf_ v3) 1100 0 0 left_11 sitting_12 openColumns_13 wayFinder_first_ wayFinder_startsAt_)
abbrev rmX2_seatAll : Room := { frames := 3, cells := 0, slots := 0, locals := 72 }
set_option maxHeartbeats 4000000 in
set_option maxRecDepth 100000 in
theorem c_X2_seatAll (l : Launch) (dC : Nat → ClassId) (dI : Nat → Nat → Nat) (cyC cyI cyJ : ClassId) (h0 h0_left h0_sitting h0_openColumns h0_wayFinder h0_wayFinder_first h0_wayFinder_startsAt h0_wayFinder_tally h1 h1_barsOf h1_subjectOf h1_teacherOf h1_seatsOf h1_columnOf h1_columnsWith h2 h2_choicesOf : Nat) (left_ : Nat → Int32) (sitting_ : Nat → Int32) (openColumns_ : Nat → Int32) (wayFinder_first_ : Nat → Int32) (wayFinder_startsAt_ : Nat → Int64) (a1_columnCount_ : Int32) (a1_roomCount_ : Int32) (a1_size_ : Int32) (a1_subjectOf_ : Nat → Int32) (a1_seatsOf_ : Nat → Int32) (a1_columnOf_ : Nat → Int32) (a1_columnsWith_ : Nat → Int32) (a2_size_ : Int32) (a2_kept_ : Int32) (a2_choicesOf_ : Nat → Int32) (v3 : Int32) (rr : Int32) (o0 : Nat → Int32) (o1 : Nat → Int32) (o2 : Nat → Int32) (o3 : Nat → Int32) (o4 : Nat → Int64) (h : m_X2_seatAll left_ sitting_ openColumns_ wayFinder_first_ wayFinder_startsAt_ a1_size_ a1_subjectOf_ a1_seatsOf_ a1_columnOf_ a1_columnsWith_ a2_size_ a2_choicesOf_ v3 = some (rr, o0, o1, o2, o3, o4)) : uMi l yX2_seatAll wsX2_seatAll rmX2_seatAll (dC, dI) [(cyC, .char), (cyI, .int), (cyJ, .long)] [.ref h0, .ref h1, .ref h2, .int v3] [(h0, .inr (2, [.ref h0_left, .ref h0_sitting, .ref h0_openColumns, .ref h0_wayFinder])), (h0_left, .inl (cyI, 16, .inl left_)), (h0_sitting, .inl (cyI, 16, .inl sitting_)), (h0_openColumns, .inl (cyI, 10, .inl openColumns_)), (h0_wayFinder, .inr (4, [.ref h0_wayFinder_first, .ref h0_wayFinder_startsAt, .ref h0_wayFinder_tally])), (h0_wayFinder_first, .inl (cyI, 6, .inl wayFinder_first_)), (h0_wayFinder_startsAt, .inl (cyJ, 11, .inr (.inl wayFinder_startsAt_))), (h1, .inr (0, [.int a1_columnCount_, .int a1_roomCount_, .int a1_size_, .ref h1_barsOf, .ref h1_subjectOf, .ref h1_teacherOf, .ref h1_seatsOf, .ref h1_columnOf, .ref h1_columnsWith])), (h1_subjectOf, .inl (cyI, 16, .inl a1_subjectOf_)), (h1_seatsOf, .inl (cyI, 16, .inl a1_seatsOf_)), (h1_columnOf, .inl (cyI, 16, .inl a1_columnOf_)), (h1_columnsWith, .inl (cyI, 10, .inl a1_columnsWith_)), (h2, .inr (1, [.ref h2_choicesOf, .int a2_size_, .int a2_kept_])), (h2_choicesOf, .inl (cyI, 24, .inl a2_choicesOf_))] [(h0, .inr (2, [.ref h0_left, .ref h0_sitting, .ref h0_openColumns, .ref h0_wayFinder])), (h0_left, .inl (cyI, 16, .inl o0)), (h0_sitting, .inl (cyI, 16, .inl o1)), (h0_openColumns, .inl (cyI, 10, .inl o2)), (h0_wayFinder, .inr (4, [.ref h0_wayFinder_first, .ref h0_wayFinder_startsAt, .ref h0_wayFinder_tally])), (h0_wayFinder_first, .inl (cyI, 6, .inl o3)), (h0_wayFinder_startsAt, .inl (cyJ, 11, .inr (.inl o4))), (h1, .inr (0, [.int a1_columnCount_, .int a1_roomCount_, .int a1_size_, .ref h1_barsOf, .ref h1_subjectOf, .ref h1_teacherOf, .ref h1_seatsOf, .ref h1_columnOf, .ref h1_columnsWith])), (h1_subjectOf, .inl (cyI, 16, .inl a1_subjectOf_)), (h1_seatsOf, .inl (cyI, 16, .inl a1_seatsOf_)), (h1_columnOf, .inl (cyI, 16, .inl a1_columnOf_)), (h1_columnsWith, .inl (cyI, 10, .inl a1_columnsWith_)), (h2, .inr (1, [.ref h2_choicesOf, .int a2_size_, .int a2_kept_])), (h2_choicesOf, .inl (cyI, 24, .inl a2_choicesOf_))] rr := by
  refine uMi.of (cc := cX2_seatAll) (maxL := 8) (by decide) rfl (Nat.le_of_ble_eq_true rfl) (fun p e s m args below meth c A ls Q hx hb hml hown hts hA hP hK hD hE hS hl hret => ?_)
  have hown : s.vm.findClass RX2 = some m.cls := hown
  have hl : lv_has ls 8 [(0, .ref h0), (1, .ref h1), (2, .ref h2), (3, .int v3)] := hl
  have hiX1 : ∀ w ∈ u_ws RX1 TX1 3, w ∈ wsX2_seatAll := fun _ h9 => List.mem_cons_of_mem _ (List.mem_append_left _ (List.mem_append_left _ (List.mem_append_left _ (List.mem_append_right _ h9))))
  have hiX2 : ∀ w ∈ u_ws RX2 TX2 4, w ∈ wsX2_seatAll := fun _ h9 => List.mem_cons_of_mem _ (List.mem_append_left _ (List.mem_append_left _ (List.mem_append_right _ h9)))
  have L11 : ∀ (n11 : Nat), ∀ (v4 : Int32), ∀ (v5 : Int32), ∀ (left_ : Nat → Int32), ∀ (sitting_ : Nat → Int32), ∀ (openColumns_ : Nat → Int32), ∀ (wayFinder_first_ : Nat → Int32), ∀ (wayFinder_startsAt_ : Nat → Int64), it7 (m_X2_seatAll_11 a1_size_ a1_subjectOf_ a1_columnOf_ a2_size_ a2_choicesOf_ v3) n11 v4 v5 left_ sitting_ openColumns_ wayFinder_first_ wayFinder_startsAt_ = some (rr, o0, o1, o2, o3, o4) → ∀ (H : Heap) (locs : List Loc) (ls : Array Slot), va_P (dC, dI) vwCl [(h0, .inr (2, [.ref h0_left, .ref h0_sitting, .ref h0_openColumns, .ref h0_wayFinder])), (h0_left, .inl (cyI, 16, .inl left_)), (h0_sitting, .inl (cyI, 16, .inl sitting_)), (h0_openColumns, .inl (cyI, 10, .inl openColumns_)), (h0_wayFinder, .inr (4, [.ref h0_wayFinder_first, .ref h0_wayFinder_startsAt, .ref h0_wayFinder_tally])), (h0_wayFinder_first, .inl (cyI, 6, .inl wayFinder_first_)), (h0_wayFinder_startsAt, .inl (cyJ, 11, .inr (.inl wayFinder_startsAt_))), (h1, .inr (0, [.int a1_columnCount_, .int a1_roomCount_, .int a1_size_, .ref h1_barsOf, .ref h1_subjectOf, .ref h1_teacherOf, .ref h1_seatsOf, .ref h1_columnOf, .ref h1_columnsWith])), (h1_subjectOf, .inl (cyI, 16, .inl a1_subjectOf_)), (h1_seatsOf, .inl (cyI, 16, .inl a1_seatsOf_)), (h1_columnOf, .inl (cyI, 16, .inl a1_columnOf_)), (h1_columnsWith, .inl (cyI, 10, .inl a1_columnsWith_)), (h2, .inr (1, [.ref h2_choicesOf, .int a2_size_, .int a2_kept_])), (h2_choicesOf, .inl (cyI, 24, .inl a2_choicesOf_))] H → va_D A [(h0, .inr (2, [.ref h0_left, .ref h0_sitting, .ref h0_openColumns, .ref h0_wayFinder])), (h0_left, .inl (cyI, 16, .inl left_)), (h0_sitting, .inl (cyI, 16, .inl sitting_)), (h0_openColumns, .inl (cyI, 10, .inl openColumns_)), (h0_wayFinder, .inr (4, [.ref h0_wayFinder_first, .ref h0_wayFinder_startsAt, .ref h0_wayFinder_tally])), (h0_wayFinder_first, .inl (cyI, 6, .inl wayFinder_first_)), (h0_wayFinder_startsAt, .inl (cyJ, 11, .inr (.inl wayFinder_startsAt_))), (h1, .inr (0, [.int a1_columnCount_, .int a1_roomCount_, .int a1_size_, .ref h1_barsOf, .ref h1_subjectOf, .ref h1_teacherOf, .ref h1_seatsOf, .ref h1_columnOf, .ref h1_columnsWith])), (h1_subjectOf, .inl (cyI, 16, .inl a1_subjectOf_)), (h1_seatsOf, .inl (cyI, 16, .inl a1_seatsOf_)), (h1_columnOf, .inl (cyI, 16, .inl a1_columnOf_)), (h1_columnsWith, .inl (cyI, 10, .inl a1_columnsWith_)), (h2, .inr (1, [.ref h2_choicesOf, .int a2_size_, .int a2_kept_])), (h2_choicesOf, .inl (cyI, 24, .inl a2_choicesOf_))] → va_S A s.heap H locs → lv_has ls 8 [(0, .ref h0), (1, .ref h1), (2, .ref h2), (3, .int v3), (4, .int v4), (5, .int v5)] → W p l e rmX2_seatAll s m args below meth c H locs 0 0 Q (F0 m 11 ls []) := by
    intro n11
    induction n11 with
    | zero => intro v4 v5 left_ sitting_ openColumns_ wayFinder_first_ wayFinder_startsAt_ h; exact absurd h (fun z => it7_z z)
    | succ n11 ih11 =>
      have J38 : ∀ (v4 : Int32), ∀ (v5 : Int32), ∀ (t0 : Int32), ∀ (left_ : Nat → Int32), ∀ (sitting_ : Nat → Int32), ∀ (openColumns_ : Nat → Int32), ∀ (wayFinder_first_ : Nat → Int32), ∀ (wayFinder_startsAt_ : Nat → Int64), m_X2_seatAll_38 left_ sitting_ openColumns_ wayFinder_first_ wayFinder_startsAt_ a1_size_ a1_subjectOf_ a1_columnOf_ a2_choicesOf_ v4 v5 t0 (it7 (m_X2_seatAll_11 a1_size_ a1_subjectOf_ a1_columnOf_ a2_size_ a2_choicesOf_ v3) n11) = some (rr, o0, o1, o2, o3, o4) → ∀ (H : Heap) (locs : List Loc) (ls : Array Slot), va_P (dC, dI) vwCl [(h0, .inr (2, [.ref h0_left, .ref h0_sitting, .ref h0_openColumns, .ref h0_wayFinder])), (h0_left, .inl (cyI, 16, .inl left_)), (h0_sitting, .inl (cyI, 16, .inl sitting_)), (h0_openColumns, .inl (cyI, 10, .inl openColumns_)), (h0_wayFinder, .inr (4, [.ref h0_wayFinder_first, .ref h0_wayFinder_startsAt, .ref h0_wayFinder_tally])), (h0_wayFinder_first, .inl (cyI, 6, .inl wayFinder_first_)), (h0_wayFinder_startsAt, .inl (cyJ, 11, .inr (.inl wayFinder_startsAt_))), (h1, .inr (0, [.int a1_columnCount_, .int a1_roomCount_, .int a1_size_, .ref h1_barsOf, .ref h1_subjectOf, .ref h1_teacherOf, .ref h1_seatsOf, .ref h1_columnOf, .ref h1_columnsWith])), (h1_subjectOf, .inl (cyI, 16, .inl a1_subjectOf_)), (h1_seatsOf, .inl (cyI, 16, .inl a1_seatsOf_)), (h1_columnOf, .inl (cyI, 16, .inl a1_columnOf_)), (h1_columnsWith, .inl (cyI, 10, .inl a1_columnsWith_)), (h2, .inr (1, [.ref h2_choicesOf, .int a2_size_, .int a2_kept_])), (h2_choicesOf, .inl (cyI, 24, .inl a2_choicesOf_))] H → va_D A [(h0, .inr (2, [.ref h0_left, .ref h0_sitting, .ref h0_openColumns, .ref h0_wayFinder])), (h0_left, .inl (cyI, 16, .inl left_)), (h0_sitting, .inl (cyI, 16, .inl sitting_)), (h0_openColumns, .inl (cyI, 10, .inl openColumns_)), (h0_wayFinder, .inr (4, [.ref h0_wayFinder_first, .ref h0_wayFinder_startsAt, .ref h0_wayFinder_tally])), (h0_wayFinder_first, .inl (cyI, 6, .inl wayFinder_first_)), (h0_wayFinder_startsAt, .inl (cyJ, 11, .inr (.inl wayFinder_startsAt_))), (h1, .inr (0, [.int a1_columnCount_, .int a1_roomCount_, .int a1_size_, .ref h1_barsOf, .ref h1_subjectOf, .ref h1_teacherOf, .ref h1_seatsOf, .ref h1_columnOf, .ref h1_columnsWith])), (h1_subjectOf, .inl (cyI, 16, .inl a1_subjectOf_)), (h1_seatsOf, .inl (cyI, 16, .inl a1_seatsOf_)), (h1_columnOf, .inl (cyI, 16, .inl a1_columnOf_)), (h1_columnsWith, .inl (cyI, 10, .inl a1_columnsWith_)), (h2, .inr (1, [.ref h2_choicesOf, .int a2_size_, .int a2_kept_])), (h2_choicesOf, .inl (cyI, 24, .inl a2_choicesOf_))] → va_S A s.heap H locs → lv_has ls 8 [(0, .ref h0), (1, .ref h1), (2, .ref h2), (3, .int v3), (4, .int v4), (5, .int v5)] → W p l e rmX2_seatAll s m args below meth c H locs 0 0 Q (F0 m 38 ls [.int t0]) := by
        intro v4 v5 t0 left_ sitting_ openColumns_ wayFinder_first_ wayFinder_startsAt_ h H locs ls hP hD hS hl
        unfold m_X2_seatAll_38 at h
        refine lv_istore (lv' := [(6, .int t0), (0, .ref h0), (1, .ref h1), (2, .ref h2), (3, .int v3), (4, .int v4), (5, .int v5)]) hx hb dX2_seatAll_38 hl (by decide) rfl (fun ls hl => ?_)
        refine lv_aload_n hx hb dX2_seatAll_40 rfl (lv_at hl 3 rfl) ?_
        refine va_getN (host := "OptionLattice") (D := (dC, dI)) (ci := 1) (v := .ref h2_choicesOf) (C := RX1) (T := TX1) (N := 3) hx hb hts hiX1 hown hK hP 12 rfl rfl 0 (by decide) (va_Nw.use rfl (hE.1 ("OptionLattice$Seating", 38, "OptionLattice$Roll", "choicesOf", "[I") (List.mem_of_getElem? (i := 16) rfl))) (fun _ h9 => h9) rfl dX2_seatAll_41 ?_
        refine lv_iload hx hb dX2_seatAll_44 (lv_at hl 0 rfl) ?_
        obtain ⟨g_, h⟩ := gd_some h
        refine va_iald hx hb hK hP 13 1 rfl rfl (inb_in g_) dX2_seatAll_46 ?_
        refine lv_topi (fun v7_1 e_v7_1 => ?_)
        have h := lt_use e_v7_1 h
        refine lv_istore (lv' := [(7, .int v7_1), (6, .int t0), (0, .ref h0), (1, .ref h1), (2, .ref h2), (3, .int v3), (4, .int v4), (5, .int v5)]) hx hb dX2_seatAll_47 hl (by decide) rfl (fun ls hl => ?_)
        refine lv_aload_n hx hb dX2_seatAll_49 rfl (lv_at hl 2 rfl) ?_
        refine va_get (D := (dC, dI)) (ci := 2) (v := .ref h0_wayFinder) (C := RX2) (T := TX2) (N := 4) hx hb hts hiX2 hown hK hP 0 rfl rfl 3 (by decide) (hts (.fieldLink RX2 24 "OptionLattice$Seating" "wayFinder" "LOptionLattice$Ways;") (by decide +kernel)) (fun _ h9 => h9) rfl dX2_seatAll_50 ?_
        refine lv_aload_n hx hb dX2_seatAll_53 rfl (lv_at hl 2 rfl) ?_
        refine va_get (D := (dC, dI)) (ci := 2) (v := .ref h0_openColumns) (C := RX2) (T := TX2) (N := 4) hx hb hts hiX2 hown hK hP 0 rfl rfl 2 (by decide) (hts (.fieldLink RX2 18 "OptionLattice$Seating" "openColumns" "[I") (by decide +kernel)) (fun _ h9 => h9) rfl dX2_seatAll_54 ?_
        refine lv_iload hx hb dX2_seatAll_57 (lv_at hl 0 rfl) ?_
        obtain ⟨r_2, wayFinder_first_3, wayFinder_startsAt_4, hq, h⟩ := bd3_some h
        refine uV_i (b := h0_wayFinder) (As := [.ref h0_openColumns, .int v7_1]) (rest := []) ⟨hx, hb, hml, hown, hts⟩ (c_X4_findFirst l dC dI cyC cyI cyJ h0_wayFinder h0_wayFinder_first h0_wayFinder_startsAt h0_wayFinder_tally h0_openColumns wayFinder_first_ wayFinder_startsAt_ openColumns_ v7_1 r_2 wayFinder_first_3 wayFinder_startsAt_4 hq) (cwV 2 hts gX2_seatAll_X4_findFirst rfl rfl rfl (by decide +kernel) ⟨Nat.le_of_ble_eq_true rfl, Nat.le_of_ble_eq_true rfl⟩) hK hE hA hP hD hS [4, 5, 6, 3] rfl rfl rfl 4 0 rfl rfl rfl hl.1 rfl (Nat.le_of_ble_eq_true rfl) ⟨Nat.zero_le _, Nat.zero_le _⟩ dX2_seatAll_59 (fun H locs hP hD hS => ?_)
        have hP : va_P (dC, dI) vwCl [(h0, .inr (2, [.ref h0_left, .ref h0_sitting, .ref h0_openColumns, .ref h0_wayFinder])), (h0_left, .inl (cyI, 16, .inl left_)), (h0_sitting, .inl (cyI, 16, .inl sitting_)), (h0_openColumns, .inl (cyI, 10, .inl openColumns_)), (h0_wayFinder, .inr (4, [.ref h0_wayFinder_first, .ref h0_wayFinder_startsAt, .ref h0_wayFinder_tally])), (h0_wayFinder_first, .inl (cyI, 6, .inl wayFinder_first_3)), (h0_wayFinder_startsAt, .inl (cyJ, 11, .inr (.inl wayFinder_startsAt_4))), (h1, .inr (0, [.int a1_columnCount_, .int a1_roomCount_, .int a1_size_, .ref h1_barsOf, .ref h1_subjectOf, .ref h1_teacherOf, .ref h1_seatsOf, .ref h1_columnOf, .ref h1_columnsWith])), (h1_subjectOf, .inl (cyI, 16, .inl a1_subjectOf_)), (h1_seatsOf, .inl (cyI, 16, .inl a1_seatsOf_)), (h1_columnOf, .inl (cyI, 16, .inl a1_columnOf_)), (h1_columnsWith, .inl (cyI, 10, .inl a1_columnsWith_)), (h2, .inr (1, [.ref h2_choicesOf, .int a2_size_, .int a2_kept_])), (h2_choicesOf, .inl (cyI, 24, .inl a2_choicesOf_))] H := hP
        have hD : va_D A [(h0, .inr (2, [.ref h0_left, .ref h0_sitting, .ref h0_openColumns, .ref h0_wayFinder])), (h0_left, .inl (cyI, 16, .inl left_)), (h0_sitting, .inl (cyI, 16, .inl sitting_)), (h0_openColumns, .inl (cyI, 10, .inl openColumns_)), (h0_wayFinder, .inr (4, [.ref h0_wayFinder_first, .ref h0_wayFinder_startsAt, .ref h0_wayFinder_tally])), (h0_wayFinder_first, .inl (cyI, 6, .inl wayFinder_first_3)), (h0_wayFinder_startsAt, .inl (cyJ, 11, .inr (.inl wayFinder_startsAt_4))), (h1, .inr (0, [.int a1_columnCount_, .int a1_roomCount_, .int a1_size_, .ref h1_barsOf, .ref h1_subjectOf, .ref h1_teacherOf, .ref h1_seatsOf, .ref h1_columnOf, .ref h1_columnsWith])), (h1_subjectOf, .inl (cyI, 16, .inl a1_subjectOf_)), (h1_seatsOf, .inl (cyI, 16, .inl a1_seatsOf_)), (h1_columnOf, .inl (cyI, 16, .inl a1_columnOf_)), (h1_columnsWith, .inl (cyI, 10, .inl a1_columnsWith_)), (h2, .inr (1, [.ref h2_choicesOf, .int a2_size_, .int a2_kept_])), (h2_choicesOf, .inl (cyI, 24, .inl a2_choicesOf_))] := hD
        refine lv_if_eq (tgt := 83) hx hb dX2_seatAll_62 (by decide) (fun c_ => ?_) (fun c_ => ?_)
        · have h := (if_pos c_).symm.trans h
          obtain ⟨v5_5, e_v5_5⟩ : ∃ z : Int32, z = (v5 + 1) := ⟨_, rfl⟩
          have h := lt_use e_v5_5 h
          refine lv_iinc (v := v5_5) (lv' := [(5, .int v5_5), (7, .int v7_1), (6, .int t0), (0, .ref h0), (1, .ref h1), (2, .ref h2), (3, .int v3), (4, .int v4)]) hx hb dX2_seatAll_83 hl (k := 7) rfl (by rw [e_v5_5]; rfl) (by decide) rfl (fun ls hl => ?_)
          refine lv_goto (tgt := 11) hx hb dX2_seatAll_86 (by decide) ?_
          exact ih11 v4 v5_5 left_ sitting_ openColumns_ wayFinder_first_3 wayFinder_startsAt_4 h _ _ _ hP hD hS (lv_sub hl [3, 4, 5, 6, 7, 0] rfl)
        · have h := (if_neg c_).symm.trans h
          refine lv_aload_n hx hb dX2_seatAll_65 rfl (lv_at hl 2 rfl) ?_
          refine lv_aload_n hx hb dX2_seatAll_66 rfl (lv_at hl 3 rfl) ?_
          refine lv_iload hx hb dX2_seatAll_67 (lv_at hl 1 rfl) ?_
          refine lv_iload hx hb dX2_seatAll_69 (lv_at hl 0 rfl) ?_
          obtain ⟨left_6, sitting_7, openColumns_8, hq, h⟩ := bd3_some h
          refine uV_v (b := h0) (As := [.ref h1, .int t0, .int v7_1]) (rest := []) ⟨hx, hb, hml, hown, hts⟩ (c_X2_seatOne l dC dI cyC cyI cyJ h0 h0_left h0_sitting h0_openColumns h0_wayFinder h0_wayFinder_first h0_wayFinder_startsAt h0_wayFinder_tally h1 h1_barsOf h1_subjectOf h1_teacherOf h1_seatsOf h1_columnOf h1_columnsWith left_ sitting_ openColumns_ wayFinder_first_3 a1_columnCount_ a1_roomCount_ a1_size_ a1_subjectOf_ a1_columnOf_ t0 v7_1 left_6 sitting_7 openColumns_8 hq) (cwV 3 hts gX2_seatAll_X2_seatOne rfl rfl rfl (by decide +kernel) ⟨Nat.le_of_ble_eq_true rfl, Nat.le_of_ble_eq_true rfl⟩) hK hE hA hP hD hS [0, 1, 2, 3, 4, 5, 7, 8, 10] rfl rfl rfl 2 0 rfl rfl rfl hl.1 rfl (Nat.le_of_ble_eq_true rfl) ⟨Nat.zero_le _, Nat.zero_le _⟩ dX2_seatAll_71 (fun H locs hP hD hS => ?_)
          have hP : va_P (dC, dI) vwCl [(h0, .inr (2, [.ref h0_left, .ref h0_sitting, .ref h0_openColumns, .ref h0_wayFinder])), (h0_left, .inl (cyI, 16, .inl left_6)), (h0_sitting, .inl (cyI, 16, .inl sitting_7)), (h0_openColumns, .inl (cyI, 10, .inl openColumns_8)), (h0_wayFinder, .inr (4, [.ref h0_wayFinder_first, .ref h0_wayFinder_startsAt, .ref h0_wayFinder_tally])), (h0_wayFinder_first, .inl (cyI, 6, .inl wayFinder_first_3)), (h0_wayFinder_startsAt, .inl (cyJ, 11, .inr (.inl wayFinder_startsAt_4))), (h1, .inr (0, [.int a1_columnCount_, .int a1_roomCount_, .int a1_size_, .ref h1_barsOf, .ref h1_subjectOf, .ref h1_teacherOf, .ref h1_seatsOf, .ref h1_columnOf, .ref h1_columnsWith])), (h1_subjectOf, .inl (cyI, 16, .inl a1_subjectOf_)), (h1_seatsOf, .inl (cyI, 16, .inl a1_seatsOf_)), (h1_columnOf, .inl (cyI, 16, .inl a1_columnOf_)), (h1_columnsWith, .inl (cyI, 10, .inl a1_columnsWith_)), (h2, .inr (1, [.ref h2_choicesOf, .int a2_size_, .int a2_kept_])), (h2_choicesOf, .inl (cyI, 24, .inl a2_choicesOf_))] H := hP
          have hD : va_D A [(h0, .inr (2, [.ref h0_left, .ref h0_sitting, .ref h0_openColumns, .ref h0_wayFinder])), (h0_left, .inl (cyI, 16, .inl left_6)), (h0_sitting, .inl (cyI, 16, .inl sitting_7)), (h0_openColumns, .inl (cyI, 10, .inl openColumns_8)), (h0_wayFinder, .inr (4, [.ref h0_wayFinder_first, .ref h0_wayFinder_startsAt, .ref h0_wayFinder_tally])), (h0_wayFinder_first, .inl (cyI, 6, .inl wayFinder_first_3)), (h0_wayFinder_startsAt, .inl (cyJ, 11, .inr (.inl wayFinder_startsAt_4))), (h1, .inr (0, [.int a1_columnCount_, .int a1_roomCount_, .int a1_size_, .ref h1_barsOf, .ref h1_subjectOf, .ref h1_teacherOf, .ref h1_seatsOf, .ref h1_columnOf, .ref h1_columnsWith])), (h1_subjectOf, .inl (cyI, 16, .inl a1_subjectOf_)), (h1_seatsOf, .inl (cyI, 16, .inl a1_seatsOf_)), (h1_columnOf, .inl (cyI, 16, .inl a1_columnOf_)), (h1_columnsWith, .inl (cyI, 10, .inl a1_columnsWith_)), (h2, .inr (1, [.ref h2_choicesOf, .int a2_size_, .int a2_kept_])), (h2_choicesOf, .inl (cyI, 24, .inl a2_choicesOf_))] := hD
          refine lv_iload hx hb dX2_seatAll_74 (lv_at hl 6 rfl) ?_
          refine lv_iconst (v := 1) hx hb dX2_seatAll_76 (by decide) ?_
          refine lv_iload hx hb dX2_seatAll_77 (lv_at hl 1 rfl) ?_
          refine lv_ishl hx hb dX2_seatAll_79 ?_
          refine lv_ior hx hb dX2_seatAll_80 ?_
          refine lv_topi (fun v4_9 e_v4_9 => ?_)
          have h := lt_use e_v4_9 h
          refine lv_istore (lv' := [(4, .int v4_9), (7, .int v7_1), (6, .int t0), (0, .ref h0), (1, .ref h1), (2, .ref h2), (3, .int v3), (5, .int v5)]) hx hb dX2_seatAll_81 hl (by decide) rfl (fun ls hl => ?_)
          obtain ⟨v5_10, e_v5_10⟩ : ∃ z : Int32, z = (v5 + 1) := ⟨_, rfl⟩
          have h := lt_use e_v5_10 h
          refine lv_iinc (v := v5_10) (lv' := [(5, .int v5_10), (4, .int v4_9), (7, .int v7_1), (6, .int t0), (0, .ref h0), (1, .ref h1), (2, .ref h2), (3, .int v3)]) hx hb dX2_seatAll_83 hl (k := 7) rfl (by rw [e_v5_10]; rfl) (by decide) rfl (fun ls hl => ?_)
          refine lv_goto (tgt := 11) hx hb dX2_seatAll_86 (by decide) ?_
          exact ih11 v4_9 v5_10 left_6 sitting_7 openColumns_8 wayFinder_first_3 wayFinder_startsAt_4 h _ _ _ hP hD hS (lv_sub hl [4, 5, 6, 7, 1, 0] rfl)
      intro v4 v5 left_ sitting_ openColumns_ wayFinder_first_ wayFinder_startsAt_ h H locs ls hP hD hS hl
      have h : m_X2_seatAll_11 a1_size_ a1_subjectOf_ a1_columnOf_ a2_size_ a2_choicesOf_ v3 (it7 (m_X2_seatAll_11 a1_size_ a1_subjectOf_ a1_columnOf_ a2_size_ a2_choicesOf_ v3) n11) v4 v5 left_ sitting_ openColumns_ wayFinder_first_ wayFinder_startsAt_ = some (rr, o0, o1, o2, o3, o4) := h
      unfold m_X2_seatAll_11 at h
      refine lv_iload hx hb dX2_seatAll_11 (lv_at hl 5 rfl) ?_
      refine lv_aload_n hx hb dX2_seatAll_13 rfl (lv_at hl 2 rfl) ?_
      refine va_getN (host := "OptionLattice") (D := (dC, dI)) (ci := 1) (v := .int a2_size_) (C := RX1) (T := TX1) (N := 3) hx hb hts hiX1 hown hK hP 12 rfl rfl 1 (by decide) (va_Nw.use rfl (hE.1 ("OptionLattice$Seating", 32, "OptionLattice$Roll", "size", "I") (List.mem_of_getElem? (i := 18) rfl))) (fun _ h9 => h9) rfl dX2_seatAll_14 ?_
      refine lv_icmp_ge (tgt := 89) hx hb dX2_seatAll_17 (by decide) (fun c_ => ?_) (fun c_ => ?_)
      · have h := (if_pos c_).symm.trans h
        refine lv_iload hx hb dX2_seatAll_89 (lv_at hl 4 rfl) ?_
        have h : some (v4, left_, sitting_, openColumns_, wayFinder_first_, wayFinder_startsAt_) = some (rr, o0, o1, o2, o3, o4) := h
        have z0 := Option.some.inj h
        obtain ⟨rfl, z1⟩ := Prod.mk.inj z0
        obtain ⟨rfl, z2⟩ := Prod.mk.inj z1
        obtain ⟨rfl, z3⟩ := Prod.mk.inj z2
        obtain ⟨rfl, z4⟩ := Prod.mk.inj z3
        obtain ⟨rfl, z5⟩ := Prod.mk.inj z4
        obtain rfl := z5
        exact hret _ _ _ _ hP hS rfl dX2_seatAll_91
      · have h := (if_neg c_).symm.trans h
        refine lv_iload_n hx hb dX2_seatAll_20 rfl (lv_at hl 3 rfl) ?_
        refine lv_if_eq (tgt := 36) hx hb dX2_seatAll_21 (by decide) (fun c_ => ?_) (fun c_ => ?_)
        · have h := (if_pos c_).symm.trans h
          refine lv_iload hx hb dX2_seatAll_36 (lv_at hl 5 rfl) ?_
          exact J38 v4 v5 v5 left_ sitting_ openColumns_ wayFinder_first_ wayFinder_startsAt_ h _ _ _ hP hD hS (lv_sub hl [0, 1, 2, 3, 4, 5] rfl)
        · have h := (if_neg c_).symm.trans h
          refine lv_aload_n hx hb dX2_seatAll_24 rfl (lv_at hl 2 rfl) ?_
          refine va_getN (host := "OptionLattice") (D := (dC, dI)) (ci := 1) (v := .int a2_size_) (C := RX1) (T := TX1) (N := 3) hx hb hts hiX1 hown hK hP 12 rfl rfl 1 (by decide) (va_Nw.use rfl (hE.1 ("OptionLattice$Seating", 32, "OptionLattice$Roll", "size", "I") (List.mem_of_getElem? (i := 18) rfl))) (fun _ h9 => h9) rfl dX2_seatAll_25 ?_
          refine lv_iconst (v := 1) hx hb dX2_seatAll_28 (by decide) ?_
          refine lv_isub hx hb dX2_seatAll_29 ?_
          refine lv_iload hx hb dX2_seatAll_30 (lv_at hl 5 rfl) ?_
          refine lv_isub hx hb dX2_seatAll_32 ?_
          refine lv_goto (tgt := 38) hx hb dX2_seatAll_33 (by decide) ?_
          exact J38 v4 v5 ((a2_size_ - 1) - v5) left_ sitting_ openColumns_ wayFinder_first_ wayFinder_startsAt_ h _ _ _ hP hD hS (lv_sub hl [0, 1, 2, 3, 4, 5] rfl)
  unfold m_X2_seatAll at h
  refine lv_aload_n hx hb dX2_seatAll_0 rfl (lv_at hl 0 rfl) ?_
  refine lv_aload_n hx hb dX2_seatAll_1 rfl (lv_at hl 1 rfl) ?_
  obtain ⟨left_11, sitting_12, openColumns_13, hq, h⟩ := bd3_some h
  refine uV_v (b := h0) (As := [.ref h1]) (rest := []) ⟨hx, hb, hml, hown, hts⟩ (c_X2_clear l dC dI cyC cyI cyJ h0 h0_left h0_sitting h0_openColumns h0_wayFinder h1 h1_barsOf h1_subjectOf h1_teacherOf h1_seatsOf h1_columnOf h1_columnsWith left_ sitting_ openColumns_ a1_columnCount_ a1_roomCount_ a1_size_ a1_seatsOf_ a1_columnsWith_ left_11 sitting_12 openColumns_13 hq) (cwV 1 hts gX2_seatAll_X2_clear rfl rfl rfl (by decide +kernel) ⟨Nat.le_of_ble_eq_true rfl, Nat.le_of_ble_eq_true rfl⟩) hK hE hA hP hD hS [0, 1, 2, 3, 7, 9, 11] rfl rfl rfl 2 0 rfl rfl rfl hl.1 rfl (Nat.le_of_ble_eq_true rfl) ⟨Nat.zero_le _, Nat.zero_le _⟩ dX2_seatAll_2 (fun H locs hP hD hS => ?_)
  have hP : va_P (dC, dI) vwCl [(h0, .inr (2, [.ref h0_left, .ref h0_sitting, .ref h0_openColumns, .ref h0_wayFinder])), (h0_left, .inl (cyI, 16, .inl left_11)), (h0_sitting, .inl (cyI, 16, .inl sitting_12)), (h0_openColumns, .inl (cyI, 10, .inl openColumns_13)), (h0_wayFinder, .inr (4, [.ref h0_wayFinder_first, .ref h0_wayFinder_startsAt, .ref h0_wayFinder_tally])), (h0_wayFinder_first, .inl (cyI, 6, .inl wayFinder_first_)), (h0_wayFinder_startsAt, .inl (cyJ, 11, .inr (.inl wayFinder_startsAt_))), (h1, .inr (0, [.int a1_columnCount_, .int a1_roomCount_, .int a1_size_, .ref h1_barsOf, .ref h1_subjectOf, .ref h1_teacherOf, .ref h1_seatsOf, .ref h1_columnOf, .ref h1_columnsWith])), (h1_subjectOf, .inl (cyI, 16, .inl a1_subjectOf_)), (h1_seatsOf, .inl (cyI, 16, .inl a1_seatsOf_)), (h1_columnOf, .inl (cyI, 16, .inl a1_columnOf_)), (h1_columnsWith, .inl (cyI, 10, .inl a1_columnsWith_)), (h2, .inr (1, [.ref h2_choicesOf, .int a2_size_, .int a2_kept_])), (h2_choicesOf, .inl (cyI, 24, .inl a2_choicesOf_))] H := hP
  have hD : va_D A [(h0, .inr (2, [.ref h0_left, .ref h0_sitting, .ref h0_openColumns, .ref h0_wayFinder])), (h0_left, .inl (cyI, 16, .inl left_11)), (h0_sitting, .inl (cyI, 16, .inl sitting_12)), (h0_openColumns, .inl (cyI, 10, .inl openColumns_13)), (h0_wayFinder, .inr (4, [.ref h0_wayFinder_first, .ref h0_wayFinder_startsAt, .ref h0_wayFinder_tally])), (h0_wayFinder_first, .inl (cyI, 6, .inl wayFinder_first_)), (h0_wayFinder_startsAt, .inl (cyJ, 11, .inr (.inl wayFinder_startsAt_))), (h1, .inr (0, [.int a1_columnCount_, .int a1_roomCount_, .int a1_size_, .ref h1_barsOf, .ref h1_subjectOf, .ref h1_teacherOf, .ref h1_seatsOf, .ref h1_columnOf, .ref h1_columnsWith])), (h1_subjectOf, .inl (cyI, 16, .inl a1_subjectOf_)), (h1_seatsOf, .inl (cyI, 16, .inl a1_seatsOf_)), (h1_columnOf, .inl (cyI, 16, .inl a1_columnOf_)), (h1_columnsWith, .inl (cyI, 10, .inl a1_columnsWith_)), (h2, .inr (1, [.ref h2_choicesOf, .int a2_size_, .int a2_kept_])), (h2_choicesOf, .inl (cyI, 24, .inl a2_choicesOf_))] := hD
  refine lv_iconst (v := 0) hx hb dX2_seatAll_5 (by decide) ?_
  refine lv_istore (lv' := [(4, .int 0), (0, .ref h0), (1, .ref h1), (2, .ref h2), (3, .int v3)]) hx hb dX2_seatAll_6 hl (by decide) rfl (fun ls hl => ?_)
  refine lv_iconst (v := 0) hx hb dX2_seatAll_8 (by decide) ?_
  refine lv_istore (lv' := [(5, .int 0), (4, .int 0), (0, .ref h0), (1, .ref h1), (2, .ref h2), (3, .int v3)]) hx hb dX2_seatAll_9 hl (by decide) rfl (fun ls hl => ?_)
  exact L11  1100 0 0 left_11 sitting_12 openColumns_13 wayFinder_first_ wayFinder_startsAt_ h _ _ _ hP hD hS (lv_sub hl [2, 3, 4, 5, 1, 0] rfl)

def m_X2_firstFull_2 (left_ : Nat → Int32) (a1_size_ : Int32) (a1_subjectOf_ : Nat → Int32) (a1_columnOf_ : Nat → Int32) (v2 : Int32) (rec2 : Int32 → Option (Int32)) : Int32 → Option (Int32) := fun v3 =>
  (if 10 ≤ v3 then some (-1) else bd1 (m_X5_hasBit v2 v3) (fun r_1 => (if r_1 = 0 then lt' (v3 + 1) (fun v3_2 => rec2 v3_2) else bd1 (m_X2_columnsLeft left_ a1_size_ a1_subjectOf_ a1_columnOf_ v3) (fun r_3 => (if r_3 = 0 then some v3 else lt' (v3 + 1) (fun v3_4 => rec2 v3_4))))))
def m_X2_firstFull (left_ : Nat → Int32) (a1_size_ : Int32) (a1_subjectOf_ : Nat → Int32) (a1_columnOf_ : Nat → Int32) (v2 : Int32) : Option (Int32) :=
  it1 (m_X2_firstFull_2 left_ a1_size_ a1_subjectOf_ a1_columnOf_ v2) 1100 0
abbrev rmX2_firstFull : Room := { frames := 1, cells := 0, slots := 0, locals := 24 }
set_option maxHeartbeats 4000000 in
set_option maxRecDepth 100000 in
theorem c_X2_firstFull (l : Launch) (dC : Nat → ClassId) (dI : Nat → Nat → Nat) (cyC cyI cyJ : ClassId) (h0 h0_left h0_sitting h0_openColumns h0_wayFinder h1 h1_barsOf h1_subjectOf h1_teacherOf h1_seatsOf h1_columnOf h1_columnsWith : Nat) (left_ : Nat → Int32) (a1_columnCount_ : Int32) (a1_roomCount_ : Int32) (a1_size_ : Int32) (a1_subjectOf_ : Nat → Int32) (a1_columnOf_ : Nat → Int32) (v2 : Int32) (rr : Int32) (h : m_X2_firstFull left_ a1_size_ a1_subjectOf_ a1_columnOf_ v2 = some rr) : uMi l yX2_firstFull wsX2_firstFull rmX2_firstFull (dC, dI) [(cyC, .char), (cyI, .int), (cyJ, .long)] [.ref h0, .ref h1, .int v2] [(h0, .inr (2, [.ref h0_left, .ref h0_sitting, .ref h0_openColumns, .ref h0_wayFinder])), (h0_left, .inl (cyI, 16, .inl left_)), (h1, .inr (0, [.int a1_columnCount_, .int a1_roomCount_, .int a1_size_, .ref h1_barsOf, .ref h1_subjectOf, .ref h1_teacherOf, .ref h1_seatsOf, .ref h1_columnOf, .ref h1_columnsWith])), (h1_subjectOf, .inl (cyI, 16, .inl a1_subjectOf_)), (h1_columnOf, .inl (cyI, 16, .inl a1_columnOf_))] [(h0, .inr (2, [.ref h0_left, .ref h0_sitting, .ref h0_openColumns, .ref h0_wayFinder])), (h0_left, .inl (cyI, 16, .inl left_)), (h1, .inr (0, [.int a1_columnCount_, .int a1_roomCount_, .int a1_size_, .ref h1_barsOf, .ref h1_subjectOf, .ref h1_teacherOf, .ref h1_seatsOf, .ref h1_columnOf, .ref h1_columnsWith])), (h1_subjectOf, .inl (cyI, 16, .inl a1_subjectOf_)), (h1_columnOf, .inl (cyI, 16, .inl a1_columnOf_))] rr := by
  refine uMi.of (cc := cX2_firstFull) (maxL := 4) (by decide) rfl (Nat.le_of_ble_eq_true rfl) (fun p e s m args below meth c A ls Q hx hb hml hown hts hA hP hK hD hE hS hl hret => ?_)
  have hown : s.vm.findClass RX2 = some m.cls := hown
  have hl : lv_has ls 4 [(0, .ref h0), (1, .ref h1), (2, .int v2)] := hl
  have L2 : ∀ (n2 : Nat), ∀ (v3 : Int32), it1 (m_X2_firstFull_2 left_ a1_size_ a1_subjectOf_ a1_columnOf_ v2) n2 v3 = some rr → ∀ (H : Heap) (locs : List Loc) (ls : Array Slot), va_P (dC, dI) vwCl [(h0, .inr (2, [.ref h0_left, .ref h0_sitting, .ref h0_openColumns, .ref h0_wayFinder])), (h0_left, .inl (cyI, 16, .inl left_)), (h1, .inr (0, [.int a1_columnCount_, .int a1_roomCount_, .int a1_size_, .ref h1_barsOf, .ref h1_subjectOf, .ref h1_teacherOf, .ref h1_seatsOf, .ref h1_columnOf, .ref h1_columnsWith])), (h1_subjectOf, .inl (cyI, 16, .inl a1_subjectOf_)), (h1_columnOf, .inl (cyI, 16, .inl a1_columnOf_))] H → va_D A [(h0, .inr (2, [.ref h0_left, .ref h0_sitting, .ref h0_openColumns, .ref h0_wayFinder])), (h0_left, .inl (cyI, 16, .inl left_)), (h1, .inr (0, [.int a1_columnCount_, .int a1_roomCount_, .int a1_size_, .ref h1_barsOf, .ref h1_subjectOf, .ref h1_teacherOf, .ref h1_seatsOf, .ref h1_columnOf, .ref h1_columnsWith])), (h1_subjectOf, .inl (cyI, 16, .inl a1_subjectOf_)), (h1_columnOf, .inl (cyI, 16, .inl a1_columnOf_))] → va_S A s.heap H locs → lv_has ls 4 [(0, .ref h0), (1, .ref h1), (2, .int v2), (3, .int v3)] → W p l e rmX2_firstFull s m args below meth c H locs 0 0 Q (F0 m 2 ls []) := by
    intro n2
    induction n2 with
    | zero => intro v3 h; exact absurd h (fun z => it1_z z)
    | succ n2 ih2 =>
      intro v3 h H locs ls hP hD hS hl
      have h : m_X2_firstFull_2 left_ a1_size_ a1_subjectOf_ a1_columnOf_ v2 (it1 (m_X2_firstFull_2 left_ a1_size_ a1_subjectOf_ a1_columnOf_ v2) n2) v3 = some rr := h
      unfold m_X2_firstFull_2 at h
      refine lv_iload_n hx hb dX2_firstFull_2 rfl (lv_at hl 3 rfl) ?_
      refine lv_bipush (v := 10) hx hb dX2_firstFull_3 (by decide) ?_
      refine lv_icmp_ge (tgt := 33) hx hb dX2_firstFull_5 (by decide) (fun c_ => ?_) (fun c_ => ?_)
      · have h := (if_pos c_).symm.trans h
        refine lv_iconst (v := (-1)) hx hb dX2_firstFull_33 (by decide) ?_
        have h : some (-1) = some rr := h
        have z0 := Option.some.inj h
        obtain rfl := z0
        exact hret _ _ _ _ hP hS rfl dX2_firstFull_34
      · have h := (if_neg c_).symm.trans h
        refine lv_iload_n hx hb dX2_firstFull_8 rfl (lv_at hl 2 rfl) ?_
        refine lv_iload_n hx hb dX2_firstFull_9 rfl (lv_at hl 3 rfl) ?_
        obtain ⟨r_1, hq, h⟩ := bd1_some h
        refine uN_i (As := [.int v2, .int v3]) (rest := []) ⟨hx, hb, hml, hown, hts⟩ (c_X5_hasBit l dC dI cyC cyI cyJ v2 v3 r_1 hq) ⟨va_cnB 2 hts gX2_firstFull_X5_hasBit_n58 rfl rfl rfl (hE.2.1 ("OptionLattice$Seating", 58, ⟨"OptionLattice", "hasBit", "(II)Z"⟩) (List.mem_of_getElem? (i := 11) rfl)) (hts (.initialized RX5) (by decide +kernel)) (by decide +kernel) ⟨Nat.le_of_ble_eq_true rfl, Nat.le_of_ble_eq_true rfl⟩, (hts (.static yX5_hasBit) (by decide +kernel)), trivial⟩ hK hE hA hP hD hS [] rfl rfl rfl rfl hl.1 rfl (Nat.le_of_ble_eq_true rfl) ⟨Nat.zero_le _, Nat.zero_le _⟩ dX2_firstFull_10 (fun H locs hP hD hS => ?_)
        have hP : va_P (dC, dI) vwCl [(h0, .inr (2, [.ref h0_left, .ref h0_sitting, .ref h0_openColumns, .ref h0_wayFinder])), (h0_left, .inl (cyI, 16, .inl left_)), (h1, .inr (0, [.int a1_columnCount_, .int a1_roomCount_, .int a1_size_, .ref h1_barsOf, .ref h1_subjectOf, .ref h1_teacherOf, .ref h1_seatsOf, .ref h1_columnOf, .ref h1_columnsWith])), (h1_subjectOf, .inl (cyI, 16, .inl a1_subjectOf_)), (h1_columnOf, .inl (cyI, 16, .inl a1_columnOf_))] H := hP
        have hD : va_D A [(h0, .inr (2, [.ref h0_left, .ref h0_sitting, .ref h0_openColumns, .ref h0_wayFinder])), (h0_left, .inl (cyI, 16, .inl left_)), (h1, .inr (0, [.int a1_columnCount_, .int a1_roomCount_, .int a1_size_, .ref h1_barsOf, .ref h1_subjectOf, .ref h1_teacherOf, .ref h1_seatsOf, .ref h1_columnOf, .ref h1_columnsWith])), (h1_subjectOf, .inl (cyI, 16, .inl a1_subjectOf_)), (h1_columnOf, .inl (cyI, 16, .inl a1_columnOf_))] := hD
        refine lv_if_eq (tgt := 27) hx hb dX2_firstFull_13 (by decide) (fun c_ => ?_) (fun c_ => ?_)
        · have h := (if_pos c_).symm.trans h
          obtain ⟨v3_2, e_v3_2⟩ : ∃ z : Int32, z = (v3 + 1) := ⟨_, rfl⟩
          have h := lt_use e_v3_2 h
          refine lv_iinc (v := v3_2) (lv' := [(3, .int v3_2), (0, .ref h0), (1, .ref h1), (2, .int v2)]) hx hb dX2_firstFull_27 hl (k := 3) rfl (by rw [e_v3_2]; rfl) (by decide) rfl (fun ls hl => ?_)
          refine lv_goto (tgt := 2) hx hb dX2_firstFull_30 (by decide) ?_
          exact ih2 v3_2 h _ _ _ hP hD hS (lv_sub hl [1, 2, 3, 0] rfl)
        · have h := (if_neg c_).symm.trans h
          refine lv_aload_n hx hb dX2_firstFull_16 rfl (lv_at hl 0 rfl) ?_
          refine lv_aload_n hx hb dX2_firstFull_17 rfl (lv_at hl 1 rfl) ?_
          refine lv_iload_n hx hb dX2_firstFull_18 rfl (lv_at hl 3 rfl) ?_
          obtain ⟨r_3, hq, h⟩ := bd1_some h
          refine uV_i (b := h0) (As := [.ref h1, .int v3]) (rest := []) ⟨hx, hb, hml, hown, hts⟩ (c_X2_columnsLeft l dC dI cyC cyI cyJ h0 h0_left h0_sitting h0_openColumns h0_wayFinder h1 h1_barsOf h1_subjectOf h1_teacherOf h1_seatsOf h1_columnOf h1_columnsWith left_ a1_columnCount_ a1_roomCount_ a1_size_ a1_subjectOf_ a1_columnOf_ v3 r_3 hq) (cwV 2 hts gX2_firstFull_X2_columnsLeft rfl rfl rfl (by decide +kernel) ⟨Nat.le_of_ble_eq_true rfl, Nat.le_of_ble_eq_true rfl⟩) hK hE hA hP hD hS [0, 1, 2, 3, 4] rfl rfl rfl 2 0 rfl rfl rfl hl.1 rfl (Nat.le_of_ble_eq_true rfl) ⟨Nat.zero_le _, Nat.zero_le _⟩ dX2_firstFull_19 (fun H locs hP hD hS => ?_)
          have hP : va_P (dC, dI) vwCl [(h0, .inr (2, [.ref h0_left, .ref h0_sitting, .ref h0_openColumns, .ref h0_wayFinder])), (h0_left, .inl (cyI, 16, .inl left_)), (h1, .inr (0, [.int a1_columnCount_, .int a1_roomCount_, .int a1_size_, .ref h1_barsOf, .ref h1_subjectOf, .ref h1_teacherOf, .ref h1_seatsOf, .ref h1_columnOf, .ref h1_columnsWith])), (h1_subjectOf, .inl (cyI, 16, .inl a1_subjectOf_)), (h1_columnOf, .inl (cyI, 16, .inl a1_columnOf_))] H := hP
          have hD : va_D A [(h0, .inr (2, [.ref h0_left, .ref h0_sitting, .ref h0_openColumns, .ref h0_wayFinder])), (h0_left, .inl (cyI, 16, .inl left_)), (h1, .inr (0, [.int a1_columnCount_, .int a1_roomCount_, .int a1_size_, .ref h1_barsOf, .ref h1_subjectOf, .ref h1_teacherOf, .ref h1_seatsOf, .ref h1_columnOf, .ref h1_columnsWith])), (h1_subjectOf, .inl (cyI, 16, .inl a1_subjectOf_)), (h1_columnOf, .inl (cyI, 16, .inl a1_columnOf_))] := hD
          refine lv_if_ne (tgt := 27) hx hb dX2_firstFull_22 (by decide) (fun c_ => ?_) (fun c_ => ?_)
          · have h := (if_neg c_).symm.trans h
            obtain ⟨v3_4, e_v3_4⟩ : ∃ z : Int32, z = (v3 + 1) := ⟨_, rfl⟩
            have h := lt_use e_v3_4 h
            refine lv_iinc (v := v3_4) (lv' := [(3, .int v3_4), (0, .ref h0), (1, .ref h1), (2, .int v2)]) hx hb dX2_firstFull_27 hl (k := 3) rfl (by rw [e_v3_4]; rfl) (by decide) rfl (fun ls hl => ?_)
            refine lv_goto (tgt := 2) hx hb dX2_firstFull_30 (by decide) ?_
            exact ih2 v3_4 h _ _ _ hP hD hS (lv_sub hl [1, 2, 3, 0] rfl)
          · have h := (if_pos c_).symm.trans h
            refine lv_iload_n hx hb dX2_firstFull_25 rfl (lv_at hl 3 rfl) ?_
            have h : some v3 = some rr := h
            have z0 := Option.some.inj h
            obtain rfl := z0
            exact hret _ _ _ _ hP hS rfl dX2_firstFull_26
  unfold m_X2_firstFull at h
  refine lv_iconst (v := 0) hx hb dX2_firstFull_0 (by decide) ?_
  refine lv_istore_n (lv' := [(3, .int 0), (0, .ref h0), (1, .ref h1), (2, .int v2)]) hx hb dX2_firstFull_1 rfl hl (by decide) rfl (fun ls hl => ?_)
  exact L2  1100 0 h _ _ _ hP hD hS (lv_sub hl [1, 2, 3, 0] rfl)

def m_X3_append_15 (v1 : Int32) (rec15 : Int32 → Int32 → (Nat → Int32) → Option (Int32 × Int32 × (Nat → Int32))) : Int32 → Int32 → (Nat → Int32) → Option (Int32 × Int32 × (Nat → Int32)) := fun v2 size_ signs_ =>
  (if v2 < 0 then some (1, size_, signs_) else gd (inb size_ 240) (lt' (size_ + 1) (fun w_1 => lt' (v2 + (-8)) (fun v2_2 => rec15 v2_2 w_1 (upd signs_ size_.toNatClampNeg (vp_nar .char (i2c ((iushr v1 v2) &&& 255))))))))
def m_X3_append (size_ : Int32) (signs_ : Nat → Int32) (v1 : Int32) : Option (Int32 × Int32 × (Nat → Int32)) :=
  (if size_ ≤ 236 then it3 (m_X3_append_15 v1) 1100 24 size_ signs_ else some (0, size_, signs_))
abbrev rmX3_append : Room := { frames := 0, cells := 0, slots := 0, locals := 0 }
set_option maxHeartbeats 4000000 in
set_option maxRecDepth 100000 in
theorem c_X3_append (l : Launch) (dC : Nat → ClassId) (dI : Nat → Nat → Nat) (cyC cyI cyJ : ClassId) (h0 h0_signs : Nat) (size_ : Int32) (at_ : Int32) (signs_ : Nat → Int32) (v1 : Int32) (rr : Int32) (o0 : Int32) (o1 : Nat → Int32) (h : m_X3_append size_ signs_ v1 = some (rr, o0, o1)) : uMi l yX3_append wsX3_append rmX3_append (dC, dI) [(cyC, .char), (cyI, .int), (cyJ, .long)] [.ref h0, .int v1] [(h0, .inr (3, [.ref h0_signs, .int size_, .int at_])), (h0_signs, .inl (cyC, 240, .inl signs_))] [(h0, .inr (3, [.ref h0_signs, .int o0, .int at_])), (h0_signs, .inl (cyC, 240, .inl o1))] rr := by
  refine uMi.of (cc := cX3_append) (maxL := 3) (by decide) rfl (Nat.le_of_ble_eq_true rfl) (fun p e s m args below meth c A ls Q hx hb hml hown hts hA hP hK hD hE hS hl hret => ?_)
  have hown : s.vm.findClass RX3 = some m.cls := hown
  have hl : lv_has ls 3 [(0, .ref h0), (1, .int v1)] := hl
  have hiX3 : ∀ w ∈ u_ws RX3 TX3 3, w ∈ wsX3_append := fun _ h9 => List.mem_cons_of_mem _ (List.mem_append_right _ h9)
  have L15 : ∀ (n15 : Nat), ∀ (v2 : Int32), ∀ (size_ : Int32), ∀ (signs_ : Nat → Int32), it3 (m_X3_append_15 v1) n15 v2 size_ signs_ = some (rr, o0, o1) → ∀ (H : Heap) (locs : List Loc) (ls : Array Slot), va_P (dC, dI) vwCl [(h0, .inr (3, [.ref h0_signs, .int size_, .int at_])), (h0_signs, .inl (cyC, 240, .inl signs_))] H → va_D A [(h0, .inr (3, [.ref h0_signs, .int size_, .int at_])), (h0_signs, .inl (cyC, 240, .inl signs_))] → va_S A s.heap H locs → lv_has ls 3 [(0, .ref h0), (1, .int v1), (2, .int v2)] → W p l e rmX3_append s m args below meth c H locs 0 0 Q (F0 m 15 ls []) := by
    intro n15
    induction n15 with
    | zero => intro v2 size_ signs_ h; exact absurd h (fun z => it3_z z)
    | succ n15 ih15 =>
      intro v2 size_ signs_ h H locs ls hP hD hS hl
      have h : m_X3_append_15 v1 (it3 (m_X3_append_15 v1) n15) v2 size_ signs_ = some (rr, o0, o1) := h
      unfold m_X3_append_15 at h
      refine lv_iload_n hx hb dX3_append_15 rfl (lv_at hl 2 rfl) ?_
      refine lv_if_lt (tgt := 52) hx hb dX3_append_16 (by decide) (fun c_ => ?_) (fun c_ => ?_)
      · have h := (if_pos c_).symm.trans h
        refine lv_iconst (v := 1) hx hb dX3_append_52 (by decide) ?_
        have h : some (1, size_, signs_) = some (rr, o0, o1) := h
        have z0 := Option.some.inj h
        obtain ⟨rfl, z1⟩ := Prod.mk.inj z0
        obtain ⟨rfl, z2⟩ := Prod.mk.inj z1
        obtain rfl := z2
        exact hret _ _ _ _ hP hS rfl dX3_append_53
      · have h := (if_neg c_).symm.trans h
        refine lv_aload_n hx hb dX3_append_19 rfl (lv_at hl 0 rfl) ?_
        refine va_get (D := (dC, dI)) (ci := 3) (v := .ref h0_signs) (C := RX3) (T := TX3) (N := 3) hx hb hts hiX3 hown hK hP 0 rfl rfl 0 (by decide) (hts (.fieldLink RX3 9 "OptionLattice$Signs" "signs" "[C") (by decide +kernel)) (fun _ h9 => h9) rfl dX3_append_20 ?_
        refine lv_aload_n hx hb dX3_append_23 rfl (lv_at hl 0 rfl) ?_
        refine va_get (D := (dC, dI)) (ci := 3) (v := .int size_) (C := RX3) (T := TX3) (N := 3) hx hb hts hiX3 hown hK hP 0 rfl rfl 1 (by decide) (hts (.fieldLink RX3 15 "OptionLattice$Signs" "size" "I") (by decide +kernel)) (fun _ h9 => h9) rfl dX3_append_24 ?_
        refine lv_iload_n hx hb dX3_append_27 rfl (lv_at hl 1 rfl) ?_
        refine lv_iload_n hx hb dX3_append_28 rfl (lv_at hl 2 rfl) ?_
        refine lv_iushr (v := (iushr v1 v2)) hx hb dX3_append_29 rfl ?_
        refine lv_sipush (v := 255) hx hb dX3_append_30 (by decide) ?_
        refine lv_iand hx hb dX3_append_33 ?_
        refine lv_i2c (v := (i2c ((iushr v1 v2) &&& 255))) hx hb dX3_append_34 rfl ?_
        obtain ⟨g_, h⟩ := gd_some h
        refine va_cast hx hb hK hP hD hS 1 0 rfl rfl (inb_in g_) dX3_append_35 (fun H locs hP hD hS => ?_)
        have hP : va_P (dC, dI) vwCl [(h0, .inr (3, [.ref h0_signs, .int size_, .int at_])), (h0_signs, .inl (cyC, 240, .inl (upd signs_ size_.toNatClampNeg (vp_nar .char (i2c ((iushr v1 v2) &&& 255))))))] H := hP
        have hD : va_D A [(h0, .inr (3, [.ref h0_signs, .int size_, .int at_])), (h0_signs, .inl (cyC, 240, .inl (upd signs_ size_.toNatClampNeg (vp_nar .char (i2c ((iushr v1 v2) &&& 255))))))] := hD
        refine lv_aload_n hx hb dX3_append_36 rfl (lv_at hl 0 rfl) ?_
        refine lv_dup hx hb dX3_append_37 rfl ?_
        refine va_get (D := (dC, dI)) (ci := 3) (v := .int size_) (C := RX3) (T := TX3) (N := 3) hx hb hts hiX3 hown hK hP 0 rfl rfl 1 (by decide) (hts (.fieldLink RX3 15 "OptionLattice$Signs" "size" "I") (by decide +kernel)) (fun _ h9 => h9) rfl dX3_append_38 ?_
        refine lv_iconst (v := 1) hx hb dX3_append_41 (by decide) ?_
        refine lv_iadd hx hb dX3_append_42 ?_
        refine lv_topi (fun w_1 e_w_1 => ?_)
        have h := lt_use e_w_1 h
        refine va_put (D := (dC, dI)) (ci := 3) (v := .int w_1) (ty := .int) (C := RX3) (T := TX3) (N := 3) hx hb hts hiX3 tyX3 tyX3_ok nmX3 hown hK hP hD hS 0 rfl rfl 1 (by decide) (hts (.fieldLink RX3 15 "OptionLattice$Signs" "size" "I") (by decide +kernel)) (fun _ h9 => h9) rfl (by decide +kernel) rfl rfl (Nat.le_of_ble_eq_true rfl) dX3_append_43 (fun H locs hP hD hS => ?_)
        have hP : va_P (dC, dI) vwCl [(h0, .inr (3, [.ref h0_signs, .int w_1, .int at_])), (h0_signs, .inl (cyC, 240, .inl (upd signs_ size_.toNatClampNeg (vp_nar .char (i2c ((iushr v1 v2) &&& 255))))))] H := hP
        have hD : va_D A [(h0, .inr (3, [.ref h0_signs, .int w_1, .int at_])), (h0_signs, .inl (cyC, 240, .inl (upd signs_ size_.toNatClampNeg (vp_nar .char (i2c ((iushr v1 v2) &&& 255))))))] := hD
        obtain ⟨v2_2, e_v2_2⟩ : ∃ z : Int32, z = (v2 + (-8)) := ⟨_, rfl⟩
        have h := lt_use e_v2_2 h
        refine lv_iinc (v := v2_2) (lv' := [(2, .int v2_2), (0, .ref h0), (1, .int v1)]) hx hb dX3_append_46 hl (k := 2) rfl (by rw [e_v2_2]; rfl) (by decide) rfl (fun ls hl => ?_)
        refine lv_goto (tgt := 15) hx hb dX3_append_49 (by decide) ?_
        exact ih15 v2_2 w_1 (upd signs_ size_.toNatClampNeg (vp_nar .char (i2c ((iushr v1 v2) &&& 255)))) h _ _ _ hP hD hS (lv_sub hl [1, 2, 0] rfl)
  unfold m_X3_append at h
  refine lv_aload_n hx hb dX3_append_0 rfl (lv_at hl 0 rfl) ?_
  refine va_get (D := (dC, dI)) (ci := 3) (v := .int size_) (C := RX3) (T := TX3) (N := 3) hx hb hts hiX3 hown hK hP 0 rfl rfl 1 (by decide) (hts (.fieldLink RX3 15 "OptionLattice$Signs" "size" "I") (by decide +kernel)) (fun _ h9 => h9) rfl dX3_append_1 ?_
  refine lv_sipush (v := 236) hx hb dX3_append_4 (by decide) ?_
  refine lv_icmp_le (tgt := 12) hx hb dX3_append_7 (by decide) (fun c_ => ?_) (fun c_ => ?_)
  · have h := (if_pos c_).symm.trans h
    refine lv_bipush (v := 24) hx hb dX3_append_12 (by decide) ?_
    refine lv_istore_n (lv' := [(2, .int 24), (0, .ref h0), (1, .int v1)]) hx hb dX3_append_14 rfl hl (by decide) rfl (fun ls hl => ?_)
    exact L15  1100 24 size_ signs_ h _ _ _ hP hD hS (lv_sub hl [1, 2, 0] rfl)
  · have h := (if_neg c_).symm.trans h
    refine lv_iconst (v := 0) hx hb dX3_append_10 (by decide) ?_
    have h : some (0, size_, signs_) = some (rr, o0, o1) := h
    have z0 := Option.some.inj h
    obtain ⟨rfl, z1⟩ := Prod.mk.inj z0
    obtain ⟨rfl, z2⟩ := Prod.mk.inj z1
    obtain rfl := z2
    exact hret _ _ _ _ hP hS rfl dX3_append_11

def m_X3_cutTo (size_ : Int32) (v1 : Int32) : Option (Int32 × Int32) :=
  (if v1 < 0 then some (0, size_) else (if v1 ≤ size_ then some (1, v1) else some (0, size_)))
abbrev rmX3_cutTo : Room := { frames := 0, cells := 0, slots := 0, locals := 0 }
set_option maxHeartbeats 4000000 in
set_option maxRecDepth 100000 in
theorem c_X3_cutTo (l : Launch) (dC : Nat → ClassId) (dI : Nat → Nat → Nat) (cyC cyI cyJ : ClassId) (h0 h0_signs : Nat) (size_ : Int32) (at_ : Int32) (v1 : Int32) (rr : Int32) (o0 : Int32) (h : m_X3_cutTo size_ v1 = some (rr, o0)) : uMi l yX3_cutTo wsX3_cutTo rmX3_cutTo (dC, dI) [(cyC, .char), (cyI, .int), (cyJ, .long)] [.ref h0, .int v1] [(h0, .inr (3, [.ref h0_signs, .int size_, .int at_]))] [(h0, .inr (3, [.ref h0_signs, .int o0, .int at_]))] rr := by
  refine uMi.of (cc := cX3_cutTo) (maxL := 2) (by decide) rfl (Nat.le_of_ble_eq_true rfl) (fun p e s m args below meth c A ls Q hx hb hml hown hts hA hP hK hD hE hS hl hret => ?_)
  have hown : s.vm.findClass RX3 = some m.cls := hown
  have hl : lv_has ls 2 [(0, .ref h0), (1, .int v1)] := hl
  have hiX3 : ∀ w ∈ u_ws RX3 TX3 3, w ∈ wsX3_cutTo := fun _ h9 => List.mem_cons_of_mem _ (List.mem_append_right _ h9)
  unfold m_X3_cutTo at h
  refine lv_iload_n hx hb dX3_cutTo_0 rfl (lv_at hl 1 rfl) ?_
  refine lv_if_lt (tgt := 12) hx hb dX3_cutTo_1 (by decide) (fun c_ => ?_) (fun c_ => ?_)
  · have h := (if_pos c_).symm.trans h
    refine lv_iconst (v := 0) hx hb dX3_cutTo_12 (by decide) ?_
    have h : some (0, size_) = some (rr, o0) := h
    have z0 := Option.some.inj h
    obtain ⟨rfl, z1⟩ := Prod.mk.inj z0
    obtain rfl := z1
    exact hret _ _ _ _ hP hS rfl dX3_cutTo_13
  · have h := (if_neg c_).symm.trans h
    refine lv_iload_n hx hb dX3_cutTo_4 rfl (lv_at hl 1 rfl) ?_
    refine lv_aload_n hx hb dX3_cutTo_5 rfl (lv_at hl 0 rfl) ?_
    refine va_get (D := (dC, dI)) (ci := 3) (v := .int size_) (C := RX3) (T := TX3) (N := 3) hx hb hts hiX3 hown hK hP 0 rfl rfl 1 (by decide) (hts (.fieldLink RX3 15 "OptionLattice$Signs" "size" "I") (by decide +kernel)) (fun _ h9 => h9) rfl dX3_cutTo_6 ?_
    refine lv_icmp_le (tgt := 14) hx hb dX3_cutTo_9 (by decide) (fun c_ => ?_) (fun c_ => ?_)
    · have h := (if_pos c_).symm.trans h
      refine lv_aload_n hx hb dX3_cutTo_14 rfl (lv_at hl 0 rfl) ?_
      refine lv_iload_n hx hb dX3_cutTo_15 rfl (lv_at hl 1 rfl) ?_
      refine va_put (D := (dC, dI)) (ci := 3) (v := .int v1) (ty := .int) (C := RX3) (T := TX3) (N := 3) hx hb hts hiX3 tyX3 tyX3_ok nmX3 hown hK hP hD hS 0 rfl rfl 1 (by decide) (hts (.fieldLink RX3 15 "OptionLattice$Signs" "size" "I") (by decide +kernel)) (fun _ h9 => h9) rfl (by decide +kernel) rfl rfl (Nat.le_of_ble_eq_true rfl) dX3_cutTo_16 (fun H locs hP hD hS => ?_)
      have hP : va_P (dC, dI) vwCl [(h0, .inr (3, [.ref h0_signs, .int v1, .int at_]))] H := hP
      have hD : va_D A [(h0, .inr (3, [.ref h0_signs, .int v1, .int at_]))] := hD
      refine lv_iconst (v := 1) hx hb dX3_cutTo_19 (by decide) ?_
      have h : some (1, v1) = some (rr, o0) := h
      have z0 := Option.some.inj h
      obtain ⟨rfl, z1⟩ := Prod.mk.inj z0
      obtain rfl := z1
      exact hret _ _ _ _ hP hS rfl dX3_cutTo_20
    · have h := (if_neg c_).symm.trans h
      refine lv_iconst (v := 0) hx hb dX3_cutTo_12 (by decide) ?_
      have h : some (0, size_) = some (rr, o0) := h
      have z0 := Option.some.inj h
      obtain ⟨rfl, z1⟩ := Prod.mk.inj z0
      obtain rfl := z1
      exact hret _ _ _ _ hP hS rfl dX3_cutTo_13

def m_X3_empty (size_ : Int32) : Option (Int32) :=
  some 0
abbrev rmX3_empty : Room := { frames := 0, cells := 0, slots := 0, locals := 0 }
set_option maxHeartbeats 4000000 in
set_option maxRecDepth 100000 in
theorem c_X3_empty (l : Launch) (dC : Nat → ClassId) (dI : Nat → Nat → Nat) (cyC cyI cyJ : ClassId) (h0 h0_signs : Nat) (size_ : Int32) (at_ : Int32) (o0 : Int32) (h : m_X3_empty size_ = some o0) : uMv l yX3_empty wsX3_empty rmX3_empty (dC, dI) [(cyC, .char), (cyI, .int), (cyJ, .long)] [.ref h0] [(h0, .inr (3, [.ref h0_signs, .int size_, .int at_]))] [(h0, .inr (3, [.ref h0_signs, .int o0, .int at_]))] := by
  refine uMv.of (cc := cX3_empty) (maxL := 1) (by decide) rfl (Nat.le_of_ble_eq_true rfl) (fun p e s m args below meth c A ls Q hx hb hml hown hts hA hP hK hD hE hS hl hret => ?_)
  have hown : s.vm.findClass RX3 = some m.cls := hown
  have hl : lv_has ls 1 [(0, .ref h0)] := hl
  have hiX3 : ∀ w ∈ u_ws RX3 TX3 3, w ∈ wsX3_empty := fun _ h9 => List.mem_cons_of_mem _ (List.mem_append_right _ h9)
  unfold m_X3_empty at h
  refine lv_aload_n hx hb dX3_empty_0 rfl (lv_at hl 0 rfl) ?_
  refine lv_iconst (v := 0) hx hb dX3_empty_1 (by decide) ?_
  refine va_put (D := (dC, dI)) (ci := 3) (v := .int 0) (ty := .int) (C := RX3) (T := TX3) (N := 3) hx hb hts hiX3 tyX3 tyX3_ok nmX3 hown hK hP hD hS 0 rfl rfl 1 (by decide) (hts (.fieldLink RX3 15 "OptionLattice$Signs" "size" "I") (by decide +kernel)) (fun _ h9 => h9) rfl (by decide +kernel) rfl rfl (Nat.le_of_ble_eq_true rfl) dX3_empty_2 (fun H locs hP hD hS => ?_)
  have hP : va_P (dC, dI) vwCl [(h0, .inr (3, [.ref h0_signs, .int 0, .int at_]))] H := hP
  have hD : va_D A [(h0, .inr (3, [.ref h0_signs, .int 0, .int at_]))] := hD
  have h : some 0 = some o0 := h
  have z0 := Option.some.inj h
  obtain rfl := z0
  exact hret _ _ _ _ hP hS dX3_empty_5

def m_X3_rewind (at_ : Int32) : Option (Int32) :=
  some 0
abbrev rmX3_rewind : Room := { frames := 0, cells := 0, slots := 0, locals := 0 }
set_option maxHeartbeats 4000000 in
set_option maxRecDepth 100000 in
theorem c_X3_rewind (l : Launch) (dC : Nat → ClassId) (dI : Nat → Nat → Nat) (cyC cyI cyJ : ClassId) (h0 h0_signs : Nat) (size_ : Int32) (at_ : Int32) (o0 : Int32) (h : m_X3_rewind at_ = some o0) : uMv l yX3_rewind wsX3_rewind rmX3_rewind (dC, dI) [(cyC, .char), (cyI, .int), (cyJ, .long)] [.ref h0] [(h0, .inr (3, [.ref h0_signs, .int size_, .int at_]))] [(h0, .inr (3, [.ref h0_signs, .int size_, .int o0]))] := by
  refine uMv.of (cc := cX3_rewind) (maxL := 1) (by decide) rfl (Nat.le_of_ble_eq_true rfl) (fun p e s m args below meth c A ls Q hx hb hml hown hts hA hP hK hD hE hS hl hret => ?_)
  have hown : s.vm.findClass RX3 = some m.cls := hown
  have hl : lv_has ls 1 [(0, .ref h0)] := hl
  have hiX3 : ∀ w ∈ u_ws RX3 TX3 3, w ∈ wsX3_rewind := fun _ h9 => List.mem_cons_of_mem _ (List.mem_append_right _ h9)
  unfold m_X3_rewind at h
  refine lv_aload_n hx hb dX3_rewind_0 rfl (lv_at hl 0 rfl) ?_
  refine lv_iconst (v := 0) hx hb dX3_rewind_1 (by decide) ?_
  refine va_put (D := (dC, dI)) (ci := 3) (v := .int 0) (ty := .int) (C := RX3) (T := TX3) (N := 3) hx hb hts hiX3 tyX3 tyX3_ok nmX3 hown hK hP hD hS 0 rfl rfl 2 (by decide) (hts (.fieldLink RX3 19 "OptionLattice$Signs" "at" "I") (by decide +kernel)) (fun _ h9 => h9) rfl (by decide +kernel) rfl rfl (Nat.le_of_ble_eq_true rfl) dX3_rewind_2 (fun H locs hP hD hS => ?_)
  have hP : va_P (dC, dI) vwCl [(h0, .inr (3, [.ref h0_signs, .int size_, .int 0]))] H := hP
  have hD : va_D A [(h0, .inr (3, [.ref h0_signs, .int size_, .int 0]))] := hD
  have h : some 0 = some o0 := h
  have z0 := Option.some.inj h
  obtain rfl := z0
  exact hret _ _ _ _ hP hS dX3_rewind_5

def m_X4_placeOneMore_28 (v2 : Int32) (v3 : Int32) (rec2 : Int32 → (Nat → Int32) → Option ((Nat → Int32))) (rec28 : Int32 → (Nat → Int32) → Option ((Nat → Int32))) : Int32 → (Nat → Int32) → Option ((Nat → Int32)) := fun v4 tally_ =>
  (if 6 ≤ v4 then lt' (v3 + 1) (fun v3_1 => rec2 v3_1 tally_) else bd1 (m_X5_hasBit (v2 &&& (v3 ^^^ (-1))) v4) (fun r_2 => (if r_2 = 0 then lt' (v4 + 1) (fun v4_3 => rec28 v4_3 tally_) else gd (inb (v3 ||| ((1 : Int32) <<< (v4 &&& 31))) 64) (gd (inb v3 64) (gd (inb (v3 ||| ((1 : Int32) <<< (v4 &&& 31))) 64) (lt' (v4 + 1) (fun v4_4 => rec28 v4_4 (upd tally_ ((v3 ||| ((1 : Int32) <<< (v4 &&& 31)))).toNatClampNeg ((tally_ ((v3 ||| ((1 : Int32) <<< (v4 &&& 31)))).toNatClampNeg) + (tally_ v3.toNatClampNeg))))))))))
def m_X4_placeOneMore_2 (v1 : Int32) (v2 : Int32) (rec2 : Int32 → (Nat → Int32) → Option ((Nat → Int32))) : Int32 → (Nat → Int32) → Option ((Nat → Int32)) := fun v3 tally_ =>
  (if 63 < v3 then some tally_ else bd1 (m_J6_bitCount_0f7a4 v3) (fun r_5 => (if r_5 = v1 then gd (inb v3 64) ((if (tally_ v3.toNatClampNeg) = 0 then lt' (v3 + 1) (fun v3_7 => rec2 v3_7 tally_) else it2 (m_X4_placeOneMore_28 v2 v3 rec2) 1100 0 tally_)) else lt' (v3 + 1) (fun v3_6 => rec2 v3_6 tally_))))
def m_X4_placeOneMore (tally_ : Nat → Int32) (v1 : Int32) (v2 : Int32) : Option ((Nat → Int32)) :=
  it2 (m_X4_placeOneMore_2 v1 v2) 1100 0 tally_
abbrev rmX4_placeOneMore : Room := { frames := 1, cells := 0, slots := 0, locals := 21 }
set_option maxHeartbeats 4000000 in
set_option maxRecDepth 100000 in
theorem c_X4_placeOneMore (l : Launch) (dC : Nat → ClassId) (dI : Nat → Nat → Nat) (cyC cyI cyJ : ClassId) (h0 h0_first h0_startsAt h0_tally : Nat) (tally_ : Nat → Int32) (v1 : Int32) (v2 : Int32) (o0 : Nat → Int32) (h : m_X4_placeOneMore tally_ v1 v2 = some o0) : uMv l yX4_placeOneMore wsX4_placeOneMore rmX4_placeOneMore (dC, dI) [(cyC, .char), (cyI, .int), (cyJ, .long)] [.ref h0, .int v1, .int v2] [(h0, .inr (4, [.ref h0_first, .ref h0_startsAt, .ref h0_tally])), (h0_tally, .inl (cyI, 64, .inl tally_))] [(h0, .inr (4, [.ref h0_first, .ref h0_startsAt, .ref h0_tally])), (h0_tally, .inl (cyI, 64, .inl o0))] := by
  refine uMv.of (cc := cX4_placeOneMore) (maxL := 5) (by decide) rfl (Nat.le_of_ble_eq_true rfl) (fun p e s m args below meth c A ls Q hx hb hml hown hts hA hP hK hD hE hS hl hret => ?_)
  have hown : s.vm.findClass RX4 = some m.cls := hown
  have hl : lv_has ls 5 [(0, .ref h0), (1, .int v1), (2, .int v2)] := hl
  have hiX4 : ∀ w ∈ u_ws RX4 TX4 3, w ∈ wsX4_placeOneMore := fun _ h9 => List.mem_cons_of_mem _ (List.mem_append_right _ h9)
  have L2 : ∀ (n2 : Nat), ∀ (v3 : Int32), ∀ (tally_ : Nat → Int32), it2 (m_X4_placeOneMore_2 v1 v2) n2 v3 tally_ = some o0 → ∀ (H : Heap) (locs : List Loc) (ls : Array Slot), va_P (dC, dI) vwCl [(h0, .inr (4, [.ref h0_first, .ref h0_startsAt, .ref h0_tally])), (h0_tally, .inl (cyI, 64, .inl tally_))] H → va_D A [(h0, .inr (4, [.ref h0_first, .ref h0_startsAt, .ref h0_tally])), (h0_tally, .inl (cyI, 64, .inl tally_))] → va_S A s.heap H locs → lv_has ls 5 [(0, .ref h0), (1, .int v1), (2, .int v2), (3, .int v3)] → W p l e rmX4_placeOneMore s m args below meth c H locs 0 0 Q (F0 m 2 ls []) := by
    intro n2
    induction n2 with
    | zero => intro v3 tally_ h; exact absurd h (fun z => it2_z z)
    | succ n2 ih2 =>
      have L28 : ∀ (v3 : Int32), ∀ (n28 : Nat), ∀ (v4 : Int32), ∀ (tally_ : Nat → Int32), it2 (m_X4_placeOneMore_28 v2 v3 (it2 (m_X4_placeOneMore_2 v1 v2) n2)) n28 v4 tally_ = some o0 → ∀ (H : Heap) (locs : List Loc) (ls : Array Slot), va_P (dC, dI) vwCl [(h0, .inr (4, [.ref h0_first, .ref h0_startsAt, .ref h0_tally])), (h0_tally, .inl (cyI, 64, .inl tally_))] H → va_D A [(h0, .inr (4, [.ref h0_first, .ref h0_startsAt, .ref h0_tally])), (h0_tally, .inl (cyI, 64, .inl tally_))] → va_S A s.heap H locs → lv_has ls 5 [(0, .ref h0), (1, .int v1), (2, .int v2), (3, .int v3), (4, .int v4)] → W p l e rmX4_placeOneMore s m args below meth c H locs 0 0 Q (F0 m 28 ls []) := by
        intro v3 n28
        induction n28 with
        | zero => intro v4 tally_ h; exact absurd h (fun z => it2_z z)
        | succ n28 ih28 =>
          intro v4 tally_ h H locs ls hP hD hS hl
          have h : m_X4_placeOneMore_28 v2 v3 (it2 (m_X4_placeOneMore_2 v1 v2) n2) (it2 (m_X4_placeOneMore_28 v2 v3 (it2 (m_X4_placeOneMore_2 v1 v2) n2)) n28) v4 tally_ = some o0 := h
          unfold m_X4_placeOneMore_28 at h
          refine lv_iload hx hb dX4_placeOneMore_28 (lv_at hl 4 rfl) ?_
          refine lv_bipush (v := 6) hx hb dX4_placeOneMore_30 (by decide) ?_
          refine lv_icmp_ge (tgt := 74) hx hb dX4_placeOneMore_32 (by decide) (fun c_ => ?_) (fun c_ => ?_)
          · have h := (if_pos c_).symm.trans h
            obtain ⟨v3_1, e_v3_1⟩ : ∃ z : Int32, z = (v3 + 1) := ⟨_, rfl⟩
            have h := lt_use e_v3_1 h
            refine lv_iinc (v := v3_1) (lv' := [(3, .int v3_1), (0, .ref h0), (1, .int v1), (2, .int v2), (4, .int v4)]) hx hb dX4_placeOneMore_74 hl (k := 3) rfl (by rw [e_v3_1]; rfl) (by decide) rfl (fun ls hl => ?_)
            refine lv_goto (tgt := 2) hx hb dX4_placeOneMore_77 (by decide) ?_
            exact ih2 v3_1 tally_ h _ _ _ hP hD hS (lv_sub hl [1, 2, 3, 0] rfl)
          · have h := (if_neg c_).symm.trans h
            refine lv_iload_n hx hb dX4_placeOneMore_35 rfl (lv_at hl 2 rfl) ?_
            refine lv_iload_n hx hb dX4_placeOneMore_36 rfl (lv_at hl 3 rfl) ?_
            refine lv_iconst (v := (-1)) hx hb dX4_placeOneMore_37 (by decide) ?_
            refine lv_ixor hx hb dX4_placeOneMore_38 ?_
            refine lv_iand hx hb dX4_placeOneMore_39 ?_
            refine lv_iload hx hb dX4_placeOneMore_40 (lv_at hl 4 rfl) ?_
            obtain ⟨r_2, hq, h⟩ := bd1_some h
            refine uN_i (As := [.int (v2 &&& (v3 ^^^ (-1))), .int v4]) (rest := []) ⟨hx, hb, hml, hown, hts⟩ (c_X5_hasBit l dC dI cyC cyI cyJ (v2 &&& (v3 ^^^ (-1))) v4 r_2 hq) ⟨va_cnB 2 hts gX4_placeOneMore_X5_hasBit_n24 rfl rfl rfl (hE.2.1 ("OptionLattice$Ways", 24, ⟨"OptionLattice", "hasBit", "(II)Z"⟩) (List.mem_of_getElem? (i := 10) rfl)) (hts (.initialized RX5) (by decide +kernel)) (by decide +kernel) ⟨Nat.le_of_ble_eq_true rfl, Nat.le_of_ble_eq_true rfl⟩, (hts (.static yX5_hasBit) (by decide +kernel)), trivial⟩ hK hE hA hP hD hS [] rfl rfl rfl rfl hl.1 rfl (Nat.le_of_ble_eq_true rfl) ⟨Nat.zero_le _, Nat.zero_le _⟩ dX4_placeOneMore_42 (fun H locs hP hD hS => ?_)
            have hP : va_P (dC, dI) vwCl [(h0, .inr (4, [.ref h0_first, .ref h0_startsAt, .ref h0_tally])), (h0_tally, .inl (cyI, 64, .inl tally_))] H := hP
            have hD : va_D A [(h0, .inr (4, [.ref h0_first, .ref h0_startsAt, .ref h0_tally])), (h0_tally, .inl (cyI, 64, .inl tally_))] := hD
            refine lv_if_eq (tgt := 68) hx hb dX4_placeOneMore_45 (by decide) (fun c_ => ?_) (fun c_ => ?_)
            · have h := (if_pos c_).symm.trans h
              obtain ⟨v4_3, e_v4_3⟩ : ∃ z : Int32, z = (v4 + 1) := ⟨_, rfl⟩
              have h := lt_use e_v4_3 h
              refine lv_iinc (v := v4_3) (lv' := [(4, .int v4_3), (0, .ref h0), (1, .int v1), (2, .int v2), (3, .int v3)]) hx hb dX4_placeOneMore_68 hl (k := 4) rfl (by rw [e_v4_3]; rfl) (by decide) rfl (fun ls hl => ?_)
              refine lv_goto (tgt := 28) hx hb dX4_placeOneMore_71 (by decide) ?_
              exact ih28 v4_3 tally_ h _ _ _ hP hD hS (lv_sub hl [1, 2, 3, 4, 0] rfl)
            · have h := (if_neg c_).symm.trans h
              refine lv_aload_n hx hb dX4_placeOneMore_48 rfl (lv_at hl 0 rfl) ?_
              refine va_get (D := (dC, dI)) (ci := 4) (v := .ref h0_tally) (C := RX4) (T := TX4) (N := 3) hx hb hts hiX4 hown hK hP 0 rfl rfl 2 (by decide) (hts (.fieldLink RX4 19 "OptionLattice$Ways" "tally" "[I") (by decide +kernel)) (fun _ h9 => h9) rfl dX4_placeOneMore_49 ?_
              refine lv_iload_n hx hb dX4_placeOneMore_52 rfl (lv_at hl 3 rfl) ?_
              refine lv_iconst (v := 1) hx hb dX4_placeOneMore_53 (by decide) ?_
              refine lv_iload hx hb dX4_placeOneMore_54 (lv_at hl 4 rfl) ?_
              refine lv_ishl hx hb dX4_placeOneMore_56 ?_
              refine lv_ior hx hb dX4_placeOneMore_57 ?_
              refine lv_dup2_11 hx hb dX4_placeOneMore_58 rfl rfl ?_
              obtain ⟨g_, h⟩ := gd_some h
              refine va_iald hx hb hK hP 1 1 rfl rfl (inb_in g_) dX4_placeOneMore_59 ?_
              refine lv_aload_n hx hb dX4_placeOneMore_60 rfl (lv_at hl 0 rfl) ?_
              refine va_get (D := (dC, dI)) (ci := 4) (v := .ref h0_tally) (C := RX4) (T := TX4) (N := 3) hx hb hts hiX4 hown hK hP 0 rfl rfl 2 (by decide) (hts (.fieldLink RX4 19 "OptionLattice$Ways" "tally" "[I") (by decide +kernel)) (fun _ h9 => h9) rfl dX4_placeOneMore_61 ?_
              refine lv_iload_n hx hb dX4_placeOneMore_64 rfl (lv_at hl 3 rfl) ?_
              obtain ⟨g_, h⟩ := gd_some h
              refine va_iald hx hb hK hP 1 1 rfl rfl (inb_in g_) dX4_placeOneMore_65 ?_
              refine lv_iadd hx hb dX4_placeOneMore_66 ?_
              obtain ⟨g_, h⟩ := gd_some h
              refine va_iast hx hb hK hP hD hS 1 1 rfl rfl (inb_in g_) dX4_placeOneMore_67 (fun H locs hP hD hS => ?_)
              have hP : va_P (dC, dI) vwCl [(h0, .inr (4, [.ref h0_first, .ref h0_startsAt, .ref h0_tally])), (h0_tally, .inl (cyI, 64, .inl (upd tally_ ((v3 ||| ((1 : Int32) <<< (v4 &&& 31)))).toNatClampNeg ((tally_ ((v3 ||| ((1 : Int32) <<< (v4 &&& 31)))).toNatClampNeg) + (tally_ v3.toNatClampNeg)))))] H := hP
              have hD : va_D A [(h0, .inr (4, [.ref h0_first, .ref h0_startsAt, .ref h0_tally])), (h0_tally, .inl (cyI, 64, .inl (upd tally_ ((v3 ||| ((1 : Int32) <<< (v4 &&& 31)))).toNatClampNeg ((tally_ ((v3 ||| ((1 : Int32) <<< (v4 &&& 31)))).toNatClampNeg) + (tally_ v3.toNatClampNeg)))))] := hD
              obtain ⟨v4_4, e_v4_4⟩ : ∃ z : Int32, z = (v4 + 1) := ⟨_, rfl⟩
              have h := lt_use e_v4_4 h
              refine lv_iinc (v := v4_4) (lv' := [(4, .int v4_4), (0, .ref h0), (1, .int v1), (2, .int v2), (3, .int v3)]) hx hb dX4_placeOneMore_68 hl (k := 4) rfl (by rw [e_v4_4]; rfl) (by decide) rfl (fun ls hl => ?_)
              refine lv_goto (tgt := 28) hx hb dX4_placeOneMore_71 (by decide) ?_
              exact ih28 v4_4 (upd tally_ ((v3 ||| ((1 : Int32) <<< (v4 &&& 31)))).toNatClampNeg ((tally_ ((v3 ||| ((1 : Int32) <<< (v4 &&& 31)))).toNatClampNeg) + (tally_ v3.toNatClampNeg))) h _ _ _ hP hD hS (lv_sub hl [1, 2, 3, 4, 0] rfl)
      intro v3 tally_ h H locs ls hP hD hS hl
      have h : m_X4_placeOneMore_2 v1 v2 (it2 (m_X4_placeOneMore_2 v1 v2) n2) v3 tally_ = some o0 := h
      unfold m_X4_placeOneMore_2 at h
      refine lv_iload_n hx hb dX4_placeOneMore_2 rfl (lv_at hl 3 rfl) ?_
      refine lv_bipush (v := 63) hx hb dX4_placeOneMore_3 (by decide) ?_
      refine lv_icmp_gt (tgt := 80) hx hb dX4_placeOneMore_5 (by decide) (fun c_ => ?_) (fun c_ => ?_)
      · have h := (if_pos c_).symm.trans h
        have h : some tally_ = some o0 := h
        have z0 := Option.some.inj h
        obtain rfl := z0
        exact hret _ _ _ _ hP hS dX4_placeOneMore_80
      · have h := (if_neg c_).symm.trans h
        refine lv_iload_n hx hb dX4_placeOneMore_8 rfl (lv_at hl 3 rfl) ?_
        obtain ⟨r_5, hq, h⟩ := bd1_some h
        refine uS_i (As := [.int v3]) (rest := []) ⟨hx, hb, hml, hown, hts⟩ (c_J6_bitCount_0f7a4 l dC dI cyC cyI cyJ v3 r_5 hq) (va_cwS 1 hts gX4_placeOneMore_J6_bitCount_0f7a4 rfl rfl rfl (by decide +kernel) ⟨Nat.le_of_ble_eq_true rfl, Nat.le_of_ble_eq_true rfl⟩) hK hE hA hP hD hS [] rfl rfl rfl rfl hl.1 rfl (Nat.le_of_ble_eq_true rfl) ⟨Nat.zero_le _, Nat.zero_le _⟩ dX4_placeOneMore_9 (fun H locs hP hD hS => ?_)
        have hP : va_P (dC, dI) vwCl [(h0, .inr (4, [.ref h0_first, .ref h0_startsAt, .ref h0_tally])), (h0_tally, .inl (cyI, 64, .inl tally_))] H := hP
        have hD : va_D A [(h0, .inr (4, [.ref h0_first, .ref h0_startsAt, .ref h0_tally])), (h0_tally, .inl (cyI, 64, .inl tally_))] := hD
        refine lv_iload_n hx hb dX4_placeOneMore_12 rfl (lv_at hl 1 rfl) ?_
        refine lv_icmp_ne (tgt := 74) hx hb dX4_placeOneMore_13 (by decide) (fun c_ => ?_) (fun c_ => ?_)
        · have h := (if_neg c_).symm.trans h
          obtain ⟨v3_6, e_v3_6⟩ : ∃ z : Int32, z = (v3 + 1) := ⟨_, rfl⟩
          have h := lt_use e_v3_6 h
          refine lv_iinc (v := v3_6) (lv' := [(3, .int v3_6), (0, .ref h0), (1, .int v1), (2, .int v2)]) hx hb dX4_placeOneMore_74 hl (k := 3) rfl (by rw [e_v3_6]; rfl) (by decide) rfl (fun ls hl => ?_)
          refine lv_goto (tgt := 2) hx hb dX4_placeOneMore_77 (by decide) ?_
          exact ih2 v3_6 tally_ h _ _ _ hP hD hS (lv_sub hl [1, 2, 3, 0] rfl)
        · have h := (if_pos c_).symm.trans h
          refine lv_aload_n hx hb dX4_placeOneMore_16 rfl (lv_at hl 0 rfl) ?_
          refine va_get (D := (dC, dI)) (ci := 4) (v := .ref h0_tally) (C := RX4) (T := TX4) (N := 3) hx hb hts hiX4 hown hK hP 0 rfl rfl 2 (by decide) (hts (.fieldLink RX4 19 "OptionLattice$Ways" "tally" "[I") (by decide +kernel)) (fun _ h9 => h9) rfl dX4_placeOneMore_17 ?_
          refine lv_iload_n hx hb dX4_placeOneMore_20 rfl (lv_at hl 3 rfl) ?_
          obtain ⟨g_, h⟩ := gd_some h
          refine va_iald hx hb hK hP 1 1 rfl rfl (inb_in g_) dX4_placeOneMore_21 ?_
          refine lv_if_eq (tgt := 74) hx hb dX4_placeOneMore_22 (by decide) (fun c_ => ?_) (fun c_ => ?_)
          · have h := (if_pos c_).symm.trans h
            obtain ⟨v3_7, e_v3_7⟩ : ∃ z : Int32, z = (v3 + 1) := ⟨_, rfl⟩
            have h := lt_use e_v3_7 h
            refine lv_iinc (v := v3_7) (lv' := [(3, .int v3_7), (0, .ref h0), (1, .int v1), (2, .int v2)]) hx hb dX4_placeOneMore_74 hl (k := 3) rfl (by rw [e_v3_7]; rfl) (by decide) rfl (fun ls hl => ?_)
            refine lv_goto (tgt := 2) hx hb dX4_placeOneMore_77 (by decide) ?_
            exact ih2 v3_7 tally_ h _ _ _ hP hD hS (lv_sub hl [1, 2, 3, 0] rfl)
          · have h := (if_neg c_).symm.trans h
            refine lv_iconst (v := 0) hx hb dX4_placeOneMore_25 (by decide) ?_
            refine lv_istore (lv' := [(4, .int 0), (0, .ref h0), (1, .int v1), (2, .int v2), (3, .int v3)]) hx hb dX4_placeOneMore_26 hl (by decide) rfl (fun ls hl => ?_)
            exact L28 v3 1100 0 tally_ h _ _ _ hP hD hS (lv_sub hl [1, 2, 3, 4, 0] rfl)
  unfold m_X4_placeOneMore at h
  refine lv_iconst (v := 0) hx hb dX4_placeOneMore_0 (by decide) ?_
  refine lv_istore_n (lv' := [(3, .int 0), (0, .ref h0), (1, .int v1), (2, .int v2)]) hx hb dX4_placeOneMore_1 rfl hl (by decide) rfl (fun ls hl => ?_)
  exact L2  1100 0 tally_ h _ _ _ hP hD hS (lv_sub hl [1, 2, 3, 0] rfl)

def m_X4_numberOf_73 (tally_ : Nat → Int32) (v3 : Int32) (rec73 : Int32 → Int32 → Option (Int32 × (Nat → Int32))) : Int32 → Int32 → Option (Int32 × (Nat → Int32)) := fun v4 v5 =>
  (if 63 < v5 then some (v4, tally_) else bd1 (m_J6_bitCount_0f7a4 v5) (fun r_1 => (if r_1 = v3 then gd (inb v5 64) (lt' (v4 + (tally_ v5.toNatClampNeg)) (fun v4_4 => lt' (v5 + 1) (fun v5_5 => rec73 v4_4 v5_5))) else lt' (v4 + 0) (fun v4_2 => lt' (v5 + 1) (fun v5_3 => rec73 v4_2 v5_3)))))
def m_X4_numberOf_33 (a1_arr_ : Nat → Int32) (v2 : Int32) (rec33 : Int32 → Int32 → (Nat → Int32) → Option (Int32 × (Nat → Int32))) : Int32 → Int32 → (Nat → Int32) → Option (Int32 × (Nat → Int32)) := fun v3 v4 tally_ =>
  (if 10 ≤ v4 then it2 (m_X4_numberOf_73 tally_ v3) 1100 0 0 else bd1 (m_X5_hasBit v2 v4) (fun r_6 => (if r_6 = 0 then lt' (v4 + 1) (fun v4_7 => rec33 v3 v4_7 tally_) else gd (inb v4 10) (bd1 (m_X4_placeOneMore tally_ v3 (a1_arr_ v4.toNatClampNeg)) (fun tally_8 => lt' (v3 + 1) (fun v3_9 => lt' (v4 + 1) (fun v4_10 => rec33 v3_9 v4_10 tally_8)))))))
def m_X4_numberOf_21 (tally_ : Nat → Int32) (a1_arr_ : Nat → Int32) (v2 : Int32) : Option (Int32 × (Nat → Int32)) :=
  gd (inb 0 64) (it3 (m_X4_numberOf_33 a1_arr_ v2) 1100 0 0 (upd tally_ (0 : Int32).toNatClampNeg 1))
def m_X4_numberOf_2 (a1_arr_ : Nat → Int32) (v2 : Int32) (rec2 : Int32 → (Nat → Int32) → Option (Int32 × (Nat → Int32))) : Int32 → (Nat → Int32) → Option (Int32 × (Nat → Int32)) := fun v3 tally_ =>
  (if 63 < v3 then m_X4_numberOf_21 tally_ a1_arr_ v2 else gd (inb v3 64) (lt' (v3 + 1) (fun v3_11 => rec2 v3_11 (upd tally_ v3.toNatClampNeg 0))))
def m_X4_numberOf (tally_ : Nat → Int32) (a1_arr_ : Nat → Int32) (v2 : Int32) : Option (Int32 × (Nat → Int32)) :=
  it2 (m_X4_numberOf_2 a1_arr_ v2) 1100 0 tally_
abbrev rmX4_numberOf : Room := { frames := 2, cells := 0, slots := 0, locals := 45 }
set_option maxHeartbeats 4000000 in
set_option maxRecDepth 100000 in
theorem c_X4_numberOf (l : Launch) (dC : Nat → ClassId) (dI : Nat → Nat → Nat) (cyC cyI cyJ : ClassId) (h0 h0_first h0_startsAt h0_tally h1 : Nat) (tally_ : Nat → Int32) (a1_arr_ : Nat → Int32) (v2 : Int32) (rr : Int32) (o0 : Nat → Int32) (h : m_X4_numberOf tally_ a1_arr_ v2 = some (rr, o0)) : uMi l yX4_numberOf wsX4_numberOf rmX4_numberOf (dC, dI) [(cyC, .char), (cyI, .int), (cyJ, .long)] [.ref h0, .ref h1, .int v2] [(h0, .inr (4, [.ref h0_first, .ref h0_startsAt, .ref h0_tally])), (h0_tally, .inl (cyI, 64, .inl tally_)), (h1, .inl (cyI, 10, .inl a1_arr_))] [(h0, .inr (4, [.ref h0_first, .ref h0_startsAt, .ref h0_tally])), (h0_tally, .inl (cyI, 64, .inl o0)), (h1, .inl (cyI, 10, .inl a1_arr_))] rr := by
  refine uMi.of (cc := cX4_numberOf) (maxL := 6) (by decide) rfl (Nat.le_of_ble_eq_true rfl) (fun p e s m args below meth c A ls Q hx hb hml hown hts hA hP hK hD hE hS hl hret => ?_)
  have hown : s.vm.findClass RX4 = some m.cls := hown
  have hl : lv_has ls 6 [(0, .ref h0), (1, .ref h1), (2, .int v2)] := hl
  have hiX4 : ∀ w ∈ u_ws RX4 TX4 3, w ∈ wsX4_numberOf := fun _ h9 => List.mem_cons_of_mem _ (List.mem_append_right _ h9)
  have L73 : ∀ (v3 : Int32), ∀ (tally_ : Nat → Int32), ∀ (n73 : Nat), ∀ (v4 : Int32), ∀ (v5 : Int32), it2 (m_X4_numberOf_73 tally_ v3) n73 v4 v5 = some (rr, o0) → ∀ (H : Heap) (locs : List Loc) (ls : Array Slot), va_P (dC, dI) vwCl [(h0, .inr (4, [.ref h0_first, .ref h0_startsAt, .ref h0_tally])), (h0_tally, .inl (cyI, 64, .inl tally_)), (h1, .inl (cyI, 10, .inl a1_arr_))] H → va_D A [(h0, .inr (4, [.ref h0_first, .ref h0_startsAt, .ref h0_tally])), (h0_tally, .inl (cyI, 64, .inl tally_)), (h1, .inl (cyI, 10, .inl a1_arr_))] → va_S A s.heap H locs → lv_has ls 6 [(0, .ref h0), (3, .int v3), (4, .int v4), (5, .int v5)] → W p l e rmX4_numberOf s m args below meth c H locs 0 0 Q (F0 m 73 ls []) := by
    intro v3 tally_ n73
    induction n73 with
    | zero => intro v4 v5 h; exact absurd h (fun z => it2_z z)
    | succ n73 ih73 =>
      intro v4 v5 h H locs ls hP hD hS hl
      have h : m_X4_numberOf_73 tally_ v3 (it2 (m_X4_numberOf_73 tally_ v3) n73) v4 v5 = some (rr, o0) := h
      unfold m_X4_numberOf_73 at h
      refine lv_iload hx hb dX4_numberOf_73 (lv_at hl 3 rfl) ?_
      refine lv_bipush (v := 63) hx hb dX4_numberOf_75 (by decide) ?_
      refine lv_icmp_gt (tgt := 111) hx hb dX4_numberOf_77 (by decide) (fun c_ => ?_) (fun c_ => ?_)
      · have h := (if_pos c_).symm.trans h
        refine lv_iload hx hb dX4_numberOf_111 (lv_at hl 2 rfl) ?_
        have h : some (v4, tally_) = some (rr, o0) := h
        have z0 := Option.some.inj h
        obtain ⟨rfl, z1⟩ := Prod.mk.inj z0
        obtain rfl := z1
        exact hret _ _ _ _ hP hS rfl dX4_numberOf_113
      · have h := (if_neg c_).symm.trans h
        refine lv_iload hx hb dX4_numberOf_80 (lv_at hl 2 rfl) ?_
        refine lv_iload hx hb dX4_numberOf_82 (lv_at hl 3 rfl) ?_
        obtain ⟨r_1, hq, h⟩ := bd1_some h
        refine uS_i (As := [.int v5]) (rest := [.int v4]) ⟨hx, hb, hml, hown, hts⟩ (c_J6_bitCount_0f7a4 l dC dI cyC cyI cyJ v5 r_1 hq) (va_cwS 1 hts gX4_numberOf_J6_bitCount_0f7a4 rfl rfl rfl (by decide +kernel) ⟨Nat.le_of_ble_eq_true rfl, Nat.le_of_ble_eq_true rfl⟩) hK hE hA hP hD hS [] rfl rfl rfl rfl hl.1 rfl (Nat.le_of_ble_eq_true rfl) ⟨Nat.zero_le _, Nat.zero_le _⟩ dX4_numberOf_84 (fun H locs hP hD hS => ?_)
        have hP : va_P (dC, dI) vwCl [(h0, .inr (4, [.ref h0_first, .ref h0_startsAt, .ref h0_tally])), (h0_tally, .inl (cyI, 64, .inl tally_)), (h1, .inl (cyI, 10, .inl a1_arr_))] H := hP
        have hD : va_D A [(h0, .inr (4, [.ref h0_first, .ref h0_startsAt, .ref h0_tally])), (h0_tally, .inl (cyI, 64, .inl tally_)), (h1, .inl (cyI, 10, .inl a1_arr_))] := hD
        refine lv_iload_n hx hb dX4_numberOf_87 rfl (lv_at hl 1 rfl) ?_
        refine lv_icmp_ne (tgt := 101) hx hb dX4_numberOf_88 (by decide) (fun c_ => ?_) (fun c_ => ?_)
        · have h := (if_neg c_).symm.trans h
          refine lv_iconst (v := 0) hx hb dX4_numberOf_101 (by decide) ?_
          refine lv_iadd hx hb dX4_numberOf_102 ?_
          refine lv_topi (fun v4_2 e_v4_2 => ?_)
          have h := lt_use e_v4_2 h
          refine lv_istore (lv' := [(4, .int v4_2), (0, .ref h0), (3, .int v3), (5, .int v5)]) hx hb dX4_numberOf_103 hl (by decide) rfl (fun ls hl => ?_)
          obtain ⟨v5_3, e_v5_3⟩ : ∃ z : Int32, z = (v5 + 1) := ⟨_, rfl⟩
          have h := lt_use e_v5_3 h
          refine lv_iinc (v := v5_3) (lv' := [(5, .int v5_3), (4, .int v4_2), (0, .ref h0), (3, .int v3)]) hx hb dX4_numberOf_105 hl (k := 3) rfl (by rw [e_v5_3]; rfl) (by decide) rfl (fun ls hl => ?_)
          refine lv_goto (tgt := 73) hx hb dX4_numberOf_108 (by decide) ?_
          exact ih73 v4_2 v5_3 h _ _ _ hP hD hS (lv_sub hl [2, 3, 1, 0] rfl)
        · have h := (if_pos c_).symm.trans h
          refine lv_aload_n hx hb dX4_numberOf_91 rfl (lv_at hl 0 rfl) ?_
          refine va_get (D := (dC, dI)) (ci := 4) (v := .ref h0_tally) (C := RX4) (T := TX4) (N := 3) hx hb hts hiX4 hown hK hP 0 rfl rfl 2 (by decide) (hts (.fieldLink RX4 19 "OptionLattice$Ways" "tally" "[I") (by decide +kernel)) (fun _ h9 => h9) rfl dX4_numberOf_92 ?_
          refine lv_iload hx hb dX4_numberOf_95 (lv_at hl 3 rfl) ?_
          obtain ⟨g_, h⟩ := gd_some h
          refine va_iald hx hb hK hP 1 1 rfl rfl (inb_in g_) dX4_numberOf_97 ?_
          refine lv_goto (tgt := 102) hx hb dX4_numberOf_98 (by decide) ?_
          refine lv_iadd hx hb dX4_numberOf_102 ?_
          refine lv_topi (fun v4_4 e_v4_4 => ?_)
          have h := lt_use e_v4_4 h
          refine lv_istore (lv' := [(4, .int v4_4), (0, .ref h0), (3, .int v3), (5, .int v5)]) hx hb dX4_numberOf_103 hl (by decide) rfl (fun ls hl => ?_)
          obtain ⟨v5_5, e_v5_5⟩ : ∃ z : Int32, z = (v5 + 1) := ⟨_, rfl⟩
          have h := lt_use e_v5_5 h
          refine lv_iinc (v := v5_5) (lv' := [(5, .int v5_5), (4, .int v4_4), (0, .ref h0), (3, .int v3)]) hx hb dX4_numberOf_105 hl (k := 3) rfl (by rw [e_v5_5]; rfl) (by decide) rfl (fun ls hl => ?_)
          refine lv_goto (tgt := 73) hx hb dX4_numberOf_108 (by decide) ?_
          exact ih73 v4_4 v5_5 h _ _ _ hP hD hS (lv_sub hl [2, 3, 1, 0] rfl)
  have L33 : ∀ (n33 : Nat), ∀ (v3 : Int32), ∀ (v4 : Int32), ∀ (tally_ : Nat → Int32), it3 (m_X4_numberOf_33 a1_arr_ v2) n33 v3 v4 tally_ = some (rr, o0) → ∀ (H : Heap) (locs : List Loc) (ls : Array Slot), va_P (dC, dI) vwCl [(h0, .inr (4, [.ref h0_first, .ref h0_startsAt, .ref h0_tally])), (h0_tally, .inl (cyI, 64, .inl tally_)), (h1, .inl (cyI, 10, .inl a1_arr_))] H → va_D A [(h0, .inr (4, [.ref h0_first, .ref h0_startsAt, .ref h0_tally])), (h0_tally, .inl (cyI, 64, .inl tally_)), (h1, .inl (cyI, 10, .inl a1_arr_))] → va_S A s.heap H locs → lv_has ls 6 [(0, .ref h0), (1, .ref h1), (2, .int v2), (3, .int v3), (4, .int v4)] → W p l e rmX4_numberOf s m args below meth c H locs 0 0 Q (F0 m 33 ls []) := by
    intro n33
    induction n33 with
    | zero => intro v3 v4 tally_ h; exact absurd h (fun z => it3_z z)
    | succ n33 ih33 =>
      intro v3 v4 tally_ h H locs ls hP hD hS hl
      have h : m_X4_numberOf_33 a1_arr_ v2 (it3 (m_X4_numberOf_33 a1_arr_ v2) n33) v3 v4 tally_ = some (rr, o0) := h
      unfold m_X4_numberOf_33 at h
      refine lv_iload hx hb dX4_numberOf_33 (lv_at hl 4 rfl) ?_
      refine lv_bipush (v := 10) hx hb dX4_numberOf_35 (by decide) ?_
      refine lv_icmp_ge (tgt := 67) hx hb dX4_numberOf_37 (by decide) (fun c_ => ?_) (fun c_ => ?_)
      · have h := (if_pos c_).symm.trans h
        refine lv_iconst (v := 0) hx hb dX4_numberOf_67 (by decide) ?_
        refine lv_istore (lv' := [(4, .int 0), (0, .ref h0), (1, .ref h1), (2, .int v2), (3, .int v3)]) hx hb dX4_numberOf_68 hl (by decide) rfl (fun ls hl => ?_)
        refine lv_iconst (v := 0) hx hb dX4_numberOf_70 (by decide) ?_
        refine lv_istore (lv' := [(5, .int 0), (4, .int 0), (0, .ref h0), (1, .ref h1), (2, .int v2), (3, .int v3)]) hx hb dX4_numberOf_71 hl (by decide) rfl (fun ls hl => ?_)
        exact L73 v3 tally_ 1100 0 0 h _ _ _ hP hD hS (lv_sub hl [2, 5, 1, 0] rfl)
      · have h := (if_neg c_).symm.trans h
        refine lv_iload_n hx hb dX4_numberOf_40 rfl (lv_at hl 2 rfl) ?_
        refine lv_iload hx hb dX4_numberOf_41 (lv_at hl 4 rfl) ?_
        obtain ⟨r_6, hq, h⟩ := bd1_some h
        refine uN_i (As := [.int v2, .int v4]) (rest := []) ⟨hx, hb, hml, hown, hts⟩ (c_X5_hasBit l dC dI cyC cyI cyJ v2 v4 r_6 hq) ⟨va_cnB 2 hts gX4_numberOf_X5_hasBit_n24 rfl rfl rfl (hE.2.1 ("OptionLattice$Ways", 24, ⟨"OptionLattice", "hasBit", "(II)Z"⟩) (List.mem_of_getElem? (i := 10) rfl)) (hts (.initialized RX5) (by decide +kernel)) (by decide +kernel) ⟨Nat.le_of_ble_eq_true rfl, Nat.le_of_ble_eq_true rfl⟩, (hts (.static yX5_hasBit) (by decide +kernel)), trivial⟩ hK hE hA hP hD hS [] rfl rfl rfl rfl hl.1 rfl (Nat.le_of_ble_eq_true rfl) ⟨Nat.zero_le _, Nat.zero_le _⟩ dX4_numberOf_43 (fun H locs hP hD hS => ?_)
        have hP : va_P (dC, dI) vwCl [(h0, .inr (4, [.ref h0_first, .ref h0_startsAt, .ref h0_tally])), (h0_tally, .inl (cyI, 64, .inl tally_)), (h1, .inl (cyI, 10, .inl a1_arr_))] H := hP
        have hD : va_D A [(h0, .inr (4, [.ref h0_first, .ref h0_startsAt, .ref h0_tally])), (h0_tally, .inl (cyI, 64, .inl tally_)), (h1, .inl (cyI, 10, .inl a1_arr_))] := hD
        refine lv_if_eq (tgt := 61) hx hb dX4_numberOf_46 (by decide) (fun c_ => ?_) (fun c_ => ?_)
        · have h := (if_pos c_).symm.trans h
          obtain ⟨v4_7, e_v4_7⟩ : ∃ z : Int32, z = (v4 + 1) := ⟨_, rfl⟩
          have h := lt_use e_v4_7 h
          refine lv_iinc (v := v4_7) (lv' := [(4, .int v4_7), (0, .ref h0), (1, .ref h1), (2, .int v2), (3, .int v3)]) hx hb dX4_numberOf_61 hl (k := 4) rfl (by rw [e_v4_7]; rfl) (by decide) rfl (fun ls hl => ?_)
          refine lv_goto (tgt := 33) hx hb dX4_numberOf_64 (by decide) ?_
          exact ih33 v3 v4_7 tally_ h _ _ _ hP hD hS (lv_sub hl [1, 2, 3, 4, 0] rfl)
        · have h := (if_neg c_).symm.trans h
          refine lv_aload_n hx hb dX4_numberOf_49 rfl (lv_at hl 0 rfl) ?_
          refine lv_iload_n hx hb dX4_numberOf_50 rfl (lv_at hl 3 rfl) ?_
          refine lv_aload_n hx hb dX4_numberOf_51 rfl (lv_at hl 1 rfl) ?_
          refine lv_iload hx hb dX4_numberOf_52 (lv_at hl 4 rfl) ?_
          obtain ⟨g_, h⟩ := gd_some h
          refine va_iald hx hb hK hP 2 1 rfl rfl (inb_in g_) dX4_numberOf_54 ?_
          obtain ⟨tally_8, hq, h⟩ := bd1_some h
          refine uV_v (b := h0) (As := [.int v3, .int (a1_arr_ v4.toNatClampNeg)]) (rest := []) ⟨hx, hb, hml, hown, hts⟩ (c_X4_placeOneMore l dC dI cyC cyI cyJ h0 h0_first h0_startsAt h0_tally tally_ v3 (a1_arr_ v4.toNatClampNeg) tally_8 hq) (cwV 2 hts gX4_numberOf_X4_placeOneMore rfl rfl rfl (by decide +kernel) ⟨Nat.le_of_ble_eq_true rfl, Nat.le_of_ble_eq_true rfl⟩) hK hE hA hP hD hS [0, 1] rfl rfl rfl 4 0 rfl rfl rfl hl.1 rfl (Nat.le_of_ble_eq_true rfl) ⟨Nat.zero_le _, Nat.zero_le _⟩ dX4_numberOf_55 (fun H locs hP hD hS => ?_)
          have hP : va_P (dC, dI) vwCl [(h0, .inr (4, [.ref h0_first, .ref h0_startsAt, .ref h0_tally])), (h0_tally, .inl (cyI, 64, .inl tally_8)), (h1, .inl (cyI, 10, .inl a1_arr_))] H := hP
          have hD : va_D A [(h0, .inr (4, [.ref h0_first, .ref h0_startsAt, .ref h0_tally])), (h0_tally, .inl (cyI, 64, .inl tally_8)), (h1, .inl (cyI, 10, .inl a1_arr_))] := hD
          obtain ⟨v3_9, e_v3_9⟩ : ∃ z : Int32, z = (v3 + 1) := ⟨_, rfl⟩
          have h := lt_use e_v3_9 h
          refine lv_iinc (v := v3_9) (lv' := [(3, .int v3_9), (0, .ref h0), (1, .ref h1), (2, .int v2), (4, .int v4)]) hx hb dX4_numberOf_58 hl (k := 3) rfl (by rw [e_v3_9]; rfl) (by decide) rfl (fun ls hl => ?_)
          obtain ⟨v4_10, e_v4_10⟩ : ∃ z : Int32, z = (v4 + 1) := ⟨_, rfl⟩
          have h := lt_use e_v4_10 h
          refine lv_iinc (v := v4_10) (lv' := [(4, .int v4_10), (3, .int v3_9), (0, .ref h0), (1, .ref h1), (2, .int v2)]) hx hb dX4_numberOf_61 hl (k := 4) rfl (by rw [e_v4_10]; rfl) (by decide) rfl (fun ls hl => ?_)
          refine lv_goto (tgt := 33) hx hb dX4_numberOf_64 (by decide) ?_
          exact ih33 v3_9 v4_10 tally_8 h _ _ _ hP hD hS (lv_sub hl [2, 3, 4, 1, 0] rfl)
  have J21 : ∀ (tally_ : Nat → Int32), m_X4_numberOf_21 tally_ a1_arr_ v2 = some (rr, o0) → ∀ (H : Heap) (locs : List Loc) (ls : Array Slot), va_P (dC, dI) vwCl [(h0, .inr (4, [.ref h0_first, .ref h0_startsAt, .ref h0_tally])), (h0_tally, .inl (cyI, 64, .inl tally_)), (h1, .inl (cyI, 10, .inl a1_arr_))] H → va_D A [(h0, .inr (4, [.ref h0_first, .ref h0_startsAt, .ref h0_tally])), (h0_tally, .inl (cyI, 64, .inl tally_)), (h1, .inl (cyI, 10, .inl a1_arr_))] → va_S A s.heap H locs → lv_has ls 6 [(0, .ref h0), (1, .ref h1), (2, .int v2)] → W p l e rmX4_numberOf s m args below meth c H locs 0 0 Q (F0 m 21 ls []) := by
    intro tally_ h H locs ls hP hD hS hl
    unfold m_X4_numberOf_21 at h
    refine lv_aload_n hx hb dX4_numberOf_21 rfl (lv_at hl 0 rfl) ?_
    refine va_get (D := (dC, dI)) (ci := 4) (v := .ref h0_tally) (C := RX4) (T := TX4) (N := 3) hx hb hts hiX4 hown hK hP 0 rfl rfl 2 (by decide) (hts (.fieldLink RX4 19 "OptionLattice$Ways" "tally" "[I") (by decide +kernel)) (fun _ h9 => h9) rfl dX4_numberOf_22 ?_
    refine lv_iconst (v := 0) hx hb dX4_numberOf_25 (by decide) ?_
    refine lv_iconst (v := 1) hx hb dX4_numberOf_26 (by decide) ?_
    obtain ⟨g_, h⟩ := gd_some h
    refine va_iast hx hb hK hP hD hS 1 1 rfl rfl (inb_in g_) dX4_numberOf_27 (fun H locs hP hD hS => ?_)
    have hP : va_P (dC, dI) vwCl [(h0, .inr (4, [.ref h0_first, .ref h0_startsAt, .ref h0_tally])), (h0_tally, .inl (cyI, 64, .inl (upd tally_ (0 : Int32).toNatClampNeg 1))), (h1, .inl (cyI, 10, .inl a1_arr_))] H := hP
    have hD : va_D A [(h0, .inr (4, [.ref h0_first, .ref h0_startsAt, .ref h0_tally])), (h0_tally, .inl (cyI, 64, .inl (upd tally_ (0 : Int32).toNatClampNeg 1))), (h1, .inl (cyI, 10, .inl a1_arr_))] := hD
    refine lv_iconst (v := 0) hx hb dX4_numberOf_28 (by decide) ?_
    refine lv_istore_n (lv' := [(3, .int 0), (0, .ref h0), (1, .ref h1), (2, .int v2)]) hx hb dX4_numberOf_29 rfl hl (by decide) rfl (fun ls hl => ?_)
    refine lv_iconst (v := 0) hx hb dX4_numberOf_30 (by decide) ?_
    refine lv_istore (lv' := [(4, .int 0), (3, .int 0), (0, .ref h0), (1, .ref h1), (2, .int v2)]) hx hb dX4_numberOf_31 hl (by decide) rfl (fun ls hl => ?_)
    exact L33  1100 0 0 (upd tally_ (0 : Int32).toNatClampNeg 1) h _ _ _ hP hD hS (lv_sub hl [2, 3, 4, 1, 0] rfl)
  have L2 : ∀ (n2 : Nat), ∀ (v3 : Int32), ∀ (tally_ : Nat → Int32), it2 (m_X4_numberOf_2 a1_arr_ v2) n2 v3 tally_ = some (rr, o0) → ∀ (H : Heap) (locs : List Loc) (ls : Array Slot), va_P (dC, dI) vwCl [(h0, .inr (4, [.ref h0_first, .ref h0_startsAt, .ref h0_tally])), (h0_tally, .inl (cyI, 64, .inl tally_)), (h1, .inl (cyI, 10, .inl a1_arr_))] H → va_D A [(h0, .inr (4, [.ref h0_first, .ref h0_startsAt, .ref h0_tally])), (h0_tally, .inl (cyI, 64, .inl tally_)), (h1, .inl (cyI, 10, .inl a1_arr_))] → va_S A s.heap H locs → lv_has ls 6 [(0, .ref h0), (1, .ref h1), (2, .int v2), (3, .int v3)] → W p l e rmX4_numberOf s m args below meth c H locs 0 0 Q (F0 m 2 ls []) := by
    intro n2
    induction n2 with
    | zero => intro v3 tally_ h; exact absurd h (fun z => it2_z z)
    | succ n2 ih2 =>
      intro v3 tally_ h H locs ls hP hD hS hl
      have h : m_X4_numberOf_2 a1_arr_ v2 (it2 (m_X4_numberOf_2 a1_arr_ v2) n2) v3 tally_ = some (rr, o0) := h
      unfold m_X4_numberOf_2 at h
      refine lv_iload_n hx hb dX4_numberOf_2 rfl (lv_at hl 3 rfl) ?_
      refine lv_bipush (v := 63) hx hb dX4_numberOf_3 (by decide) ?_
      refine lv_icmp_gt (tgt := 21) hx hb dX4_numberOf_5 (by decide) (fun c_ => ?_) (fun c_ => ?_)
      · have h := (if_pos c_).symm.trans h
        exact J21 tally_ h _ _ _ hP hD hS (lv_sub hl [0, 1, 2] rfl)
      · have h := (if_neg c_).symm.trans h
        refine lv_aload_n hx hb dX4_numberOf_8 rfl (lv_at hl 0 rfl) ?_
        refine va_get (D := (dC, dI)) (ci := 4) (v := .ref h0_tally) (C := RX4) (T := TX4) (N := 3) hx hb hts hiX4 hown hK hP 0 rfl rfl 2 (by decide) (hts (.fieldLink RX4 19 "OptionLattice$Ways" "tally" "[I") (by decide +kernel)) (fun _ h9 => h9) rfl dX4_numberOf_9 ?_
        refine lv_iload_n hx hb dX4_numberOf_12 rfl (lv_at hl 3 rfl) ?_
        refine lv_iconst (v := 0) hx hb dX4_numberOf_13 (by decide) ?_
        obtain ⟨g_, h⟩ := gd_some h
        refine va_iast hx hb hK hP hD hS 1 1 rfl rfl (inb_in g_) dX4_numberOf_14 (fun H locs hP hD hS => ?_)
        have hP : va_P (dC, dI) vwCl [(h0, .inr (4, [.ref h0_first, .ref h0_startsAt, .ref h0_tally])), (h0_tally, .inl (cyI, 64, .inl (upd tally_ v3.toNatClampNeg 0))), (h1, .inl (cyI, 10, .inl a1_arr_))] H := hP
        have hD : va_D A [(h0, .inr (4, [.ref h0_first, .ref h0_startsAt, .ref h0_tally])), (h0_tally, .inl (cyI, 64, .inl (upd tally_ v3.toNatClampNeg 0))), (h1, .inl (cyI, 10, .inl a1_arr_))] := hD
        obtain ⟨v3_11, e_v3_11⟩ : ∃ z : Int32, z = (v3 + 1) := ⟨_, rfl⟩
        have h := lt_use e_v3_11 h
        refine lv_iinc (v := v3_11) (lv' := [(3, .int v3_11), (0, .ref h0), (1, .ref h1), (2, .int v2)]) hx hb dX4_numberOf_15 hl (k := 3) rfl (by rw [e_v3_11]; rfl) (by decide) rfl (fun ls hl => ?_)
        refine lv_goto (tgt := 2) hx hb dX4_numberOf_18 (by decide) ?_
        exact ih2 v3_11 (upd tally_ v3.toNatClampNeg 0) h _ _ _ hP hD hS (lv_sub hl [1, 2, 3, 0] rfl)
  unfold m_X4_numberOf at h
  refine lv_iconst (v := 0) hx hb dX4_numberOf_0 (by decide) ?_
  refine lv_istore_n (lv' := [(3, .int 0), (0, .ref h0), (1, .ref h1), (2, .int v2)]) hx hb dX4_numberOf_1 rfl hl (by decide) rfl (fun ls hl => ?_)
  exact L2  1100 0 tally_ h _ _ _ hP hD hS (lv_sub hl [1, 2, 3, 0] rfl)

def m_X5_sign (text_size_ : Int32) (text_signs_ : Nat → Int32) (v1 : Int32) : Option (Int32 × Int32 × (Nat → Int32)) :=
  bd3 (m_X3_append text_size_ text_signs_ v1) (fun r_1 text_size_2 text_signs_3 => (if r_1 = 0 then some ((-1), text_size_2, text_signs_3) else some (text_size_2, text_size_2, text_signs_3)))
abbrev rmX5_sign : Room := { frames := 1, cells := 0, slots := 0, locals := 22 }
set_option maxHeartbeats 4000000 in
set_option maxRecDepth 100000 in
theorem c_X5_sign (l : Launch) (dC : Nat → ClassId) (dI : Nat → Nat → Nat) (cyC cyI cyJ : ClassId) (h0 h0_text h0_text_signs h0_plan h0_planDraft h0_roll h0_rollDraft h0_wayFinder h0_seating h0_demand h0_told : Nat) (toldCount_ : Int32) (text_size_ : Int32) (text_at_ : Int32) (text_signs_ : Nat → Int32) (v1 : Int32) (rr : Int32) (o0 : Int32) (o1 : Nat → Int32) (h : m_X5_sign text_size_ text_signs_ v1 = some (rr, o0, o1)) : uMi l yX5_sign wsX5_sign rmX5_sign (dC, dI) [(cyC, .char), (cyI, .int), (cyJ, .long)] [.ref h0, .int v1] [(h0, .inr (5, [.ref h0_text, .ref h0_plan, .ref h0_planDraft, .ref h0_roll, .ref h0_rollDraft, .ref h0_wayFinder, .ref h0_seating, .ref h0_demand, .ref h0_told, .int toldCount_])), (h0_text, .inr (3, [.ref h0_text_signs, .int text_size_, .int text_at_])), (h0_text_signs, .inl (cyC, 240, .inl text_signs_))] [(h0, .inr (5, [.ref h0_text, .ref h0_plan, .ref h0_planDraft, .ref h0_roll, .ref h0_rollDraft, .ref h0_wayFinder, .ref h0_seating, .ref h0_demand, .ref h0_told, .int toldCount_])), (h0_text, .inr (3, [.ref h0_text_signs, .int o0, .int text_at_])), (h0_text_signs, .inl (cyC, 240, .inl o1))] rr := by
  refine uMi.of (cc := cX5_sign) (maxL := 2) (by decide) rfl (Nat.le_of_ble_eq_true rfl) (fun p e s m args below meth c A ls Q hx hb hml hown hts hA hP hK hD hE hS hl hret => ?_)
  have hown : s.vm.findClass RX5 = some m.cls := hown
  have hl : lv_has ls 2 [(0, .ref h0), (1, .int v1)] := hl
  have hiX3 : ∀ w ∈ u_ws RX3 TX3 3, w ∈ wsX5_sign := fun _ h9 => List.mem_cons_of_mem _ (List.mem_append_right _ h9)
  have hiX5 : ∀ w ∈ u_ws RX5 TX5 10, w ∈ wsX5_sign := fun _ h9 => List.mem_cons_of_mem _ (List.mem_append_left _ (List.mem_append_right _ h9))
  unfold m_X5_sign at h
  refine lv_aload_n hx hb dX5_sign_0 rfl (lv_at hl 0 rfl) ?_
  refine va_get (D := (dC, dI)) (ci := 5) (v := .ref h0_text) (C := RX5) (T := TX5) (N := 10) hx hb hts hiX5 hown hK hP 0 rfl rfl 0 (by decide) (hts (.fieldLink RX5 10 "OptionLattice" "text" "LOptionLattice$Signs;") (by decide +kernel)) (fun _ h9 => h9) rfl dX5_sign_1 ?_
  refine lv_iload_n hx hb dX5_sign_4 rfl (lv_at hl 1 rfl) ?_
  obtain ⟨r_1, text_size_2, text_signs_3, hq, h⟩ := bd3_some h
  refine uV_i (b := h0_text) (As := [.int v1]) (rest := []) ⟨hx, hb, hml, hown, hts⟩ (c_X3_append l dC dI cyC cyI cyJ h0_text h0_text_signs text_size_ text_at_ text_signs_ v1 r_1 text_size_2 text_signs_3 hq) (cwV 1 hts gX5_sign_X3_append rfl rfl rfl (by decide +kernel) ⟨Nat.le_of_ble_eq_true rfl, Nat.le_of_ble_eq_true rfl⟩) hK hE hA hP hD hS [1, 2] rfl rfl rfl 3 0 rfl rfl rfl hl.1 rfl (Nat.le_of_ble_eq_true rfl) ⟨Nat.zero_le _, Nat.zero_le _⟩ dX5_sign_5 (fun H locs hP hD hS => ?_)
  have hP : va_P (dC, dI) vwCl [(h0, .inr (5, [.ref h0_text, .ref h0_plan, .ref h0_planDraft, .ref h0_roll, .ref h0_rollDraft, .ref h0_wayFinder, .ref h0_seating, .ref h0_demand, .ref h0_told, .int toldCount_])), (h0_text, .inr (3, [.ref h0_text_signs, .int text_size_2, .int text_at_])), (h0_text_signs, .inl (cyC, 240, .inl text_signs_3))] H := hP
  have hD : va_D A [(h0, .inr (5, [.ref h0_text, .ref h0_plan, .ref h0_planDraft, .ref h0_roll, .ref h0_rollDraft, .ref h0_wayFinder, .ref h0_seating, .ref h0_demand, .ref h0_told, .int toldCount_])), (h0_text, .inr (3, [.ref h0_text_signs, .int text_size_2, .int text_at_])), (h0_text_signs, .inl (cyC, 240, .inl text_signs_3))] := hD
  refine lv_if_eq (tgt := 21) hx hb dX5_sign_8 (by decide) (fun c_ => ?_) (fun c_ => ?_)
  · have h := (if_pos c_).symm.trans h
    refine lv_iconst (v := (-1)) hx hb dX5_sign_21 (by decide) ?_
    have h : some ((-1), text_size_2, text_signs_3) = some (rr, o0, o1) := h
    have z0 := Option.some.inj h
    obtain ⟨rfl, z1⟩ := Prod.mk.inj z0
    obtain ⟨rfl, z2⟩ := Prod.mk.inj z1
    obtain rfl := z2
    exact hret _ _ _ _ hP hS rfl dX5_sign_22
  · have h := (if_neg c_).symm.trans h
    refine lv_aload_n hx hb dX5_sign_11 rfl (lv_at hl 0 rfl) ?_
    refine va_get (D := (dC, dI)) (ci := 5) (v := .ref h0_text) (C := RX5) (T := TX5) (N := 10) hx hb hts hiX5 hown hK hP 0 rfl rfl 0 (by decide) (hts (.fieldLink RX5 10 "OptionLattice" "text" "LOptionLattice$Signs;") (by decide +kernel)) (fun _ h9 => h9) rfl dX5_sign_12 ?_
    refine va_getN (host := "OptionLattice") (D := (dC, dI)) (ci := 3) (v := .int text_size_2) (C := RX3) (T := TX3) (N := 3) hx hb hts hiX3 hown hK hP 1 rfl rfl 1 (by decide) (va_Nw.use rfl (hE.1 ("OptionLattice", 66, "OptionLattice$Signs", "size", "I") (List.mem_of_getElem? (i := 0) rfl))) (fun _ h9 => h9) rfl dX5_sign_15 ?_
    refine lv_goto (tgt := 22) hx hb dX5_sign_18 (by decide) ?_
    have h : some (text_size_2, text_size_2, text_signs_3) = some (rr, o0, o1) := h
    have z0 := Option.some.inj h
    obtain ⟨rfl, z1⟩ := Prod.mk.inj z0
    obtain ⟨rfl, z2⟩ := Prod.mk.inj z1
    obtain rfl := z2
    exact hret _ _ _ _ hP hS rfl dX5_sign_22

def m_X5_end (text_size_ : Int32) (v1 : Int32) : Option (Int32 × Int32) :=
  bd2 (m_X3_cutTo text_size_ v1) (fun r_1 text_size_2 => gd (isb r_1) (some (r_1, text_size_2)))
abbrev rmX5_end : Room := { frames := 1, cells := 0, slots := 0, locals := 21 }
set_option maxHeartbeats 4000000 in
set_option maxRecDepth 100000 in
theorem c_X5_end (l : Launch) (dC : Nat → ClassId) (dI : Nat → Nat → Nat) (cyC cyI cyJ : ClassId) (h0 h0_text h0_text_signs h0_plan h0_planDraft h0_roll h0_rollDraft h0_wayFinder h0_seating h0_demand h0_told : Nat) (toldCount_ : Int32) (text_size_ : Int32) (text_at_ : Int32) (v1 : Int32) (rr : Int32) (o0 : Int32) (h : m_X5_end text_size_ v1 = some (rr, o0)) : uMi l yX5_end wsX5_end rmX5_end (dC, dI) [(cyC, .char), (cyI, .int), (cyJ, .long)] [.ref h0, .int v1] [(h0, .inr (5, [.ref h0_text, .ref h0_plan, .ref h0_planDraft, .ref h0_roll, .ref h0_rollDraft, .ref h0_wayFinder, .ref h0_seating, .ref h0_demand, .ref h0_told, .int toldCount_])), (h0_text, .inr (3, [.ref h0_text_signs, .int text_size_, .int text_at_]))] [(h0, .inr (5, [.ref h0_text, .ref h0_plan, .ref h0_planDraft, .ref h0_roll, .ref h0_rollDraft, .ref h0_wayFinder, .ref h0_seating, .ref h0_demand, .ref h0_told, .int toldCount_])), (h0_text, .inr (3, [.ref h0_text_signs, .int o0, .int text_at_]))] rr := by
  refine uMi.of (cc := cX5_end) (maxL := 2) (by decide) rfl (Nat.le_of_ble_eq_true rfl) (fun p e s m args below meth c A ls Q hx hb hml hown hts hA hP hK hD hE hS hl hret => ?_)
  have hown : s.vm.findClass RX5 = some m.cls := hown
  have hl : lv_has ls 2 [(0, .ref h0), (1, .int v1)] := hl
  have hiX5 : ∀ w ∈ u_ws RX5 TX5 10, w ∈ wsX5_end := fun _ h9 => List.mem_cons_of_mem _ (List.mem_append_left _ (List.mem_append_right _ h9))
  unfold m_X5_end at h
  refine lv_aload_n hx hb dX5_end_0 rfl (lv_at hl 0 rfl) ?_
  refine va_get (D := (dC, dI)) (ci := 5) (v := .ref h0_text) (C := RX5) (T := TX5) (N := 10) hx hb hts hiX5 hown hK hP 0 rfl rfl 0 (by decide) (hts (.fieldLink RX5 10 "OptionLattice" "text" "LOptionLattice$Signs;") (by decide +kernel)) (fun _ h9 => h9) rfl dX5_end_1 ?_
  refine lv_iload_n hx hb dX5_end_4 rfl (lv_at hl 1 rfl) ?_
  obtain ⟨r_1, text_size_2, hq, h⟩ := bd2_some h
  refine uV_i (b := h0_text) (As := [.int v1]) (rest := []) ⟨hx, hb, hml, hown, hts⟩ (c_X3_cutTo l dC dI cyC cyI cyJ h0_text h0_text_signs text_size_ text_at_ v1 r_1 text_size_2 hq) (cwV 1 hts gX5_end_X3_cutTo rfl rfl rfl (by decide +kernel) ⟨Nat.le_of_ble_eq_true rfl, Nat.le_of_ble_eq_true rfl⟩) hK hE hA hP hD hS [1] rfl rfl rfl 3 0 rfl rfl rfl hl.1 rfl (Nat.le_of_ble_eq_true rfl) ⟨Nat.zero_le _, Nat.zero_le _⟩ dX5_end_5 (fun H locs hP hD hS => ?_)
  have hP : va_P (dC, dI) vwCl [(h0, .inr (5, [.ref h0_text, .ref h0_plan, .ref h0_planDraft, .ref h0_roll, .ref h0_rollDraft, .ref h0_wayFinder, .ref h0_seating, .ref h0_demand, .ref h0_told, .int toldCount_])), (h0_text, .inr (3, [.ref h0_text_signs, .int text_size_2, .int text_at_]))] H := hP
  have hD : va_D A [(h0, .inr (5, [.ref h0_text, .ref h0_plan, .ref h0_planDraft, .ref h0_roll, .ref h0_rollDraft, .ref h0_wayFinder, .ref h0_seating, .ref h0_demand, .ref h0_told, .int toldCount_])), (h0_text, .inr (3, [.ref h0_text_signs, .int text_size_2, .int text_at_]))] := hD
  obtain ⟨g_, h⟩ := gd_some h
  have h : some (r_1, text_size_2) = some (rr, o0) := h
  have z0 := Option.some.inj h
  obtain ⟨rfl, z1⟩ := Prod.mk.inj z0
  obtain rfl := z1
  exact hret _ _ _ _ hP hS (isb_of g_) dX5_end_8

def m_X5_desk_66 (text_size_ : Int32) (text_at_ : Int32) (plan_columnCount_ : Int32) (plan_roomCount_ : Int32) (plan_size_ : Int32) (plan_barsOf_ : Nat → Int32) (plan_subjectOf_ : Nat → Int32) (plan_teacherOf_ : Nat → Int32) (plan_seatsOf_ : Nat → Int32) (plan_columnOf_ : Nat → Int32) (plan_columnsWith_ : Nat → Int32) (planDraft_columnCount_ : Int32) (planDraft_roomCount_ : Int32) (planDraft_size_ : Int32) (planDraft_barsOf_ : Nat → Int32) (planDraft_subjectOf_ : Nat → Int32) (planDraft_teacherOf_ : Nat → Int32) (planDraft_seatsOf_ : Nat → Int32) (planDraft_columnOf_ : Nat → Int32) (planDraft_columnsWith_ : Nat → Int32) (roll_size_ : Int32) (roll_kept_ : Int32) (v2 : Int32) : Option (Int32 × Int32 × Int32 × Int32 × Int32 × Int32 × (Nat → Int32) × (Nat → Int32) × (Nat → Int32) × (Nat → Int32) × (Nat → Int32) × (Nat → Int32) × Int32 × Int32 × Int32 × (Nat → Int32) × (Nat → Int32) × (Nat → Int32) × (Nat → Int32) × (Nat → Int32) × (Nat → Int32) × Int32 × Int32) :=
  bd1 (m_X3_empty text_size_) (fun text_size_1 => some (v2, text_size_1, text_at_, plan_columnCount_, plan_roomCount_, plan_size_, plan_barsOf_, plan_subjectOf_, plan_teacherOf_, plan_seatsOf_, plan_columnOf_, plan_columnsWith_, planDraft_columnCount_, planDraft_roomCount_, planDraft_size_, planDraft_barsOf_, planDraft_subjectOf_, planDraft_teacherOf_, planDraft_seatsOf_, planDraft_columnOf_, planDraft_columnsWith_, roll_size_, roll_kept_))
def m_X5_desk_43 (text_size_ : Int32) (text_at_ : Int32) (plan_columnCount_ : Int32) (plan_roomCount_ : Int32) (plan_size_ : Int32) (plan_barsOf_ : Nat → Int32) (plan_subjectOf_ : Nat → Int32) (plan_teacherOf_ : Nat → Int32) (plan_seatsOf_ : Nat → Int32) (plan_columnOf_ : Nat → Int32) (plan_columnsWith_ : Nat → Int32) (planDraft_columnCount_ : Int32) (planDraft_roomCount_ : Int32) (planDraft_size_ : Int32) (planDraft_barsOf_ : Nat → Int32) (planDraft_subjectOf_ : Nat → Int32) (planDraft_teacherOf_ : Nat → Int32) (planDraft_seatsOf_ : Nat → Int32) (planDraft_columnOf_ : Nat → Int32) (planDraft_columnsWith_ : Nat → Int32) (roll_size_ : Int32) (roll_kept_ : Int32) (v1 : Int32) (t0 : Int32) : Option (Int32 × Int32 × Int32 × Int32 × Int32 × Int32 × (Nat → Int32) × (Nat → Int32) × (Nat → Int32) × (Nat → Int32) × (Nat → Int32) × (Nat → Int32) × Int32 × Int32 × Int32 × (Nat → Int32) × (Nat → Int32) × (Nat → Int32) × (Nat → Int32) × (Nat → Int32) × (Nat → Int32) × Int32 × Int32) :=
  (if v1 = 0 then m_X5_desk_66 text_size_ text_at_ plan_columnCount_ plan_roomCount_ plan_size_ plan_barsOf_ plan_subjectOf_ plan_teacherOf_ plan_seatsOf_ plan_columnOf_ plan_columnsWith_ planDraft_columnCount_ planDraft_roomCount_ planDraft_size_ planDraft_barsOf_ planDraft_subjectOf_ planDraft_teacherOf_ planDraft_seatsOf_ planDraft_columnOf_ planDraft_columnsWith_ roll_size_ roll_kept_ t0 else bd9 (m_X0_become plan_columnCount_ plan_roomCount_ plan_size_ plan_barsOf_ plan_subjectOf_ plan_teacherOf_ plan_seatsOf_ plan_columnOf_ plan_columnsWith_ planDraft_columnCount_ planDraft_roomCount_ planDraft_size_ planDraft_barsOf_ planDraft_subjectOf_ planDraft_teacherOf_ planDraft_seatsOf_ planDraft_columnOf_ planDraft_columnsWith_) (fun plan_columnCount_2 plan_roomCount_3 plan_size_4 plan_barsOf_5 plan_subjectOf_6 plan_teacherOf_7 plan_seatsOf_8 plan_columnOf_9 plan_columnsWith_10 => bd2 (m_X1_empty roll_size_ roll_kept_) (fun roll_size_11 roll_kept_12 => m_X5_desk_66 text_size_ text_at_ plan_columnCount_2 plan_roomCount_3 plan_size_4 plan_barsOf_5 plan_subjectOf_6 plan_teacherOf_7 plan_seatsOf_8 plan_columnOf_9 plan_columnsWith_10 planDraft_columnCount_ planDraft_roomCount_ planDraft_size_ planDraft_barsOf_ planDraft_subjectOf_ planDraft_teacherOf_ planDraft_seatsOf_ planDraft_columnOf_ planDraft_columnsWith_ roll_size_11 roll_kept_12 t0)))
def m_X5_desk (text_size_ : Int32) (text_at_ : Int32) (text_signs_ : Nat → Int32) (plan_columnCount_ : Int32) (plan_roomCount_ : Int32) (plan_size_ : Int32) (plan_barsOf_ : Nat → Int32) (plan_subjectOf_ : Nat → Int32) (plan_teacherOf_ : Nat → Int32) (plan_seatsOf_ : Nat → Int32) (plan_columnOf_ : Nat → Int32) (plan_columnsWith_ : Nat → Int32) (planDraft_columnCount_ : Int32) (planDraft_roomCount_ : Int32) (planDraft_size_ : Int32) (planDraft_barsOf_ : Nat → Int32) (planDraft_subjectOf_ : Nat → Int32) (planDraft_teacherOf_ : Nat → Int32) (planDraft_seatsOf_ : Nat → Int32) (planDraft_columnOf_ : Nat → Int32) (planDraft_columnsWith_ : Nat → Int32) (roll_size_ : Int32) (roll_kept_ : Int32) : Option (Int32 × Int32 × Int32 × Int32 × Int32 × Int32 × (Nat → Int32) × (Nat → Int32) × (Nat → Int32) × (Nat → Int32) × (Nat → Int32) × (Nat → Int32) × Int32 × Int32 × Int32 × (Nat → Int32) × (Nat → Int32) × (Nat → Int32) × (Nat → Int32) × (Nat → Int32) × (Nat → Int32) × Int32 × Int32) :=
  bd1 (m_X3_rewind text_at_) (fun text_at_13 => bd11 (m_X0_readFrom planDraft_columnCount_ planDraft_roomCount_ planDraft_size_ planDraft_barsOf_ planDraft_subjectOf_ planDraft_teacherOf_ planDraft_seatsOf_ planDraft_columnOf_ planDraft_columnsWith_ text_size_ text_at_13 text_signs_) (fun r_14 planDraft_columnCount_15 planDraft_roomCount_16 planDraft_size_17 planDraft_barsOf_18 planDraft_subjectOf_19 planDraft_teacherOf_20 planDraft_seatsOf_21 planDraft_columnOf_22 planDraft_columnsWith_23 text_at_24 => (if r_14 = 0 then m_X5_desk_43 text_size_ text_at_24 plan_columnCount_ plan_roomCount_ plan_size_ plan_barsOf_ plan_subjectOf_ plan_teacherOf_ plan_seatsOf_ plan_columnOf_ plan_columnsWith_ planDraft_columnCount_15 planDraft_roomCount_16 planDraft_size_17 planDraft_barsOf_18 planDraft_subjectOf_19 planDraft_teacherOf_20 planDraft_seatsOf_21 planDraft_columnOf_22 planDraft_columnsWith_23 roll_size_ roll_kept_ r_14 ((-21 : Int32) - text_at_24) else m_X5_desk_43 text_size_ text_at_24 plan_columnCount_ plan_roomCount_ plan_size_ plan_barsOf_ plan_subjectOf_ plan_teacherOf_ plan_seatsOf_ plan_columnOf_ plan_columnsWith_ planDraft_columnCount_15 planDraft_roomCount_16 planDraft_size_17 planDraft_barsOf_18 planDraft_subjectOf_19 planDraft_teacherOf_20 planDraft_seatsOf_21 planDraft_columnOf_22 planDraft_columnsWith_23 roll_size_ roll_kept_ r_14 planDraft_size_17)))
abbrev rmX5_desk : Room := { frames := 6, cells := 0, slots := 0, locals := 139 }
set_option maxHeartbeats 4000000 in
set_option maxRecDepth 100000 in
theorem c_X5_desk (l : Launch) (dC : Nat → ClassId) (dI : Nat → Nat → Nat) (cyC cyI cyJ : ClassId) (h0 h0_text h0_text_signs h0_plan h0_plan_barsOf h0_plan_subjectOf h0_plan_teacherOf h0_plan_seatsOf h0_plan_columnOf h0_plan_columnsWith h0_planDraft h0_planDraft_barsOf h0_planDraft_subjectOf h0_planDraft_teacherOf h0_planDraft_seatsOf h0_planDraft_columnOf h0_planDraft_columnsWith h0_roll h0_roll_choicesOf h0_rollDraft h0_wayFinder h0_seating h0_demand h0_told : Nat) (toldCount_ : Int32) (text_size_ : Int32) (text_at_ : Int32) (text_signs_ : Nat → Int32) (plan_columnCount_ : Int32) (plan_roomCount_ : Int32) (plan_size_ : Int32) (plan_barsOf_ : Nat → Int32) (plan_subjectOf_ : Nat → Int32) (plan_teacherOf_ : Nat → Int32) (plan_seatsOf_ : Nat → Int32) (plan_columnOf_ : Nat → Int32) (plan_columnsWith_ : Nat → Int32) (planDraft_columnCount_ : Int32) (planDraft_roomCount_ : Int32) (planDraft_size_ : Int32) (planDraft_barsOf_ : Nat → Int32) (planDraft_subjectOf_ : Nat → Int32) (planDraft_teacherOf_ : Nat → Int32) (planDraft_seatsOf_ : Nat → Int32) (planDraft_columnOf_ : Nat → Int32) (planDraft_columnsWith_ : Nat → Int32) (roll_size_ : Int32) (roll_kept_ : Int32) (rr : Int32) (o0 : Int32) (o1 : Int32) (o2 : Int32) (o3 : Int32) (o4 : Int32) (o5 : Nat → Int32) (o6 : Nat → Int32) (o7 : Nat → Int32) (o8 : Nat → Int32) (o9 : Nat → Int32) (o10 : Nat → Int32) (o11 : Int32) (o12 : Int32) (o13 : Int32) (o14 : Nat → Int32) (o15 : Nat → Int32) (o16 : Nat → Int32) (o17 : Nat → Int32) (o18 : Nat → Int32) (o19 : Nat → Int32) (o20 : Int32) (o21 : Int32) (h : m_X5_desk text_size_ text_at_ text_signs_ plan_columnCount_ plan_roomCount_ plan_size_ plan_barsOf_ plan_subjectOf_ plan_teacherOf_ plan_seatsOf_ plan_columnOf_ plan_columnsWith_ planDraft_columnCount_ planDraft_roomCount_ planDraft_size_ planDraft_barsOf_ planDraft_subjectOf_ planDraft_teacherOf_ planDraft_seatsOf_ planDraft_columnOf_ planDraft_columnsWith_ roll_size_ roll_kept_ = some (rr, o0, o1, o2, o3, o4, o5, o6, o7, o8, o9, o10, o11, o12, o13, o14, o15, o16, o17, o18, o19, o20, o21)) : uMi l yX5_desk wsX5_desk rmX5_desk (dC, dI) [(cyC, .char), (cyI, .int), (cyJ, .long)] [.ref h0] [(h0, .inr (5, [.ref h0_text, .ref h0_plan, .ref h0_planDraft, .ref h0_roll, .ref h0_rollDraft, .ref h0_wayFinder, .ref h0_seating, .ref h0_demand, .ref h0_told, .int toldCount_])), (h0_text, .inr (3, [.ref h0_text_signs, .int text_size_, .int text_at_])), (h0_text_signs, .inl (cyC, 240, .inl text_signs_)), (h0_plan, .inr (0, [.int plan_columnCount_, .int plan_roomCount_, .int plan_size_, .ref h0_plan_barsOf, .ref h0_plan_subjectOf, .ref h0_plan_teacherOf, .ref h0_plan_seatsOf, .ref h0_plan_columnOf, .ref h0_plan_columnsWith])), (h0_plan_barsOf, .inl (cyI, 10, .inl plan_barsOf_)), (h0_plan_subjectOf, .inl (cyI, 16, .inl plan_subjectOf_)), (h0_plan_teacherOf, .inl (cyI, 16, .inl plan_teacherOf_)), (h0_plan_seatsOf, .inl (cyI, 16, .inl plan_seatsOf_)), (h0_plan_columnOf, .inl (cyI, 16, .inl plan_columnOf_)), (h0_plan_columnsWith, .inl (cyI, 10, .inl plan_columnsWith_)), (h0_planDraft, .inr (0, [.int planDraft_columnCount_, .int planDraft_roomCount_, .int planDraft_size_, .ref h0_planDraft_barsOf, .ref h0_planDraft_subjectOf, .ref h0_planDraft_teacherOf, .ref h0_planDraft_seatsOf, .ref h0_planDraft_columnOf, .ref h0_planDraft_columnsWith])), (h0_planDraft_barsOf, .inl (cyI, 10, .inl planDraft_barsOf_)), (h0_planDraft_subjectOf, .inl (cyI, 16, .inl planDraft_subjectOf_)), (h0_planDraft_teacherOf, .inl (cyI, 16, .inl planDraft_teacherOf_)), (h0_planDraft_seatsOf, .inl (cyI, 16, .inl planDraft_seatsOf_)), (h0_planDraft_columnOf, .inl (cyI, 16, .inl planDraft_columnOf_)), (h0_planDraft_columnsWith, .inl (cyI, 10, .inl planDraft_columnsWith_)), (h0_roll, .inr (1, [.ref h0_roll_choicesOf, .int roll_size_, .int roll_kept_]))] [(h0, .inr (5, [.ref h0_text, .ref h0_plan, .ref h0_planDraft, .ref h0_roll, .ref h0_rollDraft, .ref h0_wayFinder, .ref h0_seating, .ref h0_demand, .ref h0_told, .int toldCount_])), (h0_text, .inr (3, [.ref h0_text_signs, .int o0, .int o1])), (h0_text_signs, .inl (cyC, 240, .inl text_signs_)), (h0_plan, .inr (0, [.int o2, .int o3, .int o4, .ref h0_plan_barsOf, .ref h0_plan_subjectOf, .ref h0_plan_teacherOf, .ref h0_plan_seatsOf, .ref h0_plan_columnOf, .ref h0_plan_columnsWith])), (h0_plan_barsOf, .inl (cyI, 10, .inl o5)), (h0_plan_subjectOf, .inl (cyI, 16, .inl o6)), (h0_plan_teacherOf, .inl (cyI, 16, .inl o7)), (h0_plan_seatsOf, .inl (cyI, 16, .inl o8)), (h0_plan_columnOf, .inl (cyI, 16, .inl o9)), (h0_plan_columnsWith, .inl (cyI, 10, .inl o10)), (h0_planDraft, .inr (0, [.int o11, .int o12, .int o13, .ref h0_planDraft_barsOf, .ref h0_planDraft_subjectOf, .ref h0_planDraft_teacherOf, .ref h0_planDraft_seatsOf, .ref h0_planDraft_columnOf, .ref h0_planDraft_columnsWith])), (h0_planDraft_barsOf, .inl (cyI, 10, .inl o14)), (h0_planDraft_subjectOf, .inl (cyI, 16, .inl o15)), (h0_planDraft_teacherOf, .inl (cyI, 16, .inl o16)), (h0_planDraft_seatsOf, .inl (cyI, 16, .inl o17)), (h0_planDraft_columnOf, .inl (cyI, 16, .inl o18)), (h0_planDraft_columnsWith, .inl (cyI, 10, .inl o19)), (h0_roll, .inr (1, [.ref h0_roll_choicesOf, .int o20, .int o21]))] rr := by
  refine uMi.of (cc := cX5_desk) (maxL := 3) (by decide) rfl (Nat.le_of_ble_eq_true rfl) (fun p e s m args below meth c A ls Q hx hb hml hown hts hA hP hK hD hE hS hl hret => ?_)
  have hown : s.vm.findClass RX5 = some m.cls := hown
  have hl : lv_has ls 3 [(0, .ref h0)] := hl
  have hiX0 : ∀ w ∈ u_ws RX0 TX0 9, w ∈ wsX5_desk := fun _ h9 => List.mem_cons_of_mem _ (List.mem_append_left _ (List.mem_append_left _ (List.mem_append_right _ h9)))
  have hiX3 : ∀ w ∈ u_ws RX3 TX3 3, w ∈ wsX5_desk := fun _ h9 => List.mem_cons_of_mem _ (List.mem_append_left _ (List.mem_append_right _ h9))
  have hiX5 : ∀ w ∈ u_ws RX5 TX5 10, w ∈ wsX5_desk := fun _ h9 => List.mem_cons_of_mem _ (List.mem_append_left _ (List.mem_append_left _ (List.mem_append_left _ (List.mem_append_right _ h9))))
  have J66 : ∀ (v2 : Int32), ∀ (text_at_ : Int32), ∀ (plan_columnCount_ : Int32), ∀ (plan_roomCount_ : Int32), ∀ (plan_size_ : Int32), ∀ (plan_barsOf_ : Nat → Int32), ∀ (plan_subjectOf_ : Nat → Int32), ∀ (plan_teacherOf_ : Nat → Int32), ∀ (plan_seatsOf_ : Nat → Int32), ∀ (plan_columnOf_ : Nat → Int32), ∀ (plan_columnsWith_ : Nat → Int32), ∀ (planDraft_columnCount_ : Int32), ∀ (planDraft_roomCount_ : Int32), ∀ (planDraft_size_ : Int32), ∀ (planDraft_barsOf_ : Nat → Int32), ∀ (planDraft_subjectOf_ : Nat → Int32), ∀ (planDraft_teacherOf_ : Nat → Int32), ∀ (planDraft_seatsOf_ : Nat → Int32), ∀ (planDraft_columnOf_ : Nat → Int32), ∀ (planDraft_columnsWith_ : Nat → Int32), ∀ (roll_size_ : Int32), ∀ (roll_kept_ : Int32), m_X5_desk_66 text_size_ text_at_ plan_columnCount_ plan_roomCount_ plan_size_ plan_barsOf_ plan_subjectOf_ plan_teacherOf_ plan_seatsOf_ plan_columnOf_ plan_columnsWith_ planDraft_columnCount_ planDraft_roomCount_ planDraft_size_ planDraft_barsOf_ planDraft_subjectOf_ planDraft_teacherOf_ planDraft_seatsOf_ planDraft_columnOf_ planDraft_columnsWith_ roll_size_ roll_kept_ v2 = some (rr, o0, o1, o2, o3, o4, o5, o6, o7, o8, o9, o10, o11, o12, o13, o14, o15, o16, o17, o18, o19, o20, o21) → ∀ (H : Heap) (locs : List Loc) (ls : Array Slot), va_P (dC, dI) vwCl [(h0, .inr (5, [.ref h0_text, .ref h0_plan, .ref h0_planDraft, .ref h0_roll, .ref h0_rollDraft, .ref h0_wayFinder, .ref h0_seating, .ref h0_demand, .ref h0_told, .int toldCount_])), (h0_text, .inr (3, [.ref h0_text_signs, .int text_size_, .int text_at_])), (h0_text_signs, .inl (cyC, 240, .inl text_signs_)), (h0_plan, .inr (0, [.int plan_columnCount_, .int plan_roomCount_, .int plan_size_, .ref h0_plan_barsOf, .ref h0_plan_subjectOf, .ref h0_plan_teacherOf, .ref h0_plan_seatsOf, .ref h0_plan_columnOf, .ref h0_plan_columnsWith])), (h0_plan_barsOf, .inl (cyI, 10, .inl plan_barsOf_)), (h0_plan_subjectOf, .inl (cyI, 16, .inl plan_subjectOf_)), (h0_plan_teacherOf, .inl (cyI, 16, .inl plan_teacherOf_)), (h0_plan_seatsOf, .inl (cyI, 16, .inl plan_seatsOf_)), (h0_plan_columnOf, .inl (cyI, 16, .inl plan_columnOf_)), (h0_plan_columnsWith, .inl (cyI, 10, .inl plan_columnsWith_)), (h0_planDraft, .inr (0, [.int planDraft_columnCount_, .int planDraft_roomCount_, .int planDraft_size_, .ref h0_planDraft_barsOf, .ref h0_planDraft_subjectOf, .ref h0_planDraft_teacherOf, .ref h0_planDraft_seatsOf, .ref h0_planDraft_columnOf, .ref h0_planDraft_columnsWith])), (h0_planDraft_barsOf, .inl (cyI, 10, .inl planDraft_barsOf_)), (h0_planDraft_subjectOf, .inl (cyI, 16, .inl planDraft_subjectOf_)), (h0_planDraft_teacherOf, .inl (cyI, 16, .inl planDraft_teacherOf_)), (h0_planDraft_seatsOf, .inl (cyI, 16, .inl planDraft_seatsOf_)), (h0_planDraft_columnOf, .inl (cyI, 16, .inl planDraft_columnOf_)), (h0_planDraft_columnsWith, .inl (cyI, 10, .inl planDraft_columnsWith_)), (h0_roll, .inr (1, [.ref h0_roll_choicesOf, .int roll_size_, .int roll_kept_]))] H → va_D A [(h0, .inr (5, [.ref h0_text, .ref h0_plan, .ref h0_planDraft, .ref h0_roll, .ref h0_rollDraft, .ref h0_wayFinder, .ref h0_seating, .ref h0_demand, .ref h0_told, .int toldCount_])), (h0_text, .inr (3, [.ref h0_text_signs, .int text_size_, .int text_at_])), (h0_text_signs, .inl (cyC, 240, .inl text_signs_)), (h0_plan, .inr (0, [.int plan_columnCount_, .int plan_roomCount_, .int plan_size_, .ref h0_plan_barsOf, .ref h0_plan_subjectOf, .ref h0_plan_teacherOf, .ref h0_plan_seatsOf, .ref h0_plan_columnOf, .ref h0_plan_columnsWith])), (h0_plan_barsOf, .inl (cyI, 10, .inl plan_barsOf_)), (h0_plan_subjectOf, .inl (cyI, 16, .inl plan_subjectOf_)), (h0_plan_teacherOf, .inl (cyI, 16, .inl plan_teacherOf_)), (h0_plan_seatsOf, .inl (cyI, 16, .inl plan_seatsOf_)), (h0_plan_columnOf, .inl (cyI, 16, .inl plan_columnOf_)), (h0_plan_columnsWith, .inl (cyI, 10, .inl plan_columnsWith_)), (h0_planDraft, .inr (0, [.int planDraft_columnCount_, .int planDraft_roomCount_, .int planDraft_size_, .ref h0_planDraft_barsOf, .ref h0_planDraft_subjectOf, .ref h0_planDraft_teacherOf, .ref h0_planDraft_seatsOf, .ref h0_planDraft_columnOf, .ref h0_planDraft_columnsWith])), (h0_planDraft_barsOf, .inl (cyI, 10, .inl planDraft_barsOf_)), (h0_planDraft_subjectOf, .inl (cyI, 16, .inl planDraft_subjectOf_)), (h0_planDraft_teacherOf, .inl (cyI, 16, .inl planDraft_teacherOf_)), (h0_planDraft_seatsOf, .inl (cyI, 16, .inl planDraft_seatsOf_)), (h0_planDraft_columnOf, .inl (cyI, 16, .inl planDraft_columnOf_)), (h0_planDraft_columnsWith, .inl (cyI, 10, .inl planDraft_columnsWith_)), (h0_roll, .inr (1, [.ref h0_roll_choicesOf, .int roll_size_, .int roll_kept_]))] → va_S A s.heap H locs → lv_has ls 3 [(0, .ref h0), (2, .int v2)] → W p l e rmX5_desk s m args below meth c H locs 0 0 Q (F0 m 66 ls []) := by
    intro v2 text_at_ plan_columnCount_ plan_roomCount_ plan_size_ plan_barsOf_ plan_subjectOf_ plan_teacherOf_ plan_seatsOf_ plan_columnOf_ plan_columnsWith_ planDraft_columnCount_ planDraft_roomCount_ planDraft_size_ planDraft_barsOf_ planDraft_subjectOf_ planDraft_teacherOf_ planDraft_seatsOf_ planDraft_columnOf_ planDraft_columnsWith_ roll_size_ roll_kept_ h H locs ls hP hD hS hl
    unfold m_X5_desk_66 at h
    refine lv_aload_n hx hb dX5_desk_66 rfl (lv_at hl 0 rfl) ?_
    refine va_get (D := (dC, dI)) (ci := 5) (v := .ref h0_text) (C := RX5) (T := TX5) (N := 10) hx hb hts hiX5 hown hK hP 0 rfl rfl 0 (by decide) (hts (.fieldLink RX5 10 "OptionLattice" "text" "LOptionLattice$Signs;") (by decide +kernel)) (fun _ h9 => h9) rfl dX5_desk_67 ?_
    obtain ⟨text_size_1, hq, h⟩ := bd1_some h
    refine uV_v (b := h0_text) (As := []) (rest := []) ⟨hx, hb, hml, hown, hts⟩ (c_X3_empty l dC dI cyC cyI cyJ h0_text h0_text_signs text_size_ text_at_ text_size_1 hq) (cwV 0 hts gX5_desk_X3_empty rfl rfl rfl (by decide +kernel) ⟨Nat.le_of_ble_eq_true rfl, Nat.le_of_ble_eq_true rfl⟩) hK hE hA hP hD hS [1] rfl rfl rfl 3 0 rfl rfl rfl hl.1 rfl (Nat.le_of_ble_eq_true rfl) ⟨Nat.zero_le _, Nat.zero_le _⟩ dX5_desk_70 (fun H locs hP hD hS => ?_)
    have hP : va_P (dC, dI) vwCl [(h0, .inr (5, [.ref h0_text, .ref h0_plan, .ref h0_planDraft, .ref h0_roll, .ref h0_rollDraft, .ref h0_wayFinder, .ref h0_seating, .ref h0_demand, .ref h0_told, .int toldCount_])), (h0_text, .inr (3, [.ref h0_text_signs, .int text_size_1, .int text_at_])), (h0_text_signs, .inl (cyC, 240, .inl text_signs_)), (h0_plan, .inr (0, [.int plan_columnCount_, .int plan_roomCount_, .int plan_size_, .ref h0_plan_barsOf, .ref h0_plan_subjectOf, .ref h0_plan_teacherOf, .ref h0_plan_seatsOf, .ref h0_plan_columnOf, .ref h0_plan_columnsWith])), (h0_plan_barsOf, .inl (cyI, 10, .inl plan_barsOf_)), (h0_plan_subjectOf, .inl (cyI, 16, .inl plan_subjectOf_)), (h0_plan_teacherOf, .inl (cyI, 16, .inl plan_teacherOf_)), (h0_plan_seatsOf, .inl (cyI, 16, .inl plan_seatsOf_)), (h0_plan_columnOf, .inl (cyI, 16, .inl plan_columnOf_)), (h0_plan_columnsWith, .inl (cyI, 10, .inl plan_columnsWith_)), (h0_planDraft, .inr (0, [.int planDraft_columnCount_, .int planDraft_roomCount_, .int planDraft_size_, .ref h0_planDraft_barsOf, .ref h0_planDraft_subjectOf, .ref h0_planDraft_teacherOf, .ref h0_planDraft_seatsOf, .ref h0_planDraft_columnOf, .ref h0_planDraft_columnsWith])), (h0_planDraft_barsOf, .inl (cyI, 10, .inl planDraft_barsOf_)), (h0_planDraft_subjectOf, .inl (cyI, 16, .inl planDraft_subjectOf_)), (h0_planDraft_teacherOf, .inl (cyI, 16, .inl planDraft_teacherOf_)), (h0_planDraft_seatsOf, .inl (cyI, 16, .inl planDraft_seatsOf_)), (h0_planDraft_columnOf, .inl (cyI, 16, .inl planDraft_columnOf_)), (h0_planDraft_columnsWith, .inl (cyI, 10, .inl planDraft_columnsWith_)), (h0_roll, .inr (1, [.ref h0_roll_choicesOf, .int roll_size_, .int roll_kept_]))] H := hP
    have hD : va_D A [(h0, .inr (5, [.ref h0_text, .ref h0_plan, .ref h0_planDraft, .ref h0_roll, .ref h0_rollDraft, .ref h0_wayFinder, .ref h0_seating, .ref h0_demand, .ref h0_told, .int toldCount_])), (h0_text, .inr (3, [.ref h0_text_signs, .int text_size_1, .int text_at_])), (h0_text_signs, .inl (cyC, 240, .inl text_signs_)), (h0_plan, .inr (0, [.int plan_columnCount_, .int plan_roomCount_, .int plan_size_, .ref h0_plan_barsOf, .ref h0_plan_subjectOf, .ref h0_plan_teacherOf, .ref h0_plan_seatsOf, .ref h0_plan_columnOf, .ref h0_plan_columnsWith])), (h0_plan_barsOf, .inl (cyI, 10, .inl plan_barsOf_)), (h0_plan_subjectOf, .inl (cyI, 16, .inl plan_subjectOf_)), (h0_plan_teacherOf, .inl (cyI, 16, .inl plan_teacherOf_)), (h0_plan_seatsOf, .inl (cyI, 16, .inl plan_seatsOf_)), (h0_plan_columnOf, .inl (cyI, 16, .inl plan_columnOf_)), (h0_plan_columnsWith, .inl (cyI, 10, .inl plan_columnsWith_)), (h0_planDraft, .inr (0, [.int planDraft_columnCount_, .int planDraft_roomCount_, .int planDraft_size_, .ref h0_planDraft_barsOf, .ref h0_planDraft_subjectOf, .ref h0_planDraft_teacherOf, .ref h0_planDraft_seatsOf, .ref h0_planDraft_columnOf, .ref h0_planDraft_columnsWith])), (h0_planDraft_barsOf, .inl (cyI, 10, .inl planDraft_barsOf_)), (h0_planDraft_subjectOf, .inl (cyI, 16, .inl planDraft_subjectOf_)), (h0_planDraft_teacherOf, .inl (cyI, 16, .inl planDraft_teacherOf_)), (h0_planDraft_seatsOf, .inl (cyI, 16, .inl planDraft_seatsOf_)), (h0_planDraft_columnOf, .inl (cyI, 16, .inl planDraft_columnOf_)), (h0_planDraft_columnsWith, .inl (cyI, 10, .inl planDraft_columnsWith_)), (h0_roll, .inr (1, [.ref h0_roll_choicesOf, .int roll_size_, .int roll_kept_]))] := hD
    refine lv_iload_n hx hb dX5_desk_73 rfl (lv_at hl 1 rfl) ?_
    have h : some (v2, text_size_1, text_at_, plan_columnCount_, plan_roomCount_, plan_size_, plan_barsOf_, plan_subjectOf_, plan_teacherOf_, plan_seatsOf_, plan_columnOf_, plan_columnsWith_, planDraft_columnCount_, planDraft_roomCount_, planDraft_size_, planDraft_barsOf_, planDraft_subjectOf_, planDraft_teacherOf_, planDraft_seatsOf_, planDraft_columnOf_, planDraft_columnsWith_, roll_size_, roll_kept_) = some (rr, o0, o1, o2, o3, o4, o5, o6, o7, o8, o9, o10, o11, o12, o13, o14, o15, o16, o17, o18, o19, o20, o21) := h
    have z0 := Option.some.inj h
    obtain ⟨rfl, z1⟩ := Prod.mk.inj z0
    obtain ⟨rfl, z2⟩ := Prod.mk.inj z1
    obtain ⟨rfl, z3⟩ := Prod.mk.inj z2
    obtain ⟨rfl, z4⟩ := Prod.mk.inj z3
    obtain ⟨rfl, z5⟩ := Prod.mk.inj z4
    obtain ⟨rfl, z6⟩ := Prod.mk.inj z5
    obtain ⟨rfl, z7⟩ := Prod.mk.inj z6
    obtain ⟨rfl, z8⟩ := Prod.mk.inj z7
    obtain ⟨rfl, z9⟩ := Prod.mk.inj z8
    obtain ⟨rfl, z10⟩ := Prod.mk.inj z9
    obtain ⟨rfl, z11⟩ := Prod.mk.inj z10
    obtain ⟨rfl, z12⟩ := Prod.mk.inj z11
    obtain ⟨rfl, z13⟩ := Prod.mk.inj z12
    obtain ⟨rfl, z14⟩ := Prod.mk.inj z13
    obtain ⟨rfl, z15⟩ := Prod.mk.inj z14
    obtain ⟨rfl, z16⟩ := Prod.mk.inj z15
    obtain ⟨rfl, z17⟩ := Prod.mk.inj z16
    obtain ⟨rfl, z18⟩ := Prod.mk.inj z17
    obtain ⟨rfl, z19⟩ := Prod.mk.inj z18
    obtain ⟨rfl, z20⟩ := Prod.mk.inj z19
    obtain ⟨rfl, z21⟩ := Prod.mk.inj z20
    obtain ⟨rfl, z22⟩ := Prod.mk.inj z21
    obtain rfl := z22
    exact hret _ _ _ _ hP hS rfl dX5_desk_74
  have J43 : ∀ (v1 : Int32), ∀ (t0 : Int32), ∀ (text_at_ : Int32), ∀ (planDraft_columnCount_ : Int32), ∀ (planDraft_roomCount_ : Int32), ∀ (planDraft_size_ : Int32), ∀ (planDraft_barsOf_ : Nat → Int32), ∀ (planDraft_subjectOf_ : Nat → Int32), ∀ (planDraft_teacherOf_ : Nat → Int32), ∀ (planDraft_seatsOf_ : Nat → Int32), ∀ (planDraft_columnOf_ : Nat → Int32), ∀ (planDraft_columnsWith_ : Nat → Int32), m_X5_desk_43 text_size_ text_at_ plan_columnCount_ plan_roomCount_ plan_size_ plan_barsOf_ plan_subjectOf_ plan_teacherOf_ plan_seatsOf_ plan_columnOf_ plan_columnsWith_ planDraft_columnCount_ planDraft_roomCount_ planDraft_size_ planDraft_barsOf_ planDraft_subjectOf_ planDraft_teacherOf_ planDraft_seatsOf_ planDraft_columnOf_ planDraft_columnsWith_ roll_size_ roll_kept_ v1 t0 = some (rr, o0, o1, o2, o3, o4, o5, o6, o7, o8, o9, o10, o11, o12, o13, o14, o15, o16, o17, o18, o19, o20, o21) → ∀ (H : Heap) (locs : List Loc) (ls : Array Slot), va_P (dC, dI) vwCl [(h0, .inr (5, [.ref h0_text, .ref h0_plan, .ref h0_planDraft, .ref h0_roll, .ref h0_rollDraft, .ref h0_wayFinder, .ref h0_seating, .ref h0_demand, .ref h0_told, .int toldCount_])), (h0_text, .inr (3, [.ref h0_text_signs, .int text_size_, .int text_at_])), (h0_text_signs, .inl (cyC, 240, .inl text_signs_)), (h0_plan, .inr (0, [.int plan_columnCount_, .int plan_roomCount_, .int plan_size_, .ref h0_plan_barsOf, .ref h0_plan_subjectOf, .ref h0_plan_teacherOf, .ref h0_plan_seatsOf, .ref h0_plan_columnOf, .ref h0_plan_columnsWith])), (h0_plan_barsOf, .inl (cyI, 10, .inl plan_barsOf_)), (h0_plan_subjectOf, .inl (cyI, 16, .inl plan_subjectOf_)), (h0_plan_teacherOf, .inl (cyI, 16, .inl plan_teacherOf_)), (h0_plan_seatsOf, .inl (cyI, 16, .inl plan_seatsOf_)), (h0_plan_columnOf, .inl (cyI, 16, .inl plan_columnOf_)), (h0_plan_columnsWith, .inl (cyI, 10, .inl plan_columnsWith_)), (h0_planDraft, .inr (0, [.int planDraft_columnCount_, .int planDraft_roomCount_, .int planDraft_size_, .ref h0_planDraft_barsOf, .ref h0_planDraft_subjectOf, .ref h0_planDraft_teacherOf, .ref h0_planDraft_seatsOf, .ref h0_planDraft_columnOf, .ref h0_planDraft_columnsWith])), (h0_planDraft_barsOf, .inl (cyI, 10, .inl planDraft_barsOf_)), (h0_planDraft_subjectOf, .inl (cyI, 16, .inl planDraft_subjectOf_)), (h0_planDraft_teacherOf, .inl (cyI, 16, .inl planDraft_teacherOf_)), (h0_planDraft_seatsOf, .inl (cyI, 16, .inl planDraft_seatsOf_)), (h0_planDraft_columnOf, .inl (cyI, 16, .inl planDraft_columnOf_)), (h0_planDraft_columnsWith, .inl (cyI, 10, .inl planDraft_columnsWith_)), (h0_roll, .inr (1, [.ref h0_roll_choicesOf, .int roll_size_, .int roll_kept_]))] H → va_D A [(h0, .inr (5, [.ref h0_text, .ref h0_plan, .ref h0_planDraft, .ref h0_roll, .ref h0_rollDraft, .ref h0_wayFinder, .ref h0_seating, .ref h0_demand, .ref h0_told, .int toldCount_])), (h0_text, .inr (3, [.ref h0_text_signs, .int text_size_, .int text_at_])), (h0_text_signs, .inl (cyC, 240, .inl text_signs_)), (h0_plan, .inr (0, [.int plan_columnCount_, .int plan_roomCount_, .int plan_size_, .ref h0_plan_barsOf, .ref h0_plan_subjectOf, .ref h0_plan_teacherOf, .ref h0_plan_seatsOf, .ref h0_plan_columnOf, .ref h0_plan_columnsWith])), (h0_plan_barsOf, .inl (cyI, 10, .inl plan_barsOf_)), (h0_plan_subjectOf, .inl (cyI, 16, .inl plan_subjectOf_)), (h0_plan_teacherOf, .inl (cyI, 16, .inl plan_teacherOf_)), (h0_plan_seatsOf, .inl (cyI, 16, .inl plan_seatsOf_)), (h0_plan_columnOf, .inl (cyI, 16, .inl plan_columnOf_)), (h0_plan_columnsWith, .inl (cyI, 10, .inl plan_columnsWith_)), (h0_planDraft, .inr (0, [.int planDraft_columnCount_, .int planDraft_roomCount_, .int planDraft_size_, .ref h0_planDraft_barsOf, .ref h0_planDraft_subjectOf, .ref h0_planDraft_teacherOf, .ref h0_planDraft_seatsOf, .ref h0_planDraft_columnOf, .ref h0_planDraft_columnsWith])), (h0_planDraft_barsOf, .inl (cyI, 10, .inl planDraft_barsOf_)), (h0_planDraft_subjectOf, .inl (cyI, 16, .inl planDraft_subjectOf_)), (h0_planDraft_teacherOf, .inl (cyI, 16, .inl planDraft_teacherOf_)), (h0_planDraft_seatsOf, .inl (cyI, 16, .inl planDraft_seatsOf_)), (h0_planDraft_columnOf, .inl (cyI, 16, .inl planDraft_columnOf_)), (h0_planDraft_columnsWith, .inl (cyI, 10, .inl planDraft_columnsWith_)), (h0_roll, .inr (1, [.ref h0_roll_choicesOf, .int roll_size_, .int roll_kept_]))] → va_S A s.heap H locs → lv_has ls 3 [(0, .ref h0), (1, .int v1)] → W p l e rmX5_desk s m args below meth c H locs 0 0 Q (F0 m 43 ls [.int t0]) := by
    intro v1 t0 text_at_ planDraft_columnCount_ planDraft_roomCount_ planDraft_size_ planDraft_barsOf_ planDraft_subjectOf_ planDraft_teacherOf_ planDraft_seatsOf_ planDraft_columnOf_ planDraft_columnsWith_ h H locs ls hP hD hS hl
    unfold m_X5_desk_43 at h
    refine lv_istore_n (lv' := [(2, .int t0), (0, .ref h0), (1, .int v1)]) hx hb dX5_desk_43 rfl hl (by decide) rfl (fun ls hl => ?_)
    refine lv_iload_n hx hb dX5_desk_44 rfl (lv_at hl 2 rfl) ?_
    refine lv_if_eq (tgt := 66) hx hb dX5_desk_45 (by decide) (fun c_ => ?_) (fun c_ => ?_)
    · have h := (if_pos c_).symm.trans h
      exact J66 t0 text_at_ plan_columnCount_ plan_roomCount_ plan_size_ plan_barsOf_ plan_subjectOf_ plan_teacherOf_ plan_seatsOf_ plan_columnOf_ plan_columnsWith_ planDraft_columnCount_ planDraft_roomCount_ planDraft_size_ planDraft_barsOf_ planDraft_subjectOf_ planDraft_teacherOf_ planDraft_seatsOf_ planDraft_columnOf_ planDraft_columnsWith_ roll_size_ roll_kept_ h _ _ _ hP hD hS (lv_sub hl [1, 0] rfl)
    · have h := (if_neg c_).symm.trans h
      refine lv_aload_n hx hb dX5_desk_48 rfl (lv_at hl 1 rfl) ?_
      refine va_get (D := (dC, dI)) (ci := 5) (v := .ref h0_plan) (C := RX5) (T := TX5) (N := 10) hx hb hts hiX5 hown hK hP 0 rfl rfl 1 (by decide) (hts (.fieldLink RX5 19 "OptionLattice" "plan" "LOptionLattice$Plan;") (by decide +kernel)) (fun _ h9 => h9) rfl dX5_desk_49 ?_
      refine lv_aload_n hx hb dX5_desk_52 rfl (lv_at hl 1 rfl) ?_
      refine va_get (D := (dC, dI)) (ci := 5) (v := .ref h0_planDraft) (C := RX5) (T := TX5) (N := 10) hx hb hts hiX5 hown hK hP 0 rfl rfl 2 (by decide) (hts (.fieldLink RX5 23 "OptionLattice" "planDraft" "LOptionLattice$Plan;") (by decide +kernel)) (fun _ h9 => h9) rfl dX5_desk_53 ?_
      obtain ⟨plan_columnCount_2, plan_roomCount_3, plan_size_4, plan_barsOf_5, plan_subjectOf_6, plan_teacherOf_7, plan_seatsOf_8, plan_columnOf_9, plan_columnsWith_10, hq, h⟩ := bd9_some h
      refine uV_v (b := h0_plan) (As := [.ref h0_planDraft]) (rest := []) ⟨hx, hb, hml, hown, hts⟩ (c_X0_become l dC dI cyC cyI cyJ h0_plan h0_plan_barsOf h0_plan_subjectOf h0_plan_teacherOf h0_plan_seatsOf h0_plan_columnOf h0_plan_columnsWith h0_planDraft h0_planDraft_barsOf h0_planDraft_subjectOf h0_planDraft_teacherOf h0_planDraft_seatsOf h0_planDraft_columnOf h0_planDraft_columnsWith plan_columnCount_ plan_roomCount_ plan_size_ plan_barsOf_ plan_subjectOf_ plan_teacherOf_ plan_seatsOf_ plan_columnOf_ plan_columnsWith_ planDraft_columnCount_ planDraft_roomCount_ planDraft_size_ planDraft_barsOf_ planDraft_subjectOf_ planDraft_teacherOf_ planDraft_seatsOf_ planDraft_columnOf_ planDraft_columnsWith_ plan_columnCount_2 plan_roomCount_3 plan_size_4 plan_barsOf_5 plan_subjectOf_6 plan_teacherOf_7 plan_seatsOf_8 plan_columnOf_9 plan_columnsWith_10 hq) (cwV 1 hts gX5_desk_X0_become rfl rfl rfl (by decide +kernel) ⟨Nat.le_of_ble_eq_true rfl, Nat.le_of_ble_eq_true rfl⟩) hK hE hA hP hD hS [3, 4, 5, 6, 7, 8, 9, 10, 11, 12, 13, 14, 15, 16] rfl rfl rfl 0 0 rfl rfl rfl hl.1 rfl (Nat.le_of_ble_eq_true rfl) ⟨Nat.zero_le _, Nat.zero_le _⟩ dX5_desk_56 (fun H locs hP hD hS => ?_)
      have hP : va_P (dC, dI) vwCl [(h0, .inr (5, [.ref h0_text, .ref h0_plan, .ref h0_planDraft, .ref h0_roll, .ref h0_rollDraft, .ref h0_wayFinder, .ref h0_seating, .ref h0_demand, .ref h0_told, .int toldCount_])), (h0_text, .inr (3, [.ref h0_text_signs, .int text_size_, .int text_at_])), (h0_text_signs, .inl (cyC, 240, .inl text_signs_)), (h0_plan, .inr (0, [.int plan_columnCount_2, .int plan_roomCount_3, .int plan_size_4, .ref h0_plan_barsOf, .ref h0_plan_subjectOf, .ref h0_plan_teacherOf, .ref h0_plan_seatsOf, .ref h0_plan_columnOf, .ref h0_plan_columnsWith])), (h0_plan_barsOf, .inl (cyI, 10, .inl plan_barsOf_5)), (h0_plan_subjectOf, .inl (cyI, 16, .inl plan_subjectOf_6)), (h0_plan_teacherOf, .inl (cyI, 16, .inl plan_teacherOf_7)), (h0_plan_seatsOf, .inl (cyI, 16, .inl plan_seatsOf_8)), (h0_plan_columnOf, .inl (cyI, 16, .inl plan_columnOf_9)), (h0_plan_columnsWith, .inl (cyI, 10, .inl plan_columnsWith_10)), (h0_planDraft, .inr (0, [.int planDraft_columnCount_, .int planDraft_roomCount_, .int planDraft_size_, .ref h0_planDraft_barsOf, .ref h0_planDraft_subjectOf, .ref h0_planDraft_teacherOf, .ref h0_planDraft_seatsOf, .ref h0_planDraft_columnOf, .ref h0_planDraft_columnsWith])), (h0_planDraft_barsOf, .inl (cyI, 10, .inl planDraft_barsOf_)), (h0_planDraft_subjectOf, .inl (cyI, 16, .inl planDraft_subjectOf_)), (h0_planDraft_teacherOf, .inl (cyI, 16, .inl planDraft_teacherOf_)), (h0_planDraft_seatsOf, .inl (cyI, 16, .inl planDraft_seatsOf_)), (h0_planDraft_columnOf, .inl (cyI, 16, .inl planDraft_columnOf_)), (h0_planDraft_columnsWith, .inl (cyI, 10, .inl planDraft_columnsWith_)), (h0_roll, .inr (1, [.ref h0_roll_choicesOf, .int roll_size_, .int roll_kept_]))] H := hP
      have hD : va_D A [(h0, .inr (5, [.ref h0_text, .ref h0_plan, .ref h0_planDraft, .ref h0_roll, .ref h0_rollDraft, .ref h0_wayFinder, .ref h0_seating, .ref h0_demand, .ref h0_told, .int toldCount_])), (h0_text, .inr (3, [.ref h0_text_signs, .int text_size_, .int text_at_])), (h0_text_signs, .inl (cyC, 240, .inl text_signs_)), (h0_plan, .inr (0, [.int plan_columnCount_2, .int plan_roomCount_3, .int plan_size_4, .ref h0_plan_barsOf, .ref h0_plan_subjectOf, .ref h0_plan_teacherOf, .ref h0_plan_seatsOf, .ref h0_plan_columnOf, .ref h0_plan_columnsWith])), (h0_plan_barsOf, .inl (cyI, 10, .inl plan_barsOf_5)), (h0_plan_subjectOf, .inl (cyI, 16, .inl plan_subjectOf_6)), (h0_plan_teacherOf, .inl (cyI, 16, .inl plan_teacherOf_7)), (h0_plan_seatsOf, .inl (cyI, 16, .inl plan_seatsOf_8)), (h0_plan_columnOf, .inl (cyI, 16, .inl plan_columnOf_9)), (h0_plan_columnsWith, .inl (cyI, 10, .inl plan_columnsWith_10)), (h0_planDraft, .inr (0, [.int planDraft_columnCount_, .int planDraft_roomCount_, .int planDraft_size_, .ref h0_planDraft_barsOf, .ref h0_planDraft_subjectOf, .ref h0_planDraft_teacherOf, .ref h0_planDraft_seatsOf, .ref h0_planDraft_columnOf, .ref h0_planDraft_columnsWith])), (h0_planDraft_barsOf, .inl (cyI, 10, .inl planDraft_barsOf_)), (h0_planDraft_subjectOf, .inl (cyI, 16, .inl planDraft_subjectOf_)), (h0_planDraft_teacherOf, .inl (cyI, 16, .inl planDraft_teacherOf_)), (h0_planDraft_seatsOf, .inl (cyI, 16, .inl planDraft_seatsOf_)), (h0_planDraft_columnOf, .inl (cyI, 16, .inl planDraft_columnOf_)), (h0_planDraft_columnsWith, .inl (cyI, 10, .inl planDraft_columnsWith_)), (h0_roll, .inr (1, [.ref h0_roll_choicesOf, .int roll_size_, .int roll_kept_]))] := hD
      refine lv_aload_n hx hb dX5_desk_59 rfl (lv_at hl 1 rfl) ?_
      refine va_get (D := (dC, dI)) (ci := 5) (v := .ref h0_roll) (C := RX5) (T := TX5) (N := 10) hx hb hts hiX5 hown hK hP 0 rfl rfl 3 (by decide) (hts (.fieldLink RX5 29 "OptionLattice" "roll" "LOptionLattice$Roll;") (by decide +kernel)) (fun _ h9 => h9) rfl dX5_desk_60 ?_
      obtain ⟨roll_size_11, roll_kept_12, hq, h⟩ := bd2_some h
      refine uV_v (b := h0_roll) (As := []) (rest := []) ⟨hx, hb, hml, hown, hts⟩ (c_X1_empty l dC dI cyC cyI cyJ h0_roll h0_roll_choicesOf roll_size_ roll_kept_ roll_size_11 roll_kept_12 hq) (cwV 0 hts gX5_desk_X1_empty rfl rfl rfl (by decide +kernel) ⟨Nat.le_of_ble_eq_true rfl, Nat.le_of_ble_eq_true rfl⟩) hK hE hA hP hD hS [17] rfl rfl rfl 1 0 rfl rfl rfl hl.1 rfl (Nat.le_of_ble_eq_true rfl) ⟨Nat.zero_le _, Nat.zero_le _⟩ dX5_desk_63 (fun H locs hP hD hS => ?_)
      have hP : va_P (dC, dI) vwCl [(h0, .inr (5, [.ref h0_text, .ref h0_plan, .ref h0_planDraft, .ref h0_roll, .ref h0_rollDraft, .ref h0_wayFinder, .ref h0_seating, .ref h0_demand, .ref h0_told, .int toldCount_])), (h0_text, .inr (3, [.ref h0_text_signs, .int text_size_, .int text_at_])), (h0_text_signs, .inl (cyC, 240, .inl text_signs_)), (h0_plan, .inr (0, [.int plan_columnCount_2, .int plan_roomCount_3, .int plan_size_4, .ref h0_plan_barsOf, .ref h0_plan_subjectOf, .ref h0_plan_teacherOf, .ref h0_plan_seatsOf, .ref h0_plan_columnOf, .ref h0_plan_columnsWith])), (h0_plan_barsOf, .inl (cyI, 10, .inl plan_barsOf_5)), (h0_plan_subjectOf, .inl (cyI, 16, .inl plan_subjectOf_6)), (h0_plan_teacherOf, .inl (cyI, 16, .inl plan_teacherOf_7)), (h0_plan_seatsOf, .inl (cyI, 16, .inl plan_seatsOf_8)), (h0_plan_columnOf, .inl (cyI, 16, .inl plan_columnOf_9)), (h0_plan_columnsWith, .inl (cyI, 10, .inl plan_columnsWith_10)), (h0_planDraft, .inr (0, [.int planDraft_columnCount_, .int planDraft_roomCount_, .int planDraft_size_, .ref h0_planDraft_barsOf, .ref h0_planDraft_subjectOf, .ref h0_planDraft_teacherOf, .ref h0_planDraft_seatsOf, .ref h0_planDraft_columnOf, .ref h0_planDraft_columnsWith])), (h0_planDraft_barsOf, .inl (cyI, 10, .inl planDraft_barsOf_)), (h0_planDraft_subjectOf, .inl (cyI, 16, .inl planDraft_subjectOf_)), (h0_planDraft_teacherOf, .inl (cyI, 16, .inl planDraft_teacherOf_)), (h0_planDraft_seatsOf, .inl (cyI, 16, .inl planDraft_seatsOf_)), (h0_planDraft_columnOf, .inl (cyI, 16, .inl planDraft_columnOf_)), (h0_planDraft_columnsWith, .inl (cyI, 10, .inl planDraft_columnsWith_)), (h0_roll, .inr (1, [.ref h0_roll_choicesOf, .int roll_size_11, .int roll_kept_12]))] H := hP
      have hD : va_D A [(h0, .inr (5, [.ref h0_text, .ref h0_plan, .ref h0_planDraft, .ref h0_roll, .ref h0_rollDraft, .ref h0_wayFinder, .ref h0_seating, .ref h0_demand, .ref h0_told, .int toldCount_])), (h0_text, .inr (3, [.ref h0_text_signs, .int text_size_, .int text_at_])), (h0_text_signs, .inl (cyC, 240, .inl text_signs_)), (h0_plan, .inr (0, [.int plan_columnCount_2, .int plan_roomCount_3, .int plan_size_4, .ref h0_plan_barsOf, .ref h0_plan_subjectOf, .ref h0_plan_teacherOf, .ref h0_plan_seatsOf, .ref h0_plan_columnOf, .ref h0_plan_columnsWith])), (h0_plan_barsOf, .inl (cyI, 10, .inl plan_barsOf_5)), (h0_plan_subjectOf, .inl (cyI, 16, .inl plan_subjectOf_6)), (h0_plan_teacherOf, .inl (cyI, 16, .inl plan_teacherOf_7)), (h0_plan_seatsOf, .inl (cyI, 16, .inl plan_seatsOf_8)), (h0_plan_columnOf, .inl (cyI, 16, .inl plan_columnOf_9)), (h0_plan_columnsWith, .inl (cyI, 10, .inl plan_columnsWith_10)), (h0_planDraft, .inr (0, [.int planDraft_columnCount_, .int planDraft_roomCount_, .int planDraft_size_, .ref h0_planDraft_barsOf, .ref h0_planDraft_subjectOf, .ref h0_planDraft_teacherOf, .ref h0_planDraft_seatsOf, .ref h0_planDraft_columnOf, .ref h0_planDraft_columnsWith])), (h0_planDraft_barsOf, .inl (cyI, 10, .inl planDraft_barsOf_)), (h0_planDraft_subjectOf, .inl (cyI, 16, .inl planDraft_subjectOf_)), (h0_planDraft_teacherOf, .inl (cyI, 16, .inl planDraft_teacherOf_)), (h0_planDraft_seatsOf, .inl (cyI, 16, .inl planDraft_seatsOf_)), (h0_planDraft_columnOf, .inl (cyI, 16, .inl planDraft_columnOf_)), (h0_planDraft_columnsWith, .inl (cyI, 10, .inl planDraft_columnsWith_)), (h0_roll, .inr (1, [.ref h0_roll_choicesOf, .int roll_size_11, .int roll_kept_12]))] := hD
      exact J66 t0 text_at_ plan_columnCount_2 plan_roomCount_3 plan_size_4 plan_barsOf_5 plan_subjectOf_6 plan_teacherOf_7 plan_seatsOf_8 plan_columnOf_9 plan_columnsWith_10 planDraft_columnCount_ planDraft_roomCount_ planDraft_size_ planDraft_barsOf_ planDraft_subjectOf_ planDraft_teacherOf_ planDraft_seatsOf_ planDraft_columnOf_ planDraft_columnsWith_ roll_size_11 roll_kept_12 h _ _ _ hP hD hS (lv_sub hl [1, 0] rfl)
  unfold m_X5_desk at h
  refine lv_aload_n hx hb dX5_desk_0 rfl (lv_at hl 0 rfl) ?_
  refine va_get (D := (dC, dI)) (ci := 5) (v := .ref h0_text) (C := RX5) (T := TX5) (N := 10) hx hb hts hiX5 hown hK hP 0 rfl rfl 0 (by decide) (hts (.fieldLink RX5 10 "OptionLattice" "text" "LOptionLattice$Signs;") (by decide +kernel)) (fun _ h9 => h9) rfl dX5_desk_1 ?_
  obtain ⟨text_at_13, hq, h⟩ := bd1_some h
  refine uV_v (b := h0_text) (As := []) (rest := []) ⟨hx, hb, hml, hown, hts⟩ (c_X3_rewind l dC dI cyC cyI cyJ h0_text h0_text_signs text_size_ text_at_ text_at_13 hq) (cwV 0 hts gX5_desk_X3_rewind rfl rfl rfl (by decide +kernel) ⟨Nat.le_of_ble_eq_true rfl, Nat.le_of_ble_eq_true rfl⟩) hK hE hA hP hD hS [1] rfl rfl rfl 3 0 rfl rfl rfl hl.1 rfl (Nat.le_of_ble_eq_true rfl) ⟨Nat.zero_le _, Nat.zero_le _⟩ dX5_desk_4 (fun H locs hP hD hS => ?_)
  have hP : va_P (dC, dI) vwCl [(h0, .inr (5, [.ref h0_text, .ref h0_plan, .ref h0_planDraft, .ref h0_roll, .ref h0_rollDraft, .ref h0_wayFinder, .ref h0_seating, .ref h0_demand, .ref h0_told, .int toldCount_])), (h0_text, .inr (3, [.ref h0_text_signs, .int text_size_, .int text_at_13])), (h0_text_signs, .inl (cyC, 240, .inl text_signs_)), (h0_plan, .inr (0, [.int plan_columnCount_, .int plan_roomCount_, .int plan_size_, .ref h0_plan_barsOf, .ref h0_plan_subjectOf, .ref h0_plan_teacherOf, .ref h0_plan_seatsOf, .ref h0_plan_columnOf, .ref h0_plan_columnsWith])), (h0_plan_barsOf, .inl (cyI, 10, .inl plan_barsOf_)), (h0_plan_subjectOf, .inl (cyI, 16, .inl plan_subjectOf_)), (h0_plan_teacherOf, .inl (cyI, 16, .inl plan_teacherOf_)), (h0_plan_seatsOf, .inl (cyI, 16, .inl plan_seatsOf_)), (h0_plan_columnOf, .inl (cyI, 16, .inl plan_columnOf_)), (h0_plan_columnsWith, .inl (cyI, 10, .inl plan_columnsWith_)), (h0_planDraft, .inr (0, [.int planDraft_columnCount_, .int planDraft_roomCount_, .int planDraft_size_, .ref h0_planDraft_barsOf, .ref h0_planDraft_subjectOf, .ref h0_planDraft_teacherOf, .ref h0_planDraft_seatsOf, .ref h0_planDraft_columnOf, .ref h0_planDraft_columnsWith])), (h0_planDraft_barsOf, .inl (cyI, 10, .inl planDraft_barsOf_)), (h0_planDraft_subjectOf, .inl (cyI, 16, .inl planDraft_subjectOf_)), (h0_planDraft_teacherOf, .inl (cyI, 16, .inl planDraft_teacherOf_)), (h0_planDraft_seatsOf, .inl (cyI, 16, .inl planDraft_seatsOf_)), (h0_planDraft_columnOf, .inl (cyI, 16, .inl planDraft_columnOf_)), (h0_planDraft_columnsWith, .inl (cyI, 10, .inl planDraft_columnsWith_)), (h0_roll, .inr (1, [.ref h0_roll_choicesOf, .int roll_size_, .int roll_kept_]))] H := hP
  have hD : va_D A [(h0, .inr (5, [.ref h0_text, .ref h0_plan, .ref h0_planDraft, .ref h0_roll, .ref h0_rollDraft, .ref h0_wayFinder, .ref h0_seating, .ref h0_demand, .ref h0_told, .int toldCount_])), (h0_text, .inr (3, [.ref h0_text_signs, .int text_size_, .int text_at_13])), (h0_text_signs, .inl (cyC, 240, .inl text_signs_)), (h0_plan, .inr (0, [.int plan_columnCount_, .int plan_roomCount_, .int plan_size_, .ref h0_plan_barsOf, .ref h0_plan_subjectOf, .ref h0_plan_teacherOf, .ref h0_plan_seatsOf, .ref h0_plan_columnOf, .ref h0_plan_columnsWith])), (h0_plan_barsOf, .inl (cyI, 10, .inl plan_barsOf_)), (h0_plan_subjectOf, .inl (cyI, 16, .inl plan_subjectOf_)), (h0_plan_teacherOf, .inl (cyI, 16, .inl plan_teacherOf_)), (h0_plan_seatsOf, .inl (cyI, 16, .inl plan_seatsOf_)), (h0_plan_columnOf, .inl (cyI, 16, .inl plan_columnOf_)), (h0_plan_columnsWith, .inl (cyI, 10, .inl plan_columnsWith_)), (h0_planDraft, .inr (0, [.int planDraft_columnCount_, .int planDraft_roomCount_, .int planDraft_size_, .ref h0_planDraft_barsOf, .ref h0_planDraft_subjectOf, .ref h0_planDraft_teacherOf, .ref h0_planDraft_seatsOf, .ref h0_planDraft_columnOf, .ref h0_planDraft_columnsWith])), (h0_planDraft_barsOf, .inl (cyI, 10, .inl planDraft_barsOf_)), (h0_planDraft_subjectOf, .inl (cyI, 16, .inl planDraft_subjectOf_)), (h0_planDraft_teacherOf, .inl (cyI, 16, .inl planDraft_teacherOf_)), (h0_planDraft_seatsOf, .inl (cyI, 16, .inl planDraft_seatsOf_)), (h0_planDraft_columnOf, .inl (cyI, 16, .inl planDraft_columnOf_)), (h0_planDraft_columnsWith, .inl (cyI, 10, .inl planDraft_columnsWith_)), (h0_roll, .inr (1, [.ref h0_roll_choicesOf, .int roll_size_, .int roll_kept_]))] := hD
  refine lv_aload_n hx hb dX5_desk_7 rfl (lv_at hl 0 rfl) ?_
  refine va_get (D := (dC, dI)) (ci := 5) (v := .ref h0_planDraft) (C := RX5) (T := TX5) (N := 10) hx hb hts hiX5 hown hK hP 0 rfl rfl 2 (by decide) (hts (.fieldLink RX5 23 "OptionLattice" "planDraft" "LOptionLattice$Plan;") (by decide +kernel)) (fun _ h9 => h9) rfl dX5_desk_8 ?_
  refine lv_aload_n hx hb dX5_desk_11 rfl (lv_at hl 0 rfl) ?_
  refine va_get (D := (dC, dI)) (ci := 5) (v := .ref h0_text) (C := RX5) (T := TX5) (N := 10) hx hb hts hiX5 hown hK hP 0 rfl rfl 0 (by decide) (hts (.fieldLink RX5 10 "OptionLattice" "text" "LOptionLattice$Signs;") (by decide +kernel)) (fun _ h9 => h9) rfl dX5_desk_12 ?_
  obtain ⟨r_14, planDraft_columnCount_15, planDraft_roomCount_16, planDraft_size_17, planDraft_barsOf_18, planDraft_subjectOf_19, planDraft_teacherOf_20, planDraft_seatsOf_21, planDraft_columnOf_22, planDraft_columnsWith_23, text_at_24, hq, h⟩ := bd11_some h
  refine uV_i (b := h0_planDraft) (As := [.ref h0_text]) (rest := []) ⟨hx, hb, hml, hown, hts⟩ (c_X0_readFrom l dC dI cyC cyI cyJ h0_planDraft h0_planDraft_barsOf h0_planDraft_subjectOf h0_planDraft_teacherOf h0_planDraft_seatsOf h0_planDraft_columnOf h0_planDraft_columnsWith h0_text h0_text_signs planDraft_columnCount_ planDraft_roomCount_ planDraft_size_ planDraft_barsOf_ planDraft_subjectOf_ planDraft_teacherOf_ planDraft_seatsOf_ planDraft_columnOf_ planDraft_columnsWith_ text_size_ text_at_13 text_signs_ r_14 planDraft_columnCount_15 planDraft_roomCount_16 planDraft_size_17 planDraft_barsOf_18 planDraft_subjectOf_19 planDraft_teacherOf_20 planDraft_seatsOf_21 planDraft_columnOf_22 planDraft_columnsWith_23 text_at_24 hq) (cwV 1 hts gX5_desk_X0_readFrom rfl rfl rfl (by decide +kernel) ⟨Nat.le_of_ble_eq_true rfl, Nat.le_of_ble_eq_true rfl⟩) hK hE hA hP hD hS [10, 11, 12, 13, 14, 15, 16, 1, 2] rfl rfl rfl 0 0 rfl rfl rfl hl.1 rfl (Nat.le_of_ble_eq_true rfl) ⟨Nat.zero_le _, Nat.zero_le _⟩ dX5_desk_15 (fun H locs hP hD hS => ?_)
  have hP : va_P (dC, dI) vwCl [(h0, .inr (5, [.ref h0_text, .ref h0_plan, .ref h0_planDraft, .ref h0_roll, .ref h0_rollDraft, .ref h0_wayFinder, .ref h0_seating, .ref h0_demand, .ref h0_told, .int toldCount_])), (h0_text, .inr (3, [.ref h0_text_signs, .int text_size_, .int text_at_24])), (h0_text_signs, .inl (cyC, 240, .inl text_signs_)), (h0_plan, .inr (0, [.int plan_columnCount_, .int plan_roomCount_, .int plan_size_, .ref h0_plan_barsOf, .ref h0_plan_subjectOf, .ref h0_plan_teacherOf, .ref h0_plan_seatsOf, .ref h0_plan_columnOf, .ref h0_plan_columnsWith])), (h0_plan_barsOf, .inl (cyI, 10, .inl plan_barsOf_)), (h0_plan_subjectOf, .inl (cyI, 16, .inl plan_subjectOf_)), (h0_plan_teacherOf, .inl (cyI, 16, .inl plan_teacherOf_)), (h0_plan_seatsOf, .inl (cyI, 16, .inl plan_seatsOf_)), (h0_plan_columnOf, .inl (cyI, 16, .inl plan_columnOf_)), (h0_plan_columnsWith, .inl (cyI, 10, .inl plan_columnsWith_)), (h0_planDraft, .inr (0, [.int planDraft_columnCount_15, .int planDraft_roomCount_16, .int planDraft_size_17, .ref h0_planDraft_barsOf, .ref h0_planDraft_subjectOf, .ref h0_planDraft_teacherOf, .ref h0_planDraft_seatsOf, .ref h0_planDraft_columnOf, .ref h0_planDraft_columnsWith])), (h0_planDraft_barsOf, .inl (cyI, 10, .inl planDraft_barsOf_18)), (h0_planDraft_subjectOf, .inl (cyI, 16, .inl planDraft_subjectOf_19)), (h0_planDraft_teacherOf, .inl (cyI, 16, .inl planDraft_teacherOf_20)), (h0_planDraft_seatsOf, .inl (cyI, 16, .inl planDraft_seatsOf_21)), (h0_planDraft_columnOf, .inl (cyI, 16, .inl planDraft_columnOf_22)), (h0_planDraft_columnsWith, .inl (cyI, 10, .inl planDraft_columnsWith_23)), (h0_roll, .inr (1, [.ref h0_roll_choicesOf, .int roll_size_, .int roll_kept_]))] H := hP
  have hD : va_D A [(h0, .inr (5, [.ref h0_text, .ref h0_plan, .ref h0_planDraft, .ref h0_roll, .ref h0_rollDraft, .ref h0_wayFinder, .ref h0_seating, .ref h0_demand, .ref h0_told, .int toldCount_])), (h0_text, .inr (3, [.ref h0_text_signs, .int text_size_, .int text_at_24])), (h0_text_signs, .inl (cyC, 240, .inl text_signs_)), (h0_plan, .inr (0, [.int plan_columnCount_, .int plan_roomCount_, .int plan_size_, .ref h0_plan_barsOf, .ref h0_plan_subjectOf, .ref h0_plan_teacherOf, .ref h0_plan_seatsOf, .ref h0_plan_columnOf, .ref h0_plan_columnsWith])), (h0_plan_barsOf, .inl (cyI, 10, .inl plan_barsOf_)), (h0_plan_subjectOf, .inl (cyI, 16, .inl plan_subjectOf_)), (h0_plan_teacherOf, .inl (cyI, 16, .inl plan_teacherOf_)), (h0_plan_seatsOf, .inl (cyI, 16, .inl plan_seatsOf_)), (h0_plan_columnOf, .inl (cyI, 16, .inl plan_columnOf_)), (h0_plan_columnsWith, .inl (cyI, 10, .inl plan_columnsWith_)), (h0_planDraft, .inr (0, [.int planDraft_columnCount_15, .int planDraft_roomCount_16, .int planDraft_size_17, .ref h0_planDraft_barsOf, .ref h0_planDraft_subjectOf, .ref h0_planDraft_teacherOf, .ref h0_planDraft_seatsOf, .ref h0_planDraft_columnOf, .ref h0_planDraft_columnsWith])), (h0_planDraft_barsOf, .inl (cyI, 10, .inl planDraft_barsOf_18)), (h0_planDraft_subjectOf, .inl (cyI, 16, .inl planDraft_subjectOf_19)), (h0_planDraft_teacherOf, .inl (cyI, 16, .inl planDraft_teacherOf_20)), (h0_planDraft_seatsOf, .inl (cyI, 16, .inl planDraft_seatsOf_21)), (h0_planDraft_columnOf, .inl (cyI, 16, .inl planDraft_columnOf_22)), (h0_planDraft_columnsWith, .inl (cyI, 10, .inl planDraft_columnsWith_23)), (h0_roll, .inr (1, [.ref h0_roll_choicesOf, .int roll_size_, .int roll_kept_]))] := hD
  refine lv_istore_n (lv' := [(1, .int r_14), (0, .ref h0)]) hx hb dX5_desk_18 rfl hl (by decide) rfl (fun ls hl => ?_)
  refine lv_iload_n hx hb dX5_desk_19 rfl (lv_at hl 0 rfl) ?_
  refine lv_if_eq (tgt := 33) hx hb dX5_desk_20 (by decide) (fun c_ => ?_) (fun c_ => ?_)
  · have h := (if_pos c_).symm.trans h
    refine lv_bipush (v := (-21)) hx hb dX5_desk_33 (by decide) ?_
    refine lv_aload_n hx hb dX5_desk_35 rfl (lv_at hl 1 rfl) ?_
    refine va_get (D := (dC, dI)) (ci := 5) (v := .ref h0_text) (C := RX5) (T := TX5) (N := 10) hx hb hts hiX5 hown hK hP 0 rfl rfl 0 (by decide) (hts (.fieldLink RX5 10 "OptionLattice" "text" "LOptionLattice$Signs;") (by decide +kernel)) (fun _ h9 => h9) rfl dX5_desk_36 ?_
    refine va_getN (host := "OptionLattice") (D := (dC, dI)) (ci := 3) (v := .int text_at_24) (C := RX3) (T := TX3) (N := 3) hx hb hts hiX3 hown hK hP 1 rfl rfl 2 (by decide) (va_Nw.use rfl (hE.1 ("OptionLattice", 80, "OptionLattice$Signs", "at", "I") (List.mem_of_getElem? (i := 1) rfl))) (fun _ h9 => h9) rfl dX5_desk_39 ?_
    refine lv_isub hx hb dX5_desk_42 ?_
    exact J43 r_14 ((-21 : Int32) - text_at_24) text_at_24 planDraft_columnCount_15 planDraft_roomCount_16 planDraft_size_17 planDraft_barsOf_18 planDraft_subjectOf_19 planDraft_teacherOf_20 planDraft_seatsOf_21 planDraft_columnOf_22 planDraft_columnsWith_23 h _ _ _ hP hD hS (lv_sub hl [1, 0] rfl)
  · have h := (if_neg c_).symm.trans h
    refine lv_aload_n hx hb dX5_desk_23 rfl (lv_at hl 1 rfl) ?_
    refine va_get (D := (dC, dI)) (ci := 5) (v := .ref h0_planDraft) (C := RX5) (T := TX5) (N := 10) hx hb hts hiX5 hown hK hP 0 rfl rfl 2 (by decide) (hts (.fieldLink RX5 23 "OptionLattice" "planDraft" "LOptionLattice$Plan;") (by decide +kernel)) (fun _ h9 => h9) rfl dX5_desk_24 ?_
    refine va_getN (host := "OptionLattice") (D := (dC, dI)) (ci := 0) (v := .int planDraft_size_17) (C := RX0) (T := TX0) (N := 9) hx hb hts hiX0 hown hK hP 10 rfl rfl 2 (by decide) (va_Nw.use rfl (hE.1 ("OptionLattice", 79, "OptionLattice$Plan", "size", "I") (List.mem_of_getElem? (i := 5) rfl))) (fun _ h9 => h9) rfl dX5_desk_27 ?_
    refine lv_goto (tgt := 43) hx hb dX5_desk_30 (by decide) ?_
    exact J43 r_14 planDraft_size_17 text_at_24 planDraft_columnCount_15 planDraft_roomCount_16 planDraft_size_17 planDraft_barsOf_18 planDraft_subjectOf_19 planDraft_teacherOf_20 planDraft_seatsOf_21 planDraft_columnOf_22 planDraft_columnsWith_23 h _ _ _ hP hD hS (lv_sub hl [1, 0] rfl)
