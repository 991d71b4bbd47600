def m_X0_teachersTold_37 (size_ : Int32) (teacherOf_ : Nat → Int32) (rec37 : Int32 → Int32 → Option (Int32)) : Int32 → Int32 → Option (Int32) := fun v1 v2 =>
  (if size_ ≤ v2 then some v1 else gd (inb v2 16) (lt' (v1 ||| ((1 : Int32) <<< ((teacherOf_ v2.toNatClampNeg) &&& 31))) (fun v1_1 => lt' (v2 + 1) (fun v2_2 => rec37 v1_1 v2_2))))
def m_X0_teachersTold_4 (size_ : Int32) (barsOf_ : Nat → Int32) (teacherOf_ : Nat → Int32) (rec4 : Int32 → Int32 → Option (Int32)) : Int32 → Int32 → Option (Int32) := fun v1 v2 =>
  (if 10 ≤ v2 then it2 (m_X0_teachersTold_37 size_ teacherOf_) 1100 v1 0 else gd (inb v2 10) ((if (barsOf_ v2.toNatClampNeg) = 0 then lt' (v1 ||| 0) (fun v1_3 => lt' (v2 + 1) (fun v2_4 => rec4 v1_3 v2_4)) else lt' (v1 ||| ((1 : Int32) <<< (v2 &&& 31))) (fun v1_5 => lt' (v2 + 1) (fun v2_6 => rec4 v1_5 v2_6)))))
def m_X0_teachersTold (size_ : Int32) (barsOf_ : Nat → Int32) (teacherOf_ : Nat → Int32) : Option (Int32) :=
  it2 (m_X0_teachersTold_4 size_ barsOf_ teacherOf_) 1100 0 0
abbrev rmX0_teachersTold : Room := { frames := 0, cells := 0, slots := 0, locals := 0 }
set_option maxHeartbeats 4000000 in
set_option maxRecDepth 100000 in
theorem c_X0_teachersTold (l : Launch) (dC : Nat → ClassId) (dI : Nat → Nat → Nat) (cyC cyI cyJ : ClassId) (h0 h0_barsOf h0_subjectOf h0_teacherOf h0_seatsOf h0_columnOf h0_columnsWith : Nat) (columnCount_ : Int32) (roomCount_ : Int32) (size_ : Int32) (barsOf_ : Nat → Int32) (teacherOf_ : Nat → Int32) (rr : Int32) (h : m_X0_teachersTold size_ barsOf_ teacherOf_ = some rr) : uMi l yX0_teachersTold wsX0_teachersTold rmX0_teachersTold (dC, dI) [(cyC, .char), (cyI, .int), (cyJ, .long)] [.ref h0] [(h0, .inr (0, [.int columnCount_, .int roomCount_, .int size_, .ref h0_barsOf, .ref h0_subjectOf, .ref h0_teacherOf, .ref h0_seatsOf, .ref h0_columnOf, .ref h0_columnsWith])), (h0_barsOf, .inl (cyI, 10, .inl barsOf_)), (h0_teacherOf, .inl (cyI, 16, .inl teacherOf_))] [(h0, .inr (0, [.int columnCount_, .int roomCount_, .int size_, .ref h0_barsOf, .ref h0_subjectOf, .ref h0_teacherOf, .ref h0_seatsOf, .ref h0_columnOf, .ref h0_columnsWith])), (h0_barsOf, .inl (cyI, 10, .inl barsOf_)), (h0_teacherOf, .inl (cyI, 16, .inl teacherOf_))] rr := by
  refine uMi.of (cc := cX0_teachersTold) (maxL := 3) (by decide) rfl (Nat.le_of_ble_eq_true rfl) (fun p e s m args below meth c A ls Q hx hb hml hown hts hA hP hK hD hE hS hl hret => ?_)
  have hown : s.vm.findClass RX0 = some m.cls := hown
  have hl : lv_has ls 3 [(0, .ref h0)] := hl
  have hiX0 : ∀ w ∈ u_ws RX0 TX0 9, w ∈ wsX0_teachersTold := fun _ h9 => List.mem_cons_of_mem _ (List.mem_append_right _ h9)
  have L37 : ∀ (n37 : Nat), ∀ (v1 : Int32), ∀ (v2 : Int32), it2 (m_X0_teachersTold_37 size_ teacherOf_) n37 v1 v2 = some rr → ∀ (H : Heap) (locs : List Loc) (ls : Array Slot), va_P (dC, dI) vwCl [(h0, .inr (0, [.int columnCount_, .int roomCount_, .int size_, .ref h0_barsOf, .ref h0_subjectOf, .ref h0_teacherOf, .ref h0_seatsOf, .ref h0_columnOf, .ref h0_columnsWith])), (h0_barsOf, .inl (cyI, 10, .inl barsOf_)), (h0_teacherOf, .inl (cyI, 16, .inl teacherOf_))] H → va_D A [(h0, .inr (0, [.int columnCount_, .int roomCount_, .int size_, .ref h0_barsOf, .ref h0_subjectOf, .ref h0_teacherOf, .ref h0_seatsOf, .ref h0_columnOf, .ref h0_columnsWith])), (h0_barsOf, .inl (cyI, 10, .inl barsOf_)), (h0_teacherOf, .inl (cyI, 16, .inl teacherOf_))] → va_S A s.heap H locs → lv_has ls 3 [(0, .ref h0), (1, .int v1), (2, .int v2)] → W p l e rmX0_teachersTold s m args below meth c H locs 0 0 Q (F0 m 37 ls []) := by
    intro n37
    induction n37 with
    | zero => intro v1 v2 h; exact absurd h (fun z => it2_z z)
    | succ n37 ih37 =>
      intro v1 v2 h H locs ls hP hD hS hl
      have h : m_X0_teachersTold_37 size_ teacherOf_ (it2 (m_X0_teachersTold_37 size_ teacherOf_) n37) v1 v2 = some rr := h
      unfold m_X0_teachersTold_37 at h
      refine lv_iload_n hx hb dX0_teachersTold_37 rfl (lv_at hl 2 rfl) ?_
      refine lv_aload_n hx hb dX0_teachersTold_38 rfl (lv_at hl 0 rfl) ?_
      refine va_get (D := (dC, dI)) (ci := 0) (v := .int size_) (C := RX0) (T := TX0) (N := 9) hx hb hts hiX0 hown hK hP 0 rfl rfl 2 (by decide) (hts (.fieldLink RX0 18 "OptionLattice$Plan" "size" "I") (by decide +kernel)) (fun _ h9 => h9) rfl dX0_teachersTold_39 ?_
      refine lv_icmp_ge (tgt := 62) hx hb dX0_teachersTold_42 (by decide) (fun c_ => ?_) (fun c_ => ?_)
      · have h := (if_pos c_).symm.trans h
        refine lv_iload_n hx hb dX0_teachersTold_62 rfl (lv_at hl 1 rfl) ?_
        have h : some v1 = some rr := h
        have z0 := Option.some.inj h
        obtain rfl := z0
        exact hret _ _ _ _ hP hS rfl dX0_teachersTold_63
      · have h := (if_neg c_).symm.trans h
        refine lv_iload_n hx hb dX0_teachersTold_45 rfl (lv_at hl 1 rfl) ?_
        refine lv_iconst (v := 1) hx hb dX0_teachersTold_46 (by decide) ?_
        refine lv_aload_n hx hb dX0_teachersTold_47 rfl (lv_at hl 0 rfl) ?_
        refine va_get (D := (dC, dI)) (ci := 0) (v := .ref h0_teacherOf) (C := RX0) (T := TX0) (N := 9) hx hb hts hiX0 hown hK hP 0 rfl rfl 5 (by decide) (hts (.fieldLink RX0 28 "OptionLattice$Plan" "teacherOf" "[I") (by decide +kernel)) (fun _ h9 => h9) rfl dX0_teachersTold_48 ?_
        refine lv_iload_n hx hb dX0_teachersTold_51 rfl (lv_at hl 2 rfl) ?_
        obtain ⟨g_, h⟩ := gd_some h
        refine va_iald hx hb hK hP 2 1 rfl rfl (inb_in g_) dX0_teachersTold_52 ?_
        refine lv_ishl hx hb dX0_teachersTold_53 ?_
        refine lv_ior hx hb dX0_teachersTold_54 ?_
        refine lv_topi (fun v1_1 e_v1_1 => ?_)
        have h := lt_use e_v1_1 h
        refine lv_istore_n (lv' := [(1, .int v1_1), (0, .ref h0), (2, .int v2)]) hx hb dX0_teachersTold_55 rfl hl (by decide) rfl (fun ls hl => ?_)
        obtain ⟨v2_2, e_v2_2⟩ : ∃ z : Int32, z = (v2 + 1) := ⟨_, rfl⟩
        have h := lt_use e_v2_2 h
        refine lv_iinc (v := v2_2) (lv' := [(2, .int v2_2), (1, .int v1_1), (0, .ref h0)]) hx hb dX0_teachersTold_56 hl (k := 2) rfl (by rw [e_v2_2]; rfl) (by decide) rfl (fun ls hl => ?_)
        refine lv_goto (tgt := 37) hx hb dX0_teachersTold_59 (by decide) ?_
        exact ih37 v1_1 v2_2 h _ _ _ hP hD hS (lv_sub hl [2, 1, 0] rfl)
  have L4 : ∀ (n4 : Nat), ∀ (v1 : Int32), ∀ (v2 : Int32), it2 (m_X0_teachersTold_4 size_ barsOf_ teacherOf_) n4 v1 v2 = some rr → ∀ (H : Heap) (locs : List Loc) (ls : Array Slot), va_P (dC, dI) vwCl [(h0, .inr (0, [.int columnCount_, .int roomCount_, .int size_, .ref h0_barsOf, .ref h0_subjectOf, .ref h0_teacherOf, .ref h0_seatsOf, .ref h0_columnOf, .ref h0_columnsWith])), (h0_barsOf, .inl (cyI, 10, .inl barsOf_)), (h0_teacherOf, .inl (cyI, 16, .inl teacherOf_))] H → va_D A [(h0, .inr (0, [.int columnCount_, .int roomCount_, .int size_, .ref h0_barsOf, .ref h0_subjectOf, .ref h0_teacherOf, .ref h0_seatsOf, .ref h0_columnOf, .ref h0_columnsWith])), (h0_barsOf, .inl (cyI, 10, .inl barsOf_)), (h0_teacherOf, .inl (cyI, 16, .inl teacherOf_))] → va_S A s.heap H locs → lv_has ls 3 [(0, .ref h0), (1, .int v1), (2, .int v2)] → W p l e rmX0_teachersTold s m args below meth c H locs 0 0 Q (F0 m 4 ls []) := by
    intro n4
    induction n4 with
    | zero => intro v1 v2 h; exact absurd h (fun z => it2_z z)
    | succ n4 ih4 =>
      intro v1 v2 h H locs ls hP hD hS hl
      have h : m_X0_teachersTold_4 size_ barsOf_ teacherOf_ (it2 (m_X0_teachersTold_4 size_ barsOf_ teacherOf_) n4) v1 v2 = some rr := h
      unfold m_X0_teachersTold_4 at h
      refine lv_iload_n hx hb dX0_teachersTold_4 rfl (lv_at hl 2 rfl) ?_
      refine lv_bipush (v := 10) hx hb dX0_teachersTold_5 (by decide) ?_
      refine lv_icmp_ge (tgt := 35) hx hb dX0_teachersTold_7 (by decide) (fun c_ => ?_) (fun c_ => ?_)
      · have h := (if_pos c_).symm.trans h
        refine lv_iconst (v := 0) hx hb dX0_teachersTold_35 (by decide) ?_
        refine lv_istore_n (lv' := [(2, .int 0), (0, .ref h0), (1, .int v1)]) hx hb dX0_teachersTold_36 rfl hl (by decide) rfl (fun ls hl => ?_)
        exact L37  1100 v1 0 h _ _ _ hP hD hS (lv_sub hl [1, 2, 0] rfl)
      · have h := (if_neg c_).symm.trans h
        refine lv_iload_n hx hb dX0_teachersTold_10 rfl (lv_at hl 1 rfl) ?_
        refine lv_aload_n hx hb dX0_teachersTold_11 rfl (lv_at hl 0 rfl) ?_
        refine va_get (D := (dC, dI)) (ci := 0) (v := .ref h0_barsOf) (C := RX0) (T := TX0) (N := 9) hx hb hts hiX0 hown hK hP 0 rfl rfl 3 (by decide) (hts (.fieldLink RX0 21 "OptionLattice$Plan" "barsOf" "[I") (by decide +kernel)) (fun _ h9 => h9) rfl dX0_teachersTold_12 ?_
        refine lv_iload_n hx hb dX0_teachersTold_15 rfl (lv_at hl 2 rfl) ?_
        obtain ⟨g_, h⟩ := gd_some h
        refine va_iald hx hb hK hP 1 1 rfl rfl (inb_in g_) dX0_teachersTold_16 ?_
        refine lv_if_eq (tgt := 26) hx hb dX0_teachersTold_17 (by decide) (fun c_ => ?_) (fun c_ => ?_)
        · have h := (if_pos c_).symm.trans h
          refine lv_iconst (v := 0) hx hb dX0_teachersTold_26 (by decide) ?_
          refine lv_ior hx hb dX0_teachersTold_27 ?_
          refine lv_topi (fun v1_3 e_v1_3 => ?_)
          have h := lt_use e_v1_3 h
          refine lv_istore_n (lv' := [(1, .int v1_3), (0, .ref h0), (2, .int v2)]) hx hb dX0_teachersTold_28 rfl hl (by decide) rfl (fun ls hl => ?_)
          obtain ⟨v2_4, e_v2_4⟩ : ∃ z : Int32, z = (v2 + 1) := ⟨_, rfl⟩
          have h := lt_use e_v2_4 h
          refine lv_iinc (v := v2_4) (lv' := [(2, .int v2_4), (1, .int v1_3), (0, .ref h0)]) hx hb dX0_teachersTold_29 hl (k := 2) rfl (by rw [e_v2_4]; rfl) (by decide) rfl (fun ls hl => ?_)
          refine lv_goto (tgt := 4) hx hb dX0_teachersTold_32 (by decide) ?_
          exact ih4 v1_3 v2_4 h _ _ _ hP hD hS (lv_sub hl [2, 1, 0] rfl)
        · have h := (if_neg c_).symm.trans h
          refine lv_iconst (v := 1) hx hb dX0_teachersTold_20 (by decide) ?_
          refine lv_iload_n hx hb dX0_teachersTold_21 rfl (lv_at hl 2 rfl) ?_
          refine lv_ishl hx hb dX0_teachersTold_22 ?_
          refine lv_goto (tgt := 27) hx hb dX0_teachersTold_23 (by decide) ?_
          refine lv_ior hx hb dX0_teachersTold_27 ?_
          refine lv_topi (fun v1_5 e_v1_5 => ?_)
          have h := lt_use e_v1_5 h
          refine lv_istore_n (lv' := [(1, .int v1_5), (0, .ref h0), (2, .int v2)]) hx hb dX0_teachersTold_28 rfl hl (by decide) rfl (fun ls hl => ?_)
          obtain ⟨v2_6, e_v2_6⟩ : ∃ z : Int32, z = (v2 + 1) := ⟨_, rfl⟩
          have h := lt_use e_v2_6 h
          refine lv_iinc (v := v2_6) (lv' := [(2, .int v2_6), (1, .int v1_5), (0, .ref h0)]) hx hb dX0_teachersTold_29 hl (k := 2) rfl (by rw [e_v2_6]; rfl) (by decide) rfl (fun ls hl => ?_)
          refine lv_goto (tgt := 4) hx hb dX0_teachersTold_32 (by decide) ?_
          exact ih4 v1_5 v2_6 h _ _ _ hP hD hS (lv_sub hl [2, 1, 0] rfl)
  unfold m_X0_teachersTold at h
  refine lv_iconst (v := 0) hx hb dX0_teachersTold_0 (by decide) ?_
  refine lv_istore_n (lv' := [(1, .int 0), (0, .ref h0)]) hx hb dX0_teachersTold_1 rfl hl (by decide) rfl (fun ls hl => ?_)
  refine lv_iconst (v := 0) hx hb dX0_teachersTold_2 (by decide) ?_
  refine lv_istore_n (lv' := [(2, .int 0), (1, .int 0), (0, .ref h0)]) hx hb dX0_teachersTold_3 rfl hl (by decide) rfl (fun ls hl => ?_)
  exact L4  1100 0 0 h _ _ _ hP hD hS (lv_sub hl [2, 1, 0] rfl)

def m_X0_readBars_84 (barsOf_ : Nat → Int32) (a1_at_ : Int32) (v2 : Int32) : Option (Int32 × (Nat → Int32) × Int32) :=
  gd (inb v2 10) ((if (barsOf_ v2.toNatClampNeg) = 0 then some (0, barsOf_, a1_at_) else some (1, barsOf_, a1_at_)))
def m_X0_readBars_54 (barsOf_ : Nat → Int32) (a1_at_ : Int32) (v2 : Int32) : Option (Int32 × (Nat → Int32) × Int32) :=
  m_X0_readBars_84 barsOf_ a1_at_ v2
def m_X0_readBars_34 (a1_size_ : Int32) (a1_signs_ : Nat → Int32) (v2 : Int32) (rec34 : Int32 → Int32 → (Nat → Int32) → Int32 → Option (Int32 × (Nat → Int32) × Int32)) : Int32 → Int32 → (Nat → Int32) → Int32 → Option (Int32 × (Nat → Int32) × Int32) := fun v3 v4 barsOf_ a1_at_ =>
  (if 6 ≤ v4 then m_X0_readBars_84 barsOf_ a1_at_ v2 else bd2 (m_X3_takeDigit a1_size_ a1_at_ a1_signs_ v3) (fun r_1 a1_at_2 => (if r_1 = (-1) then m_X0_readBars_54 barsOf_ a1_at_2 v2 else gd (inb v2 10) (gd (inb v2 10) (bd1 (m_X5_digitsAbove r_1) (fun r_3 => lt' (v3 &&& r_3) (fun v3_4 => lt' (v4 + 1) (fun v4_5 => rec34 v3_4 v4_5 (upd barsOf_ v2.toNatClampNeg ((barsOf_ v2.toNatClampNeg) ||| ((1 : Int32) <<< (r_1 &&& 31)))) a1_at_2))))))))
def m_X0_readBars (columnCount_ : Int32) (size_ : Int32) (barsOf_ : Nat → Int32) (teacherOf_ : Nat → Int32) (a1_size_ : Int32) (a1_at_ : Int32) (a1_signs_ : Nat → Int32) : Option (Int32 × (Nat → Int32) × Int32) :=
  bd1 (m_X0_teachersTold size_ barsOf_ teacherOf_) (fun r_6 => bd2 (m_X3_takeDigit a1_size_ a1_at_ a1_signs_ ((1023 : Int32) &&& (r_6 ^^^ (-1)))) (fun r_7 a1_at_8 => (if r_7 = (-1) then some (0, barsOf_, a1_at_8) else lt' (((1 : Int32) <<< (columnCount_ &&& 31)) - 1) (fun v3_9 => it4 (m_X0_readBars_34 a1_size_ a1_signs_ r_7) 1100 v3_9 0 barsOf_ a1_at_8))))
abbrev rmX0_readBars : Room := { frames := 2, cells := 0, slots := 0, locals := 43 }
set_option maxHeartbeats 4000000 in
set_option maxRecDepth 100000 in
theorem c_X0_readBars (l : Launch) (dC : Nat → ClassId) (dI : Nat → Nat → Nat) (cyC cyI cyJ : ClassId) (h0 h0_barsOf h0_subjectOf h0_teacherOf h0_seatsOf h0_columnOf h0_columnsWith h1 h1_signs : Nat) (columnCount_ : Int32) (roomCount_ : Int32) (size_ : Int32) (barsOf_ : Nat → Int32) (teacherOf_ : Nat → Int32) (a1_size_ : Int32) (a1_at_ : Int32) (a1_signs_ : Nat → Int32) (rr : Int32) (o0 : Nat → Int32) (o1 : Int32) (h : m_X0_readBars columnCount_ size_ barsOf_ teacherOf_ a1_size_ a1_at_ a1_signs_ = some (rr, o0, o1)) : uMi l yX0_readBars wsX0_readBars rmX0_readBars (dC, dI) [(cyC, .char), (cyI, .int), (cyJ, .long)] [.ref h0, .ref h1] [(h0, .inr (0, [.int columnCount_, .int roomCount_, .int size_, .ref h0_barsOf, .ref h0_subjectOf, .ref h0_teacherOf, .ref h0_seatsOf, .ref h0_columnOf, .ref h0_columnsWith])), (h0_barsOf, .inl (cyI, 10, .inl barsOf_)), (h0_teacherOf, .inl (cyI, 16, .inl teacherOf_)), (h1, .inr (3, [.ref h1_signs, .int a1_size_, .int a1_at_])), (h1_signs, .inl (cyC, 240, .inl a1_signs_))] [(h0, .inr (0, [.int columnCount_, .int roomCount_, .int size_, .ref h0_barsOf, .ref h0_subjectOf, .ref h0_teacherOf, .ref h0_seatsOf, .ref h0_columnOf, .ref h0_columnsWith])), (h0_barsOf, .inl (cyI, 10, .inl o0)), (h0_teacherOf, .inl (cyI, 16, .inl teacherOf_)), (h1, .inr (3, [.ref h1_signs, .int a1_size_, .int o1])), (h1_signs, .inl (cyC, 240, .inl a1_signs_))] rr := by
  refine uMi.of (cc := cX0_readBars) (maxL := 6) (by decide) rfl (Nat.le_of_ble_eq_true rfl) (fun p e s m args below meth c A ls Q hx hb hml hown hts hA hP hK hD hE hS hl hret => ?_)
  have hown : s.vm.findClass RX0 = some m.cls := hown
  have hl : lv_has ls 6 [(0, .ref h0), (1, .ref h1)] := hl
  have hiX0 : ∀ w ∈ u_ws RX0 TX0 9, w ∈ wsX0_readBars := fun _ h9 => List.mem_cons_of_mem _ (List.mem_append_left _ (List.mem_append_right _ h9))
  have J84 : ∀ (v2 : Int32), ∀ (barsOf_ : Nat → Int32), ∀ (a1_at_ : Int32), m_X0_readBars_84 barsOf_ a1_at_ v2 = some (rr, o0, o1) → ∀ (H : Heap) (locs : List Loc) (ls : Array Slot), va_P (dC, dI) vwCl [(h0, .inr (0, [.int columnCount_, .int roomCount_, .int size_, .ref h0_barsOf, .ref h0_subjectOf, .ref h0_teacherOf, .ref h0_seatsOf, .ref h0_columnOf, .ref h0_columnsWith])), (h0_barsOf, .inl (cyI, 10, .inl barsOf_)), (h0_teacherOf, .inl (cyI, 16, .inl teacherOf_)), (h1, .inr (3, [.ref h1_signs, .int a1_size_, .int a1_at_])), (h1_signs, .inl (cyC, 240, .inl a1_signs_))] H → va_D A [(h0, .inr (0, [.int columnCount_, .int roomCount_, .int size_, .ref h0_barsOf, .ref h0_subjectOf, .ref h0_teacherOf, .ref h0_seatsOf, .ref h0_columnOf, .ref h0_columnsWith])), (h0_barsOf, .inl (cyI, 10, .inl barsOf_)), (h0_teacherOf, .inl (cyI, 16, .inl teacherOf_)), (h1, .inr (3, [.ref h1_signs, .int a1_size_, .int a1_at_])), (h1_signs, .inl (cyC, 240, .inl a1_signs_))] → va_S A s.heap H locs → lv_has ls 6 [(0, .ref h0), (2, .int v2)] → W p l e rmX0_readBars s m args below meth c H locs 0 0 Q (F0 m 84 ls []) := by
    intro v2 barsOf_ a1_at_ h H locs ls hP hD hS hl
    unfold m_X0_readBars_84 at h
    refine lv_aload_n hx hb dX0_readBars_84 rfl (lv_at hl 0 rfl) ?_
    refine va_get (D := (dC, dI)) (ci := 0) (v := .ref h0_barsOf) (C := RX0) (T := TX0) (N := 9) hx hb hts hiX0 hown hK hP 0 rfl rfl 3 (by decide) (hts (.fieldLink RX0 21 "OptionLattice$Plan" "barsOf" "[I") (by decide +kernel)) (fun _ h9 => h9) rfl dX0_readBars_85 ?_
    refine lv_iload_n hx hb dX0_readBars_88 rfl (lv_at hl 1 rfl) ?_
    obtain ⟨g_, h⟩ := gd_some h
    refine va_iald hx hb hK hP 1 1 rfl rfl (inb_in g_) dX0_readBars_89 ?_
    refine lv_if_eq (tgt := 97) hx hb dX0_readBars_90 (by decide) (fun c_ => ?_) (fun c_ => ?_)
    · have h := (if_pos c_).symm.trans h
      refine lv_iconst (v := 0) hx hb dX0_readBars_97 (by decide) ?_
      have h : some (0, barsOf_, a1_at_) = some (rr, o0, o1) := h
      have z0 := Option.some.inj h
      obtain ⟨rfl, z1⟩ := Prod.mk.inj z0
      obtain ⟨rfl, z2⟩ := Prod.mk.inj z1
      obtain rfl := z2
      exact hret _ _ _ _ hP hS rfl dX0_readBars_98
    · have h := (if_neg c_).symm.trans h
      refine lv_iconst (v := 1) hx hb dX0_readBars_93 (by decide) ?_
      refine lv_goto (tgt := 98) hx hb dX0_readBars_94 (by decide) ?_
      have h : some (1, barsOf_, a1_at_) = some (rr, o0, o1) := h
      have z0 := Option.some.inj h
      obtain ⟨rfl, z1⟩ := Prod.mk.inj z0
      obtain ⟨rfl, z2⟩ := Prod.mk.inj z1
      obtain rfl := z2
      exact hret _ _ _ _ hP hS rfl dX0_readBars_98
  have J54 : ∀ (v2 : Int32), ∀ (barsOf_ : Nat → Int32), ∀ (a1_at_ : Int32), m_X0_readBars_54 barsOf_ a1_at_ v2 = some (rr, o0, o1) → ∀ (H : Heap) (locs : List Loc) (ls : Array Slot), va_P (dC, dI) vwCl [(h0, .inr (0, [.int columnCount_, .int roomCount_, .int size_, .ref h0_barsOf, .ref h0_subjectOf, .ref h0_teacherOf, .ref h0_seatsOf, .ref h0_columnOf, .ref h0_columnsWith])), (h0_barsOf, .inl (cyI, 10, .inl barsOf_)), (h0_teacherOf, .inl (cyI, 16, .inl teacherOf_)), (h1, .inr (3, [.ref h1_signs, .int a1_size_, .int a1_at_])), (h1_signs, .inl (cyC, 240, .inl a1_signs_))] H → va_D A [(h0, .inr (0, [.int columnCount_, .int roomCount_, .int size_, .ref h0_barsOf, .ref h0_subjectOf, .ref h0_teacherOf, .ref h0_seatsOf, .ref h0_columnOf, .ref h0_columnsWith])), (h0_barsOf, .inl (cyI, 10, .inl barsOf_)), (h0_teacherOf, .inl (cyI, 16, .inl teacherOf_)), (h1, .inr (3, [.ref h1_signs, .int a1_size_, .int a1_at_])), (h1_signs, .inl (cyC, 240, .inl a1_signs_))] → va_S A s.heap H locs → lv_has ls 6 [(0, .ref h0), (2, .int v2)] → W p l e rmX0_readBars s m args below meth c H locs 0 0 Q (F0 m 54 ls []) := by
    intro v2 barsOf_ a1_at_ h H locs ls hP hD hS hl
    unfold m_X0_readBars_54 at h
    refine lv_goto (tgt := 84) hx hb dX0_readBars_54 (by decide) ?_
    exact J84 v2 barsOf_ a1_at_ h _ _ _ hP hD hS (lv_sub hl [0, 1] rfl)
  have L34 : ∀ (v2 : Int32), ∀ (n34 : Nat), ∀ (v3 : Int32), ∀ (v4 : Int32), ∀ (barsOf_ : Nat → Int32), ∀ (a1_at_ : Int32), it4 (m_X0_readBars_34 a1_size_ a1_signs_ v2) n34 v3 v4 barsOf_ a1_at_ = some (rr, o0, o1) → ∀ (H : Heap) (locs : List Loc) (ls : Array Slot), va_P (dC, dI) vwCl [(h0, .inr (0, [.int columnCount_, .int roomCount_, .int size_, .ref h0_barsOf, .ref h0_subjectOf, .ref h0_teacherOf, .ref h0_seatsOf, .ref h0_columnOf, .ref h0_columnsWith])), (h0_barsOf, .inl (cyI, 10, .inl barsOf_)), (h0_teacherOf, .inl (cyI, 16, .inl teacherOf_)), (h1, .inr (3, [.ref h1_signs, .int a1_size_, .int a1_at_])), (h1_signs, .inl (cyC, 240, .inl a1_signs_))] H → va_D A [(h0, .inr (0, [.int columnCount_, .int roomCount_, .int size_, .ref h0_barsOf, .ref h0_subjectOf, .ref h0_teacherOf, .ref h0_seatsOf, .ref h0_columnOf, .ref h0_columnsWith])), (h0_barsOf, .inl (cyI, 10, .inl barsOf_)), (h0_teacherOf, .inl (cyI, 16, .inl teacherOf_)), (h1, .inr (3, [.ref h1_signs, .int a1_size_, .int a1_at_])), (h1_signs, .inl (cyC, 240, .inl a1_signs_))] → va_S A s.heap H locs → lv_has ls 6 [(0, .ref h0), (1, .ref h1), (2, .int v2), (3, .int v3), (4, .int v4)] → W p l e rmX0_readBars s m args below meth c H locs 0 0 Q (F0 m 34 ls []) := by
    intro v2 n34
    induction n34 with
    | zero => intro v3 v4 barsOf_ a1_at_ h; exact absurd h (fun z => it4_z z)
    | succ n34 ih34 =>
      intro v3 v4 barsOf_ a1_at_ h H locs ls hP hD hS hl
      have h : m_X0_readBars_34 a1_size_ a1_signs_ v2 (it4 (m_X0_readBars_34 a1_size_ a1_signs_ v2) n34) v3 v4 barsOf_ a1_at_ = some (rr, o0, o1) := h
      unfold m_X0_readBars_34 at h
      refine lv_iload hx hb dX0_readBars_34 (lv_at hl 4 rfl) ?_
      refine lv_bipush (v := 6) hx hb dX0_readBars_36 (by decide) ?_
      refine lv_icmp_ge (tgt := 84) hx hb dX0_readBars_38 (by decide) (fun c_ => ?_) (fun c_ => ?_)
      · have h := (if_pos c_).symm.trans h
        exact J84 v2 barsOf_ a1_at_ h _ _ _ hP hD hS (lv_sub hl [0, 2] rfl)
      · have h := (if_neg c_).symm.trans h
        refine lv_aload_n hx hb dX0_readBars_41 rfl (lv_at hl 1 rfl) ?_
        refine lv_iload_n hx hb dX0_readBars_42 rfl (lv_at hl 3 rfl) ?_
        obtain ⟨r_1, a1_at_2, hq, h⟩ := bd2_some h
        refine uV_i (b := h1) (As := [.int v3]) (rest := []) ⟨hx, hb, hml, hown, hts⟩ (c_X3_takeDigit l dC dI cyC cyI cyJ h1 h1_signs a1_size_ a1_at_ a1_signs_ v3 r_1 a1_at_2 hq) (cwV 1 hts gX0_readBars_X3_takeDigit rfl rfl rfl (by decide +kernel) ⟨Nat.le_of_ble_eq_true rfl, Nat.le_of_ble_eq_true rfl⟩) hK hE hA hP hD hS [3, 4] rfl rfl rfl 3 0 rfl rfl rfl hl.1 rfl (Nat.le_of_ble_eq_true rfl) ⟨Nat.zero_le _, Nat.zero_le _⟩ dX0_readBars_43 (fun H locs hP hD hS => ?_)
        have hP : va_P (dC, dI) vwCl [(h0, .inr (0, [.int columnCount_, .int roomCount_, .int size_, .ref h0_barsOf, .ref h0_subjectOf, .ref h0_teacherOf, .ref h0_seatsOf, .ref h0_columnOf, .ref h0_columnsWith])), (h0_barsOf, .inl (cyI, 10, .inl barsOf_)), (h0_teacherOf, .inl (cyI, 16, .inl teacherOf_)), (h1, .inr (3, [.ref h1_signs, .int a1_size_, .int a1_at_2])), (h1_signs, .inl (cyC, 240, .inl a1_signs_))] H := hP
        have hD : va_D A [(h0, .inr (0, [.int columnCount_, .int roomCount_, .int size_, .ref h0_barsOf, .ref h0_subjectOf, .ref h0_teacherOf, .ref h0_seatsOf, .ref h0_columnOf, .ref h0_columnsWith])), (h0_barsOf, .inl (cyI, 10, .inl barsOf_)), (h0_teacherOf, .inl (cyI, 16, .inl teacherOf_)), (h1, .inr (3, [.ref h1_signs, .int a1_size_, .int a1_at_2])), (h1_signs, .inl (cyC, 240, .inl a1_signs_))] := hD
        refine lv_istore (lv' := [(5, .int r_1), (0, .ref h0), (1, .ref h1), (2, .int v2), (3, .int v3), (4, .int v4)]) hx hb dX0_readBars_46 hl (by decide) rfl (fun ls hl => ?_)
        refine lv_iload hx hb dX0_readBars_48 (lv_at hl 0 rfl) ?_
        refine lv_iconst (v := (-1)) hx hb dX0_readBars_50 (by decide) ?_
        refine lv_icmp_ne (tgt := 57) hx hb dX0_readBars_51 (by decide) (fun c_ => ?_) (fun c_ => ?_)
        · have h := (if_neg c_).symm.trans h
          refine lv_aload_n hx hb dX0_readBars_57 rfl (lv_at hl 1 rfl) ?_
          refine va_get (D := (dC, dI)) (ci := 0) (v := .ref h0_barsOf) (C := RX0) (T := TX0) (N := 9) hx hb hts hiX0 hown hK hP 0 rfl rfl 3 (by decide) (hts (.fieldLink RX0 21 "OptionLattice$Plan" "barsOf" "[I") (by decide +kernel)) (fun _ h9 => h9) rfl dX0_readBars_58 ?_
          refine lv_iload_n hx hb dX0_readBars_61 rfl (lv_at hl 3 rfl) ?_
          refine lv_dup2_11 hx hb dX0_readBars_62 rfl rfl ?_
          obtain ⟨g_, h⟩ := gd_some h
          refine va_iald hx hb hK hP 1 1 rfl rfl (inb_in g_) dX0_readBars_63 ?_
          refine lv_iconst (v := 1) hx hb dX0_readBars_64 (by decide) ?_
          refine lv_iload hx hb dX0_readBars_65 (lv_at hl 0 rfl) ?_
          refine lv_ishl hx hb dX0_readBars_67 ?_
          refine lv_ior hx hb dX0_readBars_68 ?_
          obtain ⟨g_, h⟩ := gd_some h
          refine va_iast hx hb hK hP hD hS 1 1 rfl rfl (inb_in g_) dX0_readBars_69 (fun H locs hP hD hS => ?_)
          have hP : va_P (dC, dI) vwCl [(h0, .inr (0, [.int columnCount_, .int roomCount_, .int size_, .ref h0_barsOf, .ref h0_subjectOf, .ref h0_teacherOf, .ref h0_seatsOf, .ref h0_columnOf, .ref h0_columnsWith])), (h0_barsOf, .inl (cyI, 10, .inl (upd barsOf_ v2.toNatClampNeg ((barsOf_ v2.toNatClampNeg) ||| ((1 : Int32) <<< (r_1 &&& 31)))))), (h0_teacherOf, .inl (cyI, 16, .inl teacherOf_)), (h1, .inr (3, [.ref h1_signs, .int a1_size_, .int a1_at_2])), (h1_signs, .inl (cyC, 240, .inl a1_signs_))] H := hP
          have hD : va_D A [(h0, .inr (0, [.int columnCount_, .int roomCount_, .int size_, .ref h0_barsOf, .ref h0_subjectOf, .ref h0_teacherOf, .ref h0_seatsOf, .ref h0_columnOf, .ref h0_columnsWith])), (h0_barsOf, .inl (cyI, 10, .inl (upd barsOf_ v2.toNatClampNeg ((barsOf_ v2.toNatClampNeg) ||| ((1 : Int32) <<< (r_1 &&& 31)))))), (h0_teacherOf, .inl (cyI, 16, .inl teacherOf_)), (h1, .inr (3, [.ref h1_signs, .int a1_size_, .int a1_at_2])), (h1_signs, .inl (cyC, 240, .inl a1_signs_))] := hD
          refine lv_iload_n hx hb dX0_readBars_70 rfl (lv_at hl 4 rfl) ?_
          refine lv_iload hx hb dX0_readBars_71 (lv_at hl 0 rfl) ?_
          obtain ⟨r_3, hq, h⟩ := bd1_some h
          refine uN_i (As := [.int r_1]) (rest := [.int v3]) ⟨hx, hb, hml, hown, hts⟩ (c_X5_digitsAbove l dC dI cyC cyI cyJ r_1 r_3 hq) ⟨va_cnB 1 hts gX0_readBars_X5_digitsAbove_n95 rfl rfl rfl (hE.2.1 ("OptionLattice$Plan", 95, ⟨"OptionLattice", "digitsAbove", "(I)I"⟩) (List.mem_of_getElem? (i := 6) rfl)) (hts (.initialized RX5) (by decide +kernel)) (by decide +kernel) ⟨Nat.le_of_ble_eq_true rfl, Nat.le_of_ble_eq_true rfl⟩, (hts (.static yX5_digitsAbove) (by decide +kernel)), trivial⟩ hK hE hA hP hD hS [] rfl rfl rfl rfl hl.1 rfl (Nat.le_of_ble_eq_true rfl) ⟨Nat.zero_le _, Nat.zero_le _⟩ dX0_readBars_73 (fun H locs hP hD hS => ?_)
          have hP : va_P (dC, dI) vwCl [(h0, .inr (0, [.int columnCount_, .int roomCount_, .int size_, .ref h0_barsOf, .ref h0_subjectOf, .ref h0_teacherOf, .ref h0_seatsOf, .ref h0_columnOf, .ref h0_columnsWith])), (h0_barsOf, .inl (cyI, 10, .inl (upd barsOf_ v2.toNatClampNeg ((barsOf_ v2.toNatClampNeg) ||| ((1 : Int32) <<< (r_1 &&& 31)))))), (h0_teacherOf, .inl (cyI, 16, .inl teacherOf_)), (h1, .inr (3, [.ref h1_signs, .int a1_size_, .int a1_at_2])), (h1_signs, .inl (cyC, 240, .inl a1_signs_))] H := hP
          have hD : va_D A [(h0, .inr (0, [.int columnCount_, .int roomCount_, .int size_, .ref h0_barsOf, .ref h0_subjectOf, .ref h0_teacherOf, .ref h0_seatsOf, .ref h0_columnOf, .ref h0_columnsWith])), (h0_barsOf, .inl (cyI, 10, .inl (upd barsOf_ v2.toNatClampNeg ((barsOf_ v2.toNatClampNeg) ||| ((1 : Int32) <<< (r_1 &&& 31)))))), (h0_teacherOf, .inl (cyI, 16, .inl teacherOf_)), (h1, .inr (3, [.ref h1_signs, .int a1_size_, .int a1_at_2])), (h1_signs, .inl (cyC, 240, .inl a1_signs_))] := hD
          refine lv_iand hx hb dX0_readBars_76 ?_
          refine lv_topi (fun v3_4 e_v3_4 => ?_)
          have h := lt_use e_v3_4 h
          refine lv_istore_n (lv' := [(3, .int v3_4), (5, .int r_1), (0, .ref h0), (1, .ref h1), (2, .int v2), (4, .int v4)]) hx hb dX0_readBars_77 rfl hl (by decide) rfl (fun ls hl => ?_)
          obtain ⟨v4_5, e_v4_5⟩ : ∃ z : Int32, z = (v4 + 1) := ⟨_, rfl⟩
          have h := lt_use e_v4_5 h
          refine lv_iinc (v := v4_5) (lv' := [(4, .int v4_5), (3, .int v3_4), (5, .int r_1), (0, .ref h0), (1, .ref h1), (2, .int v2)]) hx hb dX0_readBars_78 hl (k := 5) rfl (by rw [e_v4_5]; rfl) (by decide) rfl (fun ls hl => ?_)
          refine lv_goto (tgt := 34) hx hb dX0_readBars_81 (by decide) ?_
          exact ih34 v3_4 v4_5 (upd barsOf_ v2.toNatClampNeg ((barsOf_ v2.toNatClampNeg) ||| ((1 : Int32) <<< (r_1 &&& 31)))) a1_at_2 h _ _ _ hP hD hS (lv_sub hl [3, 4, 5, 1, 0] rfl)
        · have h := (if_pos c_).symm.trans h
          exact J54 v2 barsOf_ a1_at_2 h _ _ _ hP hD hS (lv_sub hl [1, 3] rfl)
  unfold m_X0_readBars at h
  refine lv_aload_n hx hb dX0_readBars_0 rfl (lv_at hl 1 rfl) ?_
  refine lv_sipush (v := 1023) hx hb dX0_readBars_1 (by decide) ?_
  refine lv_aload_n hx hb dX0_readBars_4 rfl (lv_at hl 0 rfl) ?_
  obtain ⟨r_6, hq, h⟩ := bd1_some h
  refine uV_i (b := h0) (As := []) (rest := [.int 1023, .ref h1]) ⟨hx, hb, hml, hown, hts⟩ (c_X0_teachersTold l dC dI cyC cyI cyJ h0 h0_barsOf h0_subjectOf h0_teacherOf h0_seatsOf h0_columnOf h0_columnsWith columnCount_ roomCount_ size_ barsOf_ teacherOf_ r_6 hq) (cwV 0 hts gX0_readBars_X0_teachersTold rfl rfl rfl (by decide +kernel) ⟨Nat.le_of_ble_eq_true rfl, Nat.le_of_ble_eq_true rfl⟩) hK hE hA hP hD hS [0, 1, 2] rfl rfl rfl 0 0 rfl rfl rfl hl.1 rfl (Nat.le_of_ble_eq_true rfl) ⟨Nat.zero_le _, Nat.zero_le _⟩ dX0_readBars_5 (fun H locs hP hD hS => ?_)
  have hP : va_P (dC, dI) vwCl [(h0, .inr (0, [.int columnCount_, .int roomCount_, .int size_, .ref h0_barsOf, .ref h0_subjectOf, .ref h0_teacherOf, .ref h0_seatsOf, .ref h0_columnOf, .ref h0_columnsWith])), (h0_barsOf, .inl (cyI, 10, .inl barsOf_)), (h0_teacherOf, .inl (cyI, 16, .inl teacherOf_)), (h1, .inr (3, [.ref h1_signs, .int a1_size_, .int a1_at_])), (h1_signs, .inl (cyC, 240, .inl a1_signs_))] H := hP
  have hD : va_D A [(h0, .inr (0, [.int columnCount_, .int roomCount_, .int size_, .ref h0_barsOf, .ref h0_subjectOf, .ref h0_teacherOf, .ref h0_seatsOf, .ref h0_columnOf, .ref h0_columnsWith])), (h0_barsOf, .inl (cyI, 10, .inl barsOf_)), (h0_teacherOf, .inl (cyI, 16, .inl teacherOf_)), (h1, .inr (3, [.ref h1_signs, .int a1_size_, .int a1_at_])), (h1_signs, .inl (cyC, 240, .inl a1_signs_))] := hD
  refine lv_iconst (v := (-1)) hx hb dX0_readBars_8 (by decide) ?_
  refine lv_ixor hx hb dX0_readBars_9 ?_
  refine lv_iand hx hb dX0_readBars_10 ?_
  obtain ⟨r_7, a1_at_8, hq, h⟩ := bd2_some h
  refine uV_i (b := h1) (As := [.int ((1023 : Int32) &&& (r_6 ^^^ (-1)))]) (rest := []) ⟨hx, hb, hml, hown, hts⟩ (c_X3_takeDigit l dC dI cyC cyI cyJ h1 h1_signs a1_size_ a1_at_ a1_signs_ ((1023 : Int32) &&& (r_6 ^^^ (-1))) r_7 a1_at_8 hq) (cwV 1 hts gX0_readBars_X3_takeDigit rfl rfl rfl (by decide +kernel) ⟨Nat.le_of_ble_eq_true rfl, Nat.le_of_ble_eq_true rfl⟩) hK hE hA hP hD hS [3, 4] rfl rfl rfl 3 0 rfl rfl rfl hl.1 rfl (Nat.le_of_ble_eq_true rfl) ⟨Nat.zero_le _, Nat.zero_le _⟩ dX0_readBars_11 (fun H locs hP hD hS => ?_)
  have hP : va_P (dC, dI) vwCl [(h0, .inr (0, [.int columnCount_, .int roomCount_, .int size_, .ref h0_barsOf, .ref h0_subjectOf, .ref h0_teacherOf, .ref h0_seatsOf, .ref h0_columnOf, .ref h0_columnsWith])), (h0_barsOf, .inl (cyI, 10, .inl barsOf_)), (h0_teacherOf, .inl (cyI, 16, .inl teacherOf_)), (h1, .inr (3, [.ref h1_signs, .int a1_size_, .int a1_at_8])), (h1_signs, .inl (cyC, 240, .inl a1_signs_))] H := hP
  have hD : va_D A [(h0, .inr (0, [.int columnCount_, .int roomCount_, .int size_, .ref h0_barsOf, .ref h0_subjectOf, .ref h0_teacherOf, .ref h0_seatsOf, .ref h0_columnOf, .ref h0_columnsWith])), (h0_barsOf, .inl (cyI, 10, .inl barsOf_)), (h0_teacherOf, .inl (cyI, 16, .inl teacherOf_)), (h1, .inr (3, [.ref h1_signs, .int a1_size_, .int a1_at_8])), (h1_signs, .inl (cyC, 240, .inl a1_signs_))] := hD
  refine lv_istore_n (lv' := [(2, .int r_7), (0, .ref h0), (1, .ref h1)]) hx hb dX0_readBars_14 rfl hl (by decide) rfl (fun ls hl => ?_)
  refine lv_iload_n hx hb dX0_readBars_15 rfl (lv_at hl 0 rfl) ?_
  refine lv_iconst (v := (-1)) hx hb dX0_readBars_16 (by decide) ?_
  refine lv_icmp_ne (tgt := 22) hx hb dX0_readBars_17 (by decide) (fun c_ => ?_) (fun c_ => ?_)
  · have h := (if_neg c_).symm.trans h
    refine lv_iconst (v := 1) hx hb dX0_readBars_22 (by decide) ?_
    refine lv_aload_n hx hb dX0_readBars_23 rfl (lv_at hl 1 rfl) ?_
    refine va_get (D := (dC, dI)) (ci := 0) (v := .int columnCount_) (C := RX0) (T := TX0) (N := 9) hx hb hts hiX0 hown hK hP 0 rfl rfl 0 (by decide) (hts (.fieldLink RX0 9 "OptionLattice$Plan" "columnCount" "I") (by decide +kernel)) (fun _ h9 => h9) rfl dX0_readBars_24 ?_
    refine lv_ishl hx hb dX0_readBars_27 ?_
    refine lv_iconst (v := 1) hx hb dX0_readBars_28 (by decide) ?_
    refine lv_isub hx hb dX0_readBars_29 ?_
    refine lv_topi (fun v3_9 e_v3_9 => ?_)
    have h := lt_use e_v3_9 h
    refine lv_istore_n (lv' := [(3, .int v3_9), (2, .int r_7), (0, .ref h0), (1, .ref h1)]) hx hb dX0_readBars_30 rfl hl (by decide) rfl (fun ls hl => ?_)
    refine lv_iconst (v := 0) hx hb dX0_readBars_31 (by decide) ?_
    refine lv_istore (lv' := [(4, .int 0), (3, .int v3_9), (2, .int r_7), (0, .ref h0), (1, .ref h1)]) hx hb dX0_readBars_32 hl (by decide) rfl (fun ls hl => ?_)
    exact L34 r_7 1100 v3_9 0 barsOf_ a1_at_8 h _ _ _ hP hD hS (lv_sub hl [3, 4, 2, 1, 0] rfl)
  · have h := (if_pos c_).symm.trans h
    refine lv_iconst (v := 0) hx hb dX0_readBars_20 (by decide) ?_
    have h : some (0, barsOf_, a1_at_8) = some (rr, o0, o1) := h
    have z0 := Option.some.inj h
    obtain ⟨rfl, z1⟩ := Prod.mk.inj z0
    obtain ⟨rfl, z2⟩ := Prod.mk.inj z1
    obtain rfl := z2
    exact hret _ _ _ _ hP hS rfl dX0_readBars_21

def m_X0_readSeats_48 (size_ : Int32) (at_ : Int32) (signs_ : Nat → Int32) (v1 : Int32) (t1 : Int32) : Option (Int32 × Int32) :=
  bd2 (m_X3_takeDigit size_ at_ signs_ t1) (fun r_1 at_2 => (if r_1 = (-1) then some (v1, at_2) else some ((((10 : Int32) * v1) + r_1), at_2)))
def m_X0_readSeats (size_ : Int32) (at_ : Int32) (signs_ : Nat → Int32) : Option (Int32 × Int32) :=
  bd1 (m_X5_digitsAbove 0) (fun r_3 => bd2 (m_X3_takeDigit size_ at_ signs_ r_3) (fun r_4 at_5 => (if r_4 = (-1) then some ((-1), at_5) else lt' (if ((30 : Int32) - ((10 : Int32) * r_4)) < 9 then ((30 : Int32) - ((10 : Int32) * r_4)) else 9) (fun v2_6 => (if 0 ≤ v2_6 then bd1 (m_X5_digitsAbove v2_6) (fun r_7 => m_X0_readSeats_48 size_ at_5 signs_ r_4 ((1023 : Int32) &&& (r_7 ^^^ (-1)))) else m_X0_readSeats_48 size_ at_5 signs_ r_4 0)))))
abbrev rmX0_readSeats : Room := { frames := 2, cells := 0, slots := 0, locals := 43 }
set_option maxHeartbeats 4000000 in
set_option maxRecDepth 100000 in
theorem c_X0_readSeats (l : Launch) (dC : Nat → ClassId) (dI : Nat → Nat → Nat) (cyC cyI cyJ : ClassId) (h0 h0_signs : Nat) (size_ : Int32) (at_ : Int32) (signs_ : Nat → Int32) (rr : Int32) (o0 : Int32) (h : m_X0_readSeats size_ at_ signs_ = some (rr, o0)) : uMi l yX0_readSeats wsX0_readSeats rmX0_readSeats (dC, dI) [(cyC, .char), (cyI, .int), (cyJ, .long)] [.ref h0] [(h0, .inr (3, [.ref h0_signs, .int size_, .int at_])), (h0_signs, .inl (cyC, 240, .inl signs_))] [(h0, .inr (3, [.ref h0_signs, .int size_, .int o0])), (h0_signs, .inl (cyC, 240, .inl signs_))] rr := by
  refine uMi.of (cc := cX0_readSeats) (maxL := 4) (by decide) rfl (Nat.le_of_ble_eq_true rfl) (fun p e s m args below meth c A ls Q hx hb hml hown hts hA hP hK hD hE hS hl hret => ?_)
  have hown : s.vm.findClass RX0 = some m.cls := hown
  have hl : lv_has ls 4 [(0, .ref h0)] := hl
  have J48 : ∀ (v1 : Int32), ∀ (t1 : Int32), ∀ (at_ : Int32), m_X0_readSeats_48 size_ at_ signs_ v1 t1 = some (rr, o0) → ∀ (H : Heap) (locs : List Loc) (ls : Array Slot), va_P (dC, dI) vwCl [(h0, .inr (3, [.ref h0_signs, .int size_, .int at_])), (h0_signs, .inl (cyC, 240, .inl signs_))] H → va_D A [(h0, .inr (3, [.ref h0_signs, .int size_, .int at_])), (h0_signs, .inl (cyC, 240, .inl signs_))] → va_S A s.heap H locs → lv_has ls 4 [(1, .int v1)] → W p l e rmX0_readSeats s m args below meth c H locs 0 0 Q (F0 m 48 ls [.int t1, .ref h0]) := by
    intro v1 t1 at_ h H locs ls hP hD hS hl
    unfold m_X0_readSeats_48 at h
    obtain ⟨r_1, at_2, hq, h⟩ := bd2_some h
    refine uV_i (b := h0) (As := [.int t1]) (rest := []) ⟨hx, hb, hml, hown, hts⟩ (c_X3_takeDigit l dC dI cyC cyI cyJ h0 h0_signs size_ at_ signs_ t1 r_1 at_2 hq) (cwV 1 hts gX0_readSeats_X3_takeDigit rfl rfl rfl (by decide +kernel) ⟨Nat.le_of_ble_eq_true rfl, Nat.le_of_ble_eq_true rfl⟩) hK hE hA hP hD hS [0, 1] rfl rfl rfl 3 0 rfl rfl rfl hl.1 rfl (Nat.le_of_ble_eq_true rfl) ⟨Nat.zero_le _, Nat.zero_le _⟩ dX0_readSeats_48 (fun H locs hP hD hS => ?_)
    have hP : va_P (dC, dI) vwCl [(h0, .inr (3, [.ref h0_signs, .int size_, .int at_2])), (h0_signs, .inl (cyC, 240, .inl signs_))] H := hP
    have hD : va_D A [(h0, .inr (3, [.ref h0_signs, .int size_, .int at_2])), (h0_signs, .inl (cyC, 240, .inl signs_))] := hD
    refine lv_istore_n (lv' := [(3, .int r_1), (1, .int v1)]) hx hb dX0_readSeats_51 rfl hl (by decide) rfl (fun ls hl => ?_)
    refine lv_iload_n hx hb dX0_readSeats_52 rfl (lv_at hl 0 rfl) ?_
    refine lv_iconst (v := (-1)) hx hb dX0_readSeats_53 (by decide) ?_
    refine lv_icmp_ne (tgt := 61) hx hb dX0_readSeats_54 (by decide) (fun c_ => ?_) (fun c_ => ?_)
    · have h := (if_neg c_).symm.trans h
      refine lv_bipush (v := 10) hx hb dX0_readSeats_61 (by decide) ?_
      refine lv_iload_n hx hb dX0_readSeats_63 rfl (lv_at hl 1 rfl) ?_
      refine lv_imul hx hb dX0_readSeats_64 ?_
      refine lv_iload_n hx hb dX0_readSeats_65 rfl (lv_at hl 0 rfl) ?_
      refine lv_iadd hx hb dX0_readSeats_66 ?_
      have h : some ((((10 : Int32) * v1) + r_1), at_2) = some (rr, o0) := h
      have z0 := Option.some.inj h
      obtain ⟨rfl, z1⟩ := Prod.mk.inj z0
      obtain rfl := z1
      exact hret _ _ _ _ hP hS rfl dX0_readSeats_67
    · have h := (if_pos c_).symm.trans h
      refine lv_iload_n hx hb dX0_readSeats_57 rfl (lv_at hl 1 rfl) ?_
      refine lv_goto (tgt := 67) hx hb dX0_readSeats_58 (by decide) ?_
      have h : some (v1, at_2) = some (rr, o0) := h
      have z0 := Option.some.inj h
      obtain ⟨rfl, z1⟩ := Prod.mk.inj z0
      obtain rfl := z1
      exact hret _ _ _ _ hP hS rfl dX0_readSeats_67
  unfold m_X0_readSeats at h
  refine lv_aload_n hx hb dX0_readSeats_0 rfl (lv_at hl 0 rfl) ?_
  refine lv_iconst (v := 0) hx hb dX0_readSeats_1 (by decide) ?_
  obtain ⟨r_3, hq, h⟩ := bd1_some h
  refine uN_i (As := [.int 0]) (rest := [.ref h0]) ⟨hx, hb, hml, hown, hts⟩ (c_X5_digitsAbove l dC dI cyC cyI cyJ 0 r_3 hq) ⟨va_cnB 1 hts gX0_readSeats_X5_digitsAbove_n95 rfl rfl rfl (hE.2.1 ("OptionLattice$Plan", 95, ⟨"OptionLattice", "digitsAbove", "(I)I"⟩) (List.mem_of_getElem? (i := 6) rfl)) (hts (.initialized RX5) (by decide +kernel)) (by decide +kernel) ⟨Nat.le_of_ble_eq_true rfl, Nat.le_of_ble_eq_true rfl⟩, (hts (.static yX5_digitsAbove) (by decide +kernel)), trivial⟩ hK hE hA hP hD hS [] rfl rfl rfl rfl hl.1 rfl (Nat.le_of_ble_eq_true rfl) ⟨Nat.zero_le _, Nat.zero_le _⟩ dX0_readSeats_2 (fun H locs hP hD hS => ?_)
  have hP : va_P (dC, dI) vwCl [(h0, .inr (3, [.ref h0_signs, .int size_, .int at_])), (h0_signs, .inl (cyC, 240, .inl signs_))] H := hP
  have hD : va_D A [(h0, .inr (3, [.ref h0_signs, .int size_, .int at_])), (h0_signs, .inl (cyC, 240, .inl signs_))] := hD
  obtain ⟨r_4, at_5, hq, h⟩ := bd2_some h
  refine uV_i (b := h0) (As := [.int r_3]) (rest := []) ⟨hx, hb, hml, hown, hts⟩ (c_X3_takeDigit l dC dI cyC cyI cyJ h0 h0_signs size_ at_ signs_ r_3 r_4 at_5 hq) (cwV 1 hts gX0_readSeats_X3_takeDigit rfl rfl rfl (by decide +kernel) ⟨Nat.le_of_ble_eq_true rfl, Nat.le_of_ble_eq_true rfl⟩) hK hE hA hP hD hS [0, 1] rfl rfl rfl 3 0 rfl rfl rfl hl.1 rfl (Nat.le_of_ble_eq_true rfl) ⟨Nat.zero_le _, Nat.zero_le _⟩ dX0_readSeats_5 (fun H locs hP hD hS => ?_)
  have hP : va_P (dC, dI) vwCl [(h0, .inr (3, [.ref h0_signs, .int size_, .int at_5])), (h0_signs, .inl (cyC, 240, .inl signs_))] H := hP
  have hD : va_D A [(h0, .inr (3, [.ref h0_signs, .int size_, .int at_5])), (h0_signs, .inl (cyC, 240, .inl signs_))] := hD
  refine lv_istore_n (lv' := [(1, .int r_4), (0, .ref h0)]) hx hb dX0_readSeats_8 rfl hl (by decide) rfl (fun ls hl => ?_)
  refine lv_iload_n hx hb dX0_readSeats_9 rfl (lv_at hl 0 rfl) ?_
  refine lv_iconst (v := (-1)) hx hb dX0_readSeats_10 (by decide) ?_
  refine lv_icmp_ne (tgt := 16) hx hb dX0_readSeats_11 (by decide) (fun c_ => ?_) (fun c_ => ?_)
  · have h := (if_neg c_).symm.trans h
    refine lv_bipush (v := 9) hx hb dX0_readSeats_16 (by decide) ?_
    refine lv_bipush (v := 30) hx hb dX0_readSeats_18 (by decide) ?_
    refine lv_bipush (v := 10) hx hb dX0_readSeats_20 (by decide) ?_
    refine lv_iload_n hx hb dX0_readSeats_22 rfl (lv_at hl 0 rfl) ?_
    refine lv_imul hx hb dX0_readSeats_23 ?_
    refine lv_isub hx hb dX0_readSeats_24 ?_
    refine va_mmin hx hb (hml.trans hl.1.symm) hown (hts (.methodLink RX0 136 Lib.Math.min.name) (by decide +kernel)) (hts (.static Lib.Math.min.name) (by decide +kernel)) (hts (.initialized "java/lang/Math") (by decide +kernel)) (hts (.code Lib.Math.min.name Lib.Math.min.code 2 (some .int)) (by decide +kernel)) (Nat.le_of_ble_eq_true rfl) (Nat.le_of_ble_eq_true rfl) (Nat.le_of_ble_eq_true rfl) (Nat.le_of_ble_eq_true rfl) dX0_readSeats_25 ?_
    refine lv_topi (fun v2_6 e_v2_6 => ?_)
    have h := lt_use e_v2_6 h
    refine lv_istore_n (lv' := [(2, .int v2_6), (1, .int r_4), (0, .ref h0)]) hx hb dX0_readSeats_28 rfl hl (by decide) rfl (fun ls hl => ?_)
    refine lv_aload_n hx hb dX0_readSeats_29 rfl (lv_at hl 2 rfl) ?_
    refine lv_iload_n hx hb dX0_readSeats_30 rfl (lv_at hl 0 rfl) ?_
    refine lv_if_ge (tgt := 38) hx hb dX0_readSeats_31 (by decide) (fun c_ => ?_) (fun c_ => ?_)
    · have h := (if_pos c_).symm.trans h
      refine lv_sipush (v := 1023) hx hb dX0_readSeats_38 (by decide) ?_
      refine lv_iload_n hx hb dX0_readSeats_41 rfl (lv_at hl 0 rfl) ?_
      obtain ⟨r_7, hq, h⟩ := bd1_some h
      refine uN_i (As := [.int v2_6]) (rest := [.int 1023, .ref h0]) ⟨hx, hb, hml, hown, hts⟩ (c_X5_digitsAbove l dC dI cyC cyI cyJ v2_6 r_7 hq) ⟨va_cnB 1 hts gX0_readSeats_X5_digitsAbove_n95 rfl rfl rfl (hE.2.1 ("OptionLattice$Plan", 95, ⟨"OptionLattice", "digitsAbove", "(I)I"⟩) (List.mem_of_getElem? (i := 6) rfl)) (hts (.initialized RX5) (by decide +kernel)) (by decide +kernel) ⟨Nat.le_of_ble_eq_true rfl, Nat.le_of_ble_eq_true rfl⟩, (hts (.static yX5_digitsAbove) (by decide +kernel)), trivial⟩ hK hE hA hP hD hS [] rfl rfl rfl rfl hl.1 rfl (Nat.le_of_ble_eq_true rfl) ⟨Nat.zero_le _, Nat.zero_le _⟩ dX0_readSeats_42 (fun H locs hP hD hS => ?_)
      have hP : va_P (dC, dI) vwCl [(h0, .inr (3, [.ref h0_signs, .int size_, .int at_5])), (h0_signs, .inl (cyC, 240, .inl signs_))] H := hP
      have hD : va_D A [(h0, .inr (3, [.ref h0_signs, .int size_, .int at_5])), (h0_signs, .inl (cyC, 240, .inl signs_))] := hD
      refine lv_iconst (v := (-1)) hx hb dX0_readSeats_45 (by decide) ?_
      refine lv_ixor hx hb dX0_readSeats_46 ?_
      refine lv_iand hx hb dX0_readSeats_47 ?_
      exact J48 r_4 ((1023 : Int32) &&& (r_7 ^^^ (-1))) at_5 h _ _ _ hP hD hS (lv_sub hl [1] rfl)
    · have h := (if_neg c_).symm.trans h
      refine lv_iconst (v := 0) hx hb dX0_readSeats_34 (by decide) ?_
      refine lv_goto (tgt := 48) hx hb dX0_readSeats_35 (by decide) ?_
      exact J48 r_4 0 at_5 h _ _ _ hP hD hS (lv_sub hl [1] rfl)
  · have h := (if_pos c_).symm.trans h
    refine lv_iconst (v := (-1)) hx hb dX0_readSeats_14 (by decide) ?_
    have h : some ((-1), at_5) = some (rr, o0) := h
    have z0 := Option.some.inj h
    obtain ⟨rfl, z1⟩ := Prod.mk.inj z0
    obtain rfl := z1
    exact hret _ _ _ _ hP hS rfl dX0_readSeats_15

def m_X0_readSection_107 (size_ : Int32) (subjectOf_ : Nat → Int32) (teacherOf_ : Nat → Int32) (seatsOf_ : Nat → Int32) (columnOf_ : Nat → Int32) (columnsWith_ : Nat → Int32) (a1_at_ : Int32) (v2 : Int32) (v3 : Int32) (v4 : Int32) (v5 : Int32) : Option (Int32 × Int32 × (Nat → Int32) × (Nat → Int32) × (Nat → Int32) × (Nat → Int32) × (Nat → Int32) × Int32) :=
  bd6 (m_X0_add size_ subjectOf_ teacherOf_ seatsOf_ columnOf_ columnsWith_ v2 v3 v4 v5) (fun size_1 subjectOf_2 teacherOf_3 seatsOf_4 columnOf_5 columnsWith_6 => some (1, size_1, subjectOf_2, teacherOf_3, seatsOf_4, columnOf_5, columnsWith_6, a1_at_))
def m_X0_readSection_17 (columnCount_ : Int32) (roomCount_ : Int32) (size_ : Int32) (barsOf_ : Nat → Int32) (subjectOf_ : Nat → Int32) (teacherOf_ : Nat → Int32) (seatsOf_ : Nat → Int32) (columnOf_ : Nat → Int32) (columnsWith_ : Nat → Int32) (a1_size_ : Int32) (a1_at_ : Int32) (a1_signs_ : Nat → Int32) (t1 : Int32) : Option (Int32 × Int32 × (Nat → Int32) × (Nat → Int32) × (Nat → Int32) × (Nat → Int32) × (Nat → Int32) × Int32) :=
  bd2 (m_X3_takeDigit a1_size_ a1_at_ a1_signs_ t1) (fun r_7 a1_at_8 => (if r_7 = (-1) then some (0, size_, subjectOf_, teacherOf_, seatsOf_, columnOf_, columnsWith_, a1_at_8) else bd2 (m_X3_takeSign a1_size_ a1_at_8 a1_signs_ 116) (fun r_9 a1_at_10 => (if r_9 = 0 then some (0, size_, subjectOf_, teacherOf_, seatsOf_, columnOf_, columnsWith_, a1_at_10) else bd2 (m_X3_takeDigit a1_size_ a1_at_10 a1_signs_ 1023) (fun r_11 a1_at_12 => (if r_11 = (-1) then some (0, size_, subjectOf_, teacherOf_, seatsOf_, columnOf_, columnsWith_, a1_at_12) else bd2 (m_X3_takeSign a1_size_ a1_at_12 a1_signs_ 122) (fun r_13 a1_at_14 => (if r_13 = 0 then some (0, size_, subjectOf_, teacherOf_, seatsOf_, columnOf_, columnsWith_, a1_at_14) else bd2 (m_X0_readSeats a1_size_ a1_at_14 a1_signs_) (fun r_15 a1_at_16 => (if r_15 = (-1) then some (0, size_, subjectOf_, teacherOf_, seatsOf_, columnOf_, columnsWith_, a1_at_16) else bd2 (m_X3_takeSign a1_size_ a1_at_16 a1_signs_ 64) (fun r_17 a1_at_18 => (if r_17 = 0 then m_X0_readSection_107 size_ subjectOf_ teacherOf_ seatsOf_ columnOf_ columnsWith_ a1_at_18 r_7 r_11 r_15 (-1) else bd1 (m_X0_lawfulColumns columnCount_ roomCount_ size_ barsOf_ teacherOf_ columnOf_ (-1) r_11) (fun r_19 => bd2 (m_X3_takeDigit a1_size_ a1_at_18 a1_signs_ r_19) (fun r_20 a1_at_21 => (if r_20 = (-1) then some (0, size_, subjectOf_, teacherOf_, seatsOf_, columnOf_, columnsWith_, a1_at_21) else m_X0_readSection_107 size_ subjectOf_ teacherOf_ seatsOf_ columnOf_ columnsWith_ a1_at_21 r_7 r_11 r_15 r_20)))))))))))))))
def m_X0_readSection (columnCount_ : Int32) (roomCount_ : Int32) (size_ : Int32) (barsOf_ : Nat → Int32) (subjectOf_ : Nat → Int32) (teacherOf_ : Nat → Int32) (seatsOf_ : Nat → Int32) (columnOf_ : Nat → Int32) (columnsWith_ : Nat → Int32) (a1_size_ : Int32) (a1_at_ : Int32) (a1_signs_ : Nat → Int32) : Option (Int32 × Int32 × (Nat → Int32) × (Nat → Int32) × (Nat → Int32) × (Nat → Int32) × (Nat → Int32) × Int32) :=
  (if 16 ≤ size_ then m_X0_readSection_17 columnCount_ roomCount_ size_ barsOf_ subjectOf_ teacherOf_ seatsOf_ columnOf_ columnsWith_ a1_size_ a1_at_ a1_signs_ 0 else m_X0_readSection_17 columnCount_ roomCount_ size_ barsOf_ subjectOf_ teacherOf_ seatsOf_ columnOf_ columnsWith_ a1_size_ a1_at_ a1_signs_ 1023)
abbrev rmX0_readSection : Room := { frames := 3, cells := 0, slots := 0, locals := 71 }
set_option maxHeartbeats 4000000 in
set_option maxRecDepth 100000 in
theorem c_X0_readSection (l : Launch) (dC : Nat → ClassId) (dI : Nat → Nat → Nat) (cyC cyI cyJ : ClassId) (h0 h0_barsOf h0_subjectOf h0_teacherOf h0_seatsOf h0_columnOf h0_columnsWith h1 h1_signs : Nat) (columnCount_ : Int32) (roomCount_ : Int32) (size_ : Int32) (barsOf_ : Nat → Int32) (subjectOf_ : Nat → Int32) (teacherOf_ : Nat → Int32) (seatsOf_ : Nat → Int32) (columnOf_ : Nat → Int32) (columnsWith_ : Nat → Int32) (a1_size_ : Int32) (a1_at_ : Int32) (a1_signs_ : Nat → Int32) (rr : Int32) (o0 : Int32) (o1 : Nat → Int32) (o2 : Nat → Int32) (o3 : Nat → Int32) (o4 : Nat → Int32) (o5 : Nat → Int32) (o6 : Int32) (h : m_X0_readSection columnCount_ roomCount_ size_ barsOf_ subjectOf_ teacherOf_ seatsOf_ columnOf_ columnsWith_ a1_size_ a1_at_ a1_signs_ = some (rr, o0, o1, o2, o3, o4, o5, o6)) : uMi l yX0_readSection wsX0_readSection rmX0_readSection (dC, dI) [(cyC, .char), (cyI, .int), (cyJ, .long)] [.ref h0, .ref h1] [(h0, .inr (0, [.int columnCount_, .int roomCount_, .int size_, .ref h0_barsOf, .ref h0_subjectOf, .ref h0_teacherOf, .ref h0_seatsOf, .ref h0_columnOf, .ref h0_columnsWith])), (h0_barsOf, .inl (cyI, 10, .inl barsOf_)), (h0_subjectOf, .inl (cyI, 16, .inl subjectOf_)), (h0_teacherOf, .inl (cyI, 16, .inl teacherOf_)), (h0_seatsOf, .inl (cyI, 16, .inl seatsOf_)), (h0_columnOf, .inl (cyI, 16, .inl columnOf_)), (h0_columnsWith, .inl (cyI, 10, .inl columnsWith_)), (h1, .inr (3, [.ref h1_signs, .int a1_size_, .int a1_at_])), (h1_signs, .inl (cyC, 240, .inl a1_signs_))] [(h0, .inr (0, [.int columnCount_, .int roomCount_, .int o0, .ref h0_barsOf, .ref h0_subjectOf, .ref h0_teacherOf, .ref h0_seatsOf, .ref h0_columnOf, .ref h0_columnsWith])), (h0_barsOf, .inl (cyI, 10, .inl barsOf_)), (h0_subjectOf, .inl (cyI, 16, .inl o1)), (h0_teacherOf, .inl (cyI, 16, .inl o2)), (h0_seatsOf, .inl (cyI, 16, .inl o3)), (h0_columnOf, .inl (cyI, 16, .inl o4)), (h0_columnsWith, .inl (cyI, 10, .inl o5)), (h1, .inr (3, [.ref h1_signs, .int a1_size_, .int o6])), (h1_signs, .inl (cyC, 240, .inl a1_signs_))] rr := by
  refine uMi.of (cc := cX0_readSection) (maxL := 6) (by decide) rfl (Nat.le_of_ble_eq_true rfl) (fun p e s m args below meth c A ls Q hx hb hml hown hts hA hP hK hD hE hS hl hret => ?_)
  have hown : s.vm.findClass RX0 = some m.cls := hown
  have hl : lv_has ls 6 [(0, .ref h0), (1, .ref h1)] := hl
  have hiX0 : ∀ w ∈ u_ws RX0 TX0 9, w ∈ wsX0_readSection := fun _ h9 => List.mem_cons_of_mem _ (List.mem_append_left _ (List.mem_append_right _ h9))
  have J107 : ∀ (v2 : Int32), ∀ (v3 : Int32), ∀ (v4 : Int32), ∀ (v5 : Int32), ∀ (a1_at_ : Int32), m_X0_readSection_107 size_ subjectOf_ teacherOf_ seatsOf_ columnOf_ columnsWith_ a1_at_ v2 v3 v4 v5 = some (rr, o0, o1, o2, o3, o4, o5, o6) → ∀ (H : Heap) (locs : List Loc) (ls : Array Slot), va_P (dC, dI) vwCl [(h0, .inr (0, [.int columnCount_, .int roomCount_, .int size_, .ref h0_barsOf, .ref h0_subjectOf, .ref h0_teacherOf, .ref h0_seatsOf, .ref h0_columnOf, .ref h0_columnsWith])), (h0_barsOf, .inl (cyI, 10, .inl barsOf_)), (h0_subjectOf, .inl (cyI, 16, .inl subjectOf_)), (h0_teacherOf, .inl (cyI, 16, .inl teacherOf_)), (h0_seatsOf, .inl (cyI, 16, .inl seatsOf_)), (h0_columnOf, .inl (cyI, 16, .inl columnOf_)), (h0_columnsWith, .inl (cyI, 10, .inl columnsWith_)), (h1, .inr (3, [.ref h1_signs, .int a1_size_, .int a1_at_])), (h1_signs, .inl (cyC, 240, .inl a1_signs_))] H → va_D A [(h0, .inr (0, [.int columnCount_, .int roomCount_, .int size_, .ref h0_barsOf, .ref h0_subjectOf, .ref h0_teacherOf, .ref h0_seatsOf, .ref h0_columnOf, .ref h0_columnsWith])), (h0_barsOf, .inl (cyI, 10, .inl barsOf_)), (h0_subjectOf, .inl (cyI, 16, .inl subjectOf_)), (h0_teacherOf, .inl (cyI, 16, .inl teacherOf_)), (h0_seatsOf, .inl (cyI, 16, .inl seatsOf_)), (h0_columnOf, .inl (cyI, 16, .inl columnOf_)), (h0_columnsWith, .inl (cyI, 10, .inl columnsWith_)), (h1, .inr (3, [.ref h1_signs, .int a1_size_, .int a1_at_])), (h1_signs, .inl (cyC, 240, .inl a1_signs_))] → va_S A s.heap H locs → lv_has ls 6 [(0, .ref h0), (2, .int v2), (3, .int v3), (4, .int v4), (5, .int v5)] → W p l e rmX0_readSection s m args below meth c H locs 0 0 Q (F0 m 107 ls []) := by
    intro v2 v3 v4 v5 a1_at_ h H locs ls hP hD hS hl
    unfold m_X0_readSection_107 at h
    refine lv_aload_n hx hb dX0_readSection_107 rfl (lv_at hl 0 rfl) ?_
    refine lv_iload_n hx hb dX0_readSection_108 rfl (lv_at hl 1 rfl) ?_
    refine lv_iload_n hx hb dX0_readSection_109 rfl (lv_at hl 2 rfl) ?_
    refine lv_iload hx hb dX0_readSection_110 (lv_at hl 3 rfl) ?_
    refine lv_iload hx hb dX0_readSection_112 (lv_at hl 4 rfl) ?_
    obtain ⟨size_1, subjectOf_2, teacherOf_3, seatsOf_4, columnOf_5, columnsWith_6, hq, h⟩ := bd6_some h
    refine uV_v (b := h0) (As := [.int v2, .int v3, .int v4, .int v5]) (rest := []) ⟨hx, hb, hml, hown, hts⟩ (c_X0_add l dC dI cyC cyI cyJ h0 h0_barsOf h0_subjectOf h0_teacherOf h0_seatsOf h0_columnOf h0_columnsWith columnCount_ roomCount_ size_ subjectOf_ teacherOf_ seatsOf_ columnOf_ columnsWith_ v2 v3 v4 v5 size_1 subjectOf_2 teacherOf_3 seatsOf_4 columnOf_5 columnsWith_6 hq) (cwV 4 hts gX0_readSection_X0_add rfl rfl rfl (by decide +kernel) ⟨Nat.le_of_ble_eq_true rfl, Nat.le_of_ble_eq_true rfl⟩) hK hE hA hP hD hS [0, 2, 3, 4, 5, 6] rfl rfl rfl 0 0 rfl rfl rfl hl.1 rfl (Nat.le_of_ble_eq_true rfl) ⟨Nat.zero_le _, Nat.zero_le _⟩ dX0_readSection_114 (fun H locs hP hD hS => ?_)
    have hP : va_P (dC, dI) vwCl [(h0, .inr (0, [.int columnCount_, .int roomCount_, .int size_1, .ref h0_barsOf, .ref h0_subjectOf, .ref h0_teacherOf, .ref h0_seatsOf, .ref h0_columnOf, .ref h0_columnsWith])), (h0_barsOf, .inl (cyI, 10, .inl barsOf_)), (h0_subjectOf, .inl (cyI, 16, .inl subjectOf_2)), (h0_teacherOf, .inl (cyI, 16, .inl teacherOf_3)), (h0_seatsOf, .inl (cyI, 16, .inl seatsOf_4)), (h0_columnOf, .inl (cyI, 16, .inl columnOf_5)), (h0_columnsWith, .inl (cyI, 10, .inl columnsWith_6)), (h1, .inr (3, [.ref h1_signs, .int a1_size_, .int a1_at_])), (h1_signs, .inl (cyC, 240, .inl a1_signs_))] H := hP
    have hD : va_D A [(h0, .inr (0, [.int columnCount_, .int roomCount_, .int size_1, .ref h0_barsOf, .ref h0_subjectOf, .ref h0_teacherOf, .ref h0_seatsOf, .ref h0_columnOf, .ref h0_columnsWith])), (h0_barsOf, .inl (cyI, 10, .inl barsOf_)), (h0_subjectOf, .inl (cyI, 16, .inl subjectOf_2)), (h0_teacherOf, .inl (cyI, 16, .inl teacherOf_3)), (h0_seatsOf, .inl (cyI, 16, .inl seatsOf_4)), (h0_columnOf, .inl (cyI, 16, .inl columnOf_5)), (h0_columnsWith, .inl (cyI, 10, .inl columnsWith_6)), (h1, .inr (3, [.ref h1_signs, .int a1_size_, .int a1_at_])), (h1_signs, .inl (cyC, 240, .inl a1_signs_))] := hD
    refine lv_iconst (v := 1) hx hb dX0_readSection_117 (by decide) ?_
    have h : some (1, size_1, subjectOf_2, teacherOf_3, seatsOf_4, columnOf_5, columnsWith_6, a1_at_) = some (rr, o0, o1, o2, o3, o4, o5, o6) := h
    have z0 := Option.some.inj h
    obtain ⟨rfl, z1⟩ := Prod.mk.inj z0
    obtain ⟨rfl, z2⟩ := Prod.mk.inj z1
    obtain ⟨rfl, z3⟩ := Prod.mk.inj z2
    obtain ⟨rfl, z4⟩ := Prod.mk.inj z3
    obtain ⟨rfl, z5⟩ := Prod.mk.inj z4
    obtain ⟨rfl, z6⟩ := Prod.mk.inj z5
    obtain ⟨rfl, z7⟩ := Prod.mk.inj z6
    obtain rfl := z7
    exact hret _ _ _ _ hP hS rfl dX0_readSection_118
  have J17 : ∀ (t1 : Int32), m_X0_readSection_17 columnCount_ roomCount_ size_ barsOf_ subjectOf_ teacherOf_ seatsOf_ columnOf_ columnsWith_ a1_size_ a1_at_ a1_signs_ t1 = some (rr, o0, o1, o2, o3, o4, o5, o6) → ∀ (H : Heap) (locs : List Loc) (ls : Array Slot), va_P (dC, dI) vwCl [(h0, .inr (0, [.int columnCount_, .int roomCount_, .int size_, .ref h0_barsOf, .ref h0_subjectOf, .ref h0_teacherOf, .ref h0_seatsOf, .ref h0_columnOf, .ref h0_columnsWith])), (h0_barsOf, .inl (cyI, 10, .inl barsOf_)), (h0_subjectOf, .inl (cyI, 16, .inl subjectOf_)), (h0_teacherOf, .inl (cyI, 16, .inl teacherOf_)), (h0_seatsOf, .inl (cyI, 16, .inl seatsOf_)), (h0_columnOf, .inl (cyI, 16, .inl columnOf_)), (h0_columnsWith, .inl (cyI, 10, .inl columnsWith_)), (h1, .inr (3, [.ref h1_signs, .int a1_size_, .int a1_at_])), (h1_signs, .inl (cyC, 240, .inl a1_signs_))] H → va_D A [(h0, .inr (0, [.int columnCount_, .int roomCount_, .int size_, .ref h0_barsOf, .ref h0_subjectOf, .ref h0_teacherOf, .ref h0_seatsOf, .ref h0_columnOf, .ref h0_columnsWith])), (h0_barsOf, .inl (cyI, 10, .inl barsOf_)), (h0_subjectOf, .inl (cyI, 16, .inl subjectOf_)), (h0_teacherOf, .inl (cyI, 16, .inl teacherOf_)), (h0_seatsOf, .inl (cyI, 16, .inl seatsOf_)), (h0_columnOf, .inl (cyI, 16, .inl columnOf_)), (h0_columnsWith, .inl (cyI, 10, .inl columnsWith_)), (h1, .inr (3, [.ref h1_signs, .int a1_size_, .int a1_at_])), (h1_signs, .inl (cyC, 240, .inl a1_signs_))] → va_S A s.heap H locs → lv_has ls 6 [(0, .ref h0), (1, .ref h1)] → W p l e rmX0_readSection s m args below meth c H locs 0 0 Q (F0 m 17 ls [.int t1, .ref h1]) := by
    intro t1 h H locs ls hP hD hS hl
    unfold m_X0_readSection_17 at h
    obtain ⟨r_7, a1_at_8, hq, h⟩ := bd2_some h
    refine uV_i (b := h1) (As := [.int t1]) (rest := []) ⟨hx, hb, hml, hown, hts⟩ (c_X3_takeDigit l dC dI cyC cyI cyJ h1 h1_signs a1_size_ a1_at_ a1_signs_ t1 r_7 a1_at_8 hq) (cwV 1 hts gX0_readSection_X3_takeDigit rfl rfl rfl (by decide +kernel) ⟨Nat.le_of_ble_eq_true rfl, Nat.le_of_ble_eq_true rfl⟩) hK hE hA hP hD hS [7, 8] rfl rfl rfl 3 0 rfl rfl rfl hl.1 rfl (Nat.le_of_ble_eq_true rfl) ⟨Nat.zero_le _, Nat.zero_le _⟩ dX0_readSection_17 (fun H locs hP hD hS => ?_)
    have hP : va_P (dC, dI) vwCl [(h0, .inr (0, [.int columnCount_, .int roomCount_, .int size_, .ref h0_barsOf, .ref h0_subjectOf, .ref h0_teacherOf, .ref h0_seatsOf, .ref h0_columnOf, .ref h0_columnsWith])), (h0_barsOf, .inl (cyI, 10, .inl barsOf_)), (h0_subjectOf, .inl (cyI, 16, .inl subjectOf_)), (h0_teacherOf, .inl (cyI, 16, .inl teacherOf_)), (h0_seatsOf, .inl (cyI, 16, .inl seatsOf_)), (h0_columnOf, .inl (cyI, 16, .inl columnOf_)), (h0_columnsWith, .inl (cyI, 10, .inl columnsWith_)), (h1, .inr (3, [.ref h1_signs, .int a1_size_, .int a1_at_8])), (h1_signs, .inl (cyC, 240, .inl a1_signs_))] H := hP
    have hD : va_D A [(h0, .inr (0, [.int columnCount_, .int roomCount_, .int size_, .ref h0_barsOf, .ref h0_subjectOf, .ref h0_teacherOf, .ref h0_seatsOf, .ref h0_columnOf, .ref h0_columnsWith])), (h0_barsOf, .inl (cyI, 10, .inl barsOf_)), (h0_subjectOf, .inl (cyI, 16, .inl subjectOf_)), (h0_teacherOf, .inl (cyI, 16, .inl teacherOf_)), (h0_seatsOf, .inl (cyI, 16, .inl seatsOf_)), (h0_columnOf, .inl (cyI, 16, .inl columnOf_)), (h0_columnsWith, .inl (cyI, 10, .inl columnsWith_)), (h1, .inr (3, [.ref h1_signs, .int a1_size_, .int a1_at_8])), (h1_signs, .inl (cyC, 240, .inl a1_signs_))] := hD
    refine lv_istore_n (lv' := [(2, .int r_7), (0, .ref h0), (1, .ref h1)]) hx hb dX0_readSection_20 rfl hl (by decide) rfl (fun ls hl => ?_)
    refine lv_iload_n hx hb dX0_readSection_21 rfl (lv_at hl 0 rfl) ?_
    refine lv_iconst (v := (-1)) hx hb dX0_readSection_22 (by decide) ?_
    refine lv_icmp_eq (tgt := 35) hx hb dX0_readSection_23 (by decide) (fun c_ => ?_) (fun c_ => ?_)
    · have h := (if_pos c_).symm.trans h
      refine lv_iconst (v := 0) hx hb dX0_readSection_35 (by decide) ?_
      have h : some (0, size_, subjectOf_, teacherOf_, seatsOf_, columnOf_, columnsWith_, a1_at_8) = some (rr, o0, o1, o2, o3, o4, o5, o6) := h
      have z0 := Option.some.inj h
      obtain ⟨rfl, z1⟩ := Prod.mk.inj z0
      obtain ⟨rfl, z2⟩ := Prod.mk.inj z1
      obtain ⟨rfl, z3⟩ := Prod.mk.inj z2
      obtain ⟨rfl, z4⟩ := Prod.mk.inj z3
      obtain ⟨rfl, z5⟩ := Prod.mk.inj z4
      obtain ⟨rfl, z6⟩ := Prod.mk.inj z5
      obtain ⟨rfl, z7⟩ := Prod.mk.inj z6
      obtain rfl := z7
      exact hret _ _ _ _ hP hS rfl dX0_readSection_36
    · have h := (if_neg c_).symm.trans h
      refine lv_aload_n hx hb dX0_readSection_26 rfl (lv_at hl 2 rfl) ?_
      refine lv_bipush (v := 116) hx hb dX0_readSection_27 (by decide) ?_
      obtain ⟨r_9, a1_at_10, hq, h⟩ := bd2_some h
      refine uV_i (b := h1) (As := [.int 116]) (rest := []) ⟨hx, hb, hml, hown, hts⟩ (c_X3_takeSign l dC dI cyC cyI cyJ h1 h1_signs a1_size_ a1_at_8 a1_signs_ 116 r_9 a1_at_10 hq) (cwV 1 hts gX0_readSection_X3_takeSign rfl rfl rfl (by decide +kernel) ⟨Nat.le_of_ble_eq_true rfl, Nat.le_of_ble_eq_true rfl⟩) hK hE hA hP hD hS [7, 8] rfl rfl rfl 3 0 rfl rfl rfl hl.1 rfl (Nat.le_of_ble_eq_true rfl) ⟨Nat.zero_le _, Nat.zero_le _⟩ dX0_readSection_29 (fun H locs hP hD hS => ?_)
      have hP : va_P (dC, dI) vwCl [(h0, .inr (0, [.int columnCount_, .int roomCount_, .int size_, .ref h0_barsOf, .ref h0_subjectOf, .ref h0_teacherOf, .ref h0_seatsOf, .ref h0_columnOf, .ref h0_columnsWith])), (h0_barsOf, .inl (cyI, 10, .inl barsOf_)), (h0_subjectOf, .inl (cyI, 16, .inl subjectOf_)), (h0_teacherOf, .inl (cyI, 16, .inl teacherOf_)), (h0_seatsOf, .inl (cyI, 16, .inl seatsOf_)), (h0_columnOf, .inl (cyI, 16, .inl columnOf_)), (h0_columnsWith, .inl (cyI, 10, .inl columnsWith_)), (h1, .inr (3, [.ref h1_signs, .int a1_size_, .int a1_at_10])), (h1_signs, .inl (cyC, 240, .inl a1_signs_))] H := hP
      have hD : va_D A [(h0, .inr (0, [.int columnCount_, .int roomCount_, .int size_, .ref h0_barsOf, .ref h0_subjectOf, .ref h0_teacherOf, .ref h0_seatsOf, .ref h0_columnOf, .ref h0_columnsWith])), (h0_barsOf, .inl (cyI, 10, .inl barsOf_)), (h0_subjectOf, .inl (cyI, 16, .inl subjectOf_)), (h0_teacherOf, .inl (cyI, 16, .inl teacherOf_)), (h0_seatsOf, .inl (cyI, 16, .inl seatsOf_)), (h0_columnOf, .inl (cyI, 16, .inl columnOf_)), (h0_columnsWith, .inl (cyI, 10, .inl columnsWith_)), (h1, .inr (3, [.ref h1_signs, .int a1_size_, .int a1_at_10])), (h1_signs, .inl (cyC, 240, .inl a1_signs_))] := hD
      refine lv_if_ne (tgt := 37) hx hb dX0_readSection_32 (by decide) (fun c_ => ?_) (fun c_ => ?_)
      · have h := (if_neg c_).symm.trans h
        refine lv_aload_n hx hb dX0_readSection_37 rfl (lv_at hl 2 rfl) ?_
        refine lv_sipush (v := 1023) hx hb dX0_readSection_38 (by decide) ?_
        obtain ⟨r_11, a1_at_12, hq, h⟩ := bd2_some h
        refine uV_i (b := h1) (As := [.int 1023]) (rest := []) ⟨hx, hb, hml, hown, hts⟩ (c_X3_takeDigit l dC dI cyC cyI cyJ h1 h1_signs a1_size_ a1_at_10 a1_signs_ 1023 r_11 a1_at_12 hq) (cwV 1 hts gX0_readSection_X3_takeDigit rfl rfl rfl (by decide +kernel) ⟨Nat.le_of_ble_eq_true rfl, Nat.le_of_ble_eq_true rfl⟩) hK hE hA hP hD hS [7, 8] rfl rfl rfl 3 0 rfl rfl rfl hl.1 rfl (Nat.le_of_ble_eq_true rfl) ⟨Nat.zero_le _, Nat.zero_le _⟩ dX0_readSection_41 (fun H locs hP hD hS => ?_)
        have hP : va_P (dC, dI) vwCl [(h0, .inr (0, [.int columnCount_, .int roomCount_, .int size_, .ref h0_barsOf, .ref h0_subjectOf, .ref h0_teacherOf, .ref h0_seatsOf, .ref h0_columnOf, .ref h0_columnsWith])), (h0_barsOf, .inl (cyI, 10, .inl barsOf_)), (h0_subjectOf, .inl (cyI, 16, .inl subjectOf_)), (h0_teacherOf, .inl (cyI, 16, .inl teacherOf_)), (h0_seatsOf, .inl (cyI, 16, .inl seatsOf_)), (h0_columnOf, .inl (cyI, 16, .inl columnOf_)), (h0_columnsWith, .inl (cyI, 10, .inl columnsWith_)), (h1, .inr (3, [.ref h1_signs, .int a1_size_, .int a1_at_12])), (h1_signs, .inl (cyC, 240, .inl a1_signs_))] H := hP
        have hD : va_D A [(h0, .inr (0, [.int columnCount_, .int roomCount_, .int size_, .ref h0_barsOf, .ref h0_subjectOf, .ref h0_teacherOf, .ref h0_seatsOf, .ref h0_columnOf, .ref h0_columnsWith])), (h0_barsOf, .inl (cyI, 10, .inl barsOf_)), (h0_subjectOf, .inl (cyI, 16, .inl subjectOf_)), (h0_teacherOf, .inl (cyI, 16, .inl teacherOf_)), (h0_seatsOf, .inl (cyI, 16, .inl seatsOf_)), (h0_columnOf, .inl (cyI, 16, .inl columnOf_)), (h0_columnsWith, .inl (cyI, 10, .inl columnsWith_)), (h1, .inr (3, [.ref h1_signs, .int a1_size_, .int a1_at_12])), (h1_signs, .inl (cyC, 240, .inl a1_signs_))] := hD
        refine lv_istore_n (lv' := [(3, .int r_11), (2, .int r_7), (0, .ref h0), (1, .ref h1)]) hx hb dX0_readSection_44 rfl hl (by decide) rfl (fun ls hl => ?_)
        refine lv_iload_n hx hb dX0_readSection_45 rfl (lv_at hl 0 rfl) ?_
        refine lv_iconst (v := (-1)) hx hb dX0_readSection_46 (by decide) ?_
        refine lv_icmp_eq (tgt := 59) hx hb dX0_readSection_47 (by decide) (fun c_ => ?_) (fun c_ => ?_)
        · have h := (if_pos c_).symm.trans h
          refine lv_iconst (v := 0) hx hb dX0_readSection_59 (by decide) ?_
          have h : some (0, size_, subjectOf_, teacherOf_, seatsOf_, columnOf_, columnsWith_, a1_at_12) = some (rr, o0, o1, o2, o3, o4, o5, o6) := h
          have z0 := Option.some.inj h
          obtain ⟨rfl, z1⟩ := Prod.mk.inj z0
          obtain ⟨rfl, z2⟩ := Prod.mk.inj z1
          obtain ⟨rfl, z3⟩ := Prod.mk.inj z2
          obtain ⟨rfl, z4⟩ := Prod.mk.inj z3
          obtain ⟨rfl, z5⟩ := Prod.mk.inj z4
          obtain ⟨rfl, z6⟩ := Prod.mk.inj z5
          obtain ⟨rfl, z7⟩ := Prod.mk.inj z6
          obtain rfl := z7
          exact hret _ _ _ _ hP hS rfl dX0_readSection_60
        · have h := (if_neg c_).symm.trans h
          refine lv_aload_n hx hb dX0_readSection_50 rfl (lv_at hl 3 rfl) ?_
          refine lv_bipush (v := 122) hx hb dX0_readSection_51 (by decide) ?_
          obtain ⟨r_13, a1_at_14, hq, h⟩ := bd2_some h
          refine uV_i (b := h1) (As := [.int 122]) (rest := []) ⟨hx, hb, hml, hown, hts⟩ (c_X3_takeSign l dC dI cyC cyI cyJ h1 h1_signs a1_size_ a1_at_12 a1_signs_ 122 r_13 a1_at_14 hq) (cwV 1 hts gX0_readSection_X3_takeSign rfl rfl rfl (by decide +kernel) ⟨Nat.le_of_ble_eq_true rfl, Nat.le_of_ble_eq_true rfl⟩) hK hE hA hP hD hS [7, 8] rfl rfl rfl 3 0 rfl rfl rfl hl.1 rfl (Nat.le_of_ble_eq_true rfl) ⟨Nat.zero_le _, Nat.zero_le _⟩ dX0_readSection_53 (fun H locs hP hD hS => ?_)
          have hP : va_P (dC, dI) vwCl [(h0, .inr (0, [.int columnCount_, .int roomCount_, .int size_, .ref h0_barsOf, .ref h0_subjectOf, .ref h0_teacherOf, .ref h0_seatsOf, .ref h0_columnOf, .ref h0_columnsWith])), (h0_barsOf, .inl (cyI, 10, .inl barsOf_)), (h0_subjectOf, .inl (cyI, 16, .inl subjectOf_)), (h0_teacherOf, .inl (cyI, 16, .inl teacherOf_)), (h0_seatsOf, .inl (cyI, 16, .inl seatsOf_)), (h0_columnOf, .inl (cyI, 16, .inl columnOf_)), (h0_columnsWith, .inl (cyI, 10, .inl columnsWith_)), (h1, .inr (3, [.ref h1_signs, .int a1_size_, .int a1_at_14])), (h1_signs, .inl (cyC, 240, .inl a1_signs_))] H := hP
          have hD : va_D A [(h0, .inr (0, [.int columnCount_, .int roomCount_, .int size_, .ref h0_barsOf, .ref h0_subjectOf, .ref h0_teacherOf, .ref h0_seatsOf, .ref h0_columnOf, .ref h0_columnsWith])), (h0_barsOf, .inl (cyI, 10, .inl barsOf_)), (h0_subjectOf, .inl (cyI, 16, .inl subjectOf_)), (h0_teacherOf, .inl (cyI, 16, .inl teacherOf_)), (h0_seatsOf, .inl (cyI, 16, .inl seatsOf_)), (h0_columnOf, .inl (cyI, 16, .inl columnOf_)), (h0_columnsWith, .inl (cyI, 10, .inl columnsWith_)), (h1, .inr (3, [.ref h1_signs, .int a1_size_, .int a1_at_14])), (h1_signs, .inl (cyC, 240, .inl a1_signs_))] := hD
          refine lv_if_ne (tgt := 61) hx hb dX0_readSection_56 (by decide) (fun c_ => ?_) (fun c_ => ?_)
          · have h := (if_neg c_).symm.trans h
            refine lv_aload_n hx hb dX0_readSection_61 rfl (lv_at hl 3 rfl) ?_
            obtain ⟨r_15, a1_at_16, hq, h⟩ := bd2_some h
            refine uS_i (As := [.ref h1]) (rest := []) ⟨hx, hb, hml, hown, hts⟩ (c_X0_readSeats l dC dI cyC cyI cyJ h1 h1_signs a1_size_ a1_at_14 a1_signs_ r_15 a1_at_16 hq) (va_cwS 1 hts gX0_readSection_X0_readSeats rfl rfl rfl (by decide +kernel) ⟨Nat.le_of_ble_eq_true rfl, Nat.le_of_ble_eq_true rfl⟩) hK hE hA hP hD hS [7, 8] rfl rfl rfl rfl hl.1 rfl (Nat.le_of_ble_eq_true rfl) ⟨Nat.zero_le _, Nat.zero_le _⟩ dX0_readSection_62 (fun H locs hP hD hS => ?_)
            have hP : va_P (dC, dI) vwCl [(h0, .inr (0, [.int columnCount_, .int roomCount_, .int size_, .ref h0_barsOf, .ref h0_subjectOf, .ref h0_teacherOf, .ref h0_seatsOf, .ref h0_columnOf, .ref h0_columnsWith])), (h0_barsOf, .inl (cyI, 10, .inl barsOf_)), (h0_subjectOf, .inl (cyI, 16, .inl subjectOf_)), (h0_teacherOf, .inl (cyI, 16, .inl teacherOf_)), (h0_seatsOf, .inl (cyI, 16, .inl seatsOf_)), (h0_columnOf, .inl (cyI, 16, .inl columnOf_)), (h0_columnsWith, .inl (cyI, 10, .inl columnsWith_)), (h1, .inr (3, [.ref h1_signs, .int a1_size_, .int a1_at_16])), (h1_signs, .inl (cyC, 240, .inl a1_signs_))] H := hP
            have hD : va_D A [(h0, .inr (0, [.int columnCount_, .int roomCount_, .int size_, .ref h0_barsOf, .ref h0_subjectOf, .ref h0_teacherOf, .ref h0_seatsOf, .ref h0_columnOf, .ref h0_columnsWith])), (h0_barsOf, .inl (cyI, 10, .inl barsOf_)), (h0_subjectOf, .inl (cyI, 16, .inl subjectOf_)), (h0_teacherOf, .inl (cyI, 16, .inl teacherOf_)), (h0_seatsOf, .inl (cyI, 16, .inl seatsOf_)), (h0_columnOf, .inl (cyI, 16, .inl columnOf_)), (h0_columnsWith, .inl (cyI, 10, .inl columnsWith_)), (h1, .inr (3, [.ref h1_signs, .int a1_size_, .int a1_at_16])), (h1_signs, .inl (cyC, 240, .inl a1_signs_))] := hD
            refine lv_istore (lv' := [(4, .int r_15), (3, .int r_11), (2, .int r_7), (0, .ref h0), (1, .ref h1)]) hx hb dX0_readSection_65 hl (by decide) rfl (fun ls hl => ?_)
            refine lv_iload hx hb dX0_readSection_67 (lv_at hl 0 rfl) ?_
            refine lv_iconst (v := (-1)) hx hb dX0_readSection_69 (by decide) ?_
            refine lv_icmp_ne (tgt := 75) hx hb dX0_readSection_70 (by decide) (fun c_ => ?_) (fun c_ => ?_)
            · have h := (if_neg c_).symm.trans h
              refine lv_iconst (v := (-1)) hx hb dX0_readSection_75 (by decide) ?_
              refine lv_istore (lv' := [(5, .int (-1)), (4, .int r_15), (3, .int r_11), (2, .int r_7), (0, .ref h0), (1, .ref h1)]) hx hb dX0_readSection_76 hl (by decide) rfl (fun ls hl => ?_)
              refine lv_aload_n hx hb dX0_readSection_78 rfl (lv_at hl 5 rfl) ?_
              refine lv_bipush (v := 64) hx hb dX0_readSection_79 (by decide) ?_
              obtain ⟨r_17, a1_at_18, hq, h⟩ := bd2_some h
              refine uV_i (b := h1) (As := [.int 64]) (rest := []) ⟨hx, hb, hml, hown, hts⟩ (c_X3_takeSign l dC dI cyC cyI cyJ h1 h1_signs a1_size_ a1_at_16 a1_signs_ 64 r_17 a1_at_18 hq) (cwV 1 hts gX0_readSection_X3_takeSign rfl rfl rfl (by decide +kernel) ⟨Nat.le_of_ble_eq_true rfl, Nat.le_of_ble_eq_true rfl⟩) hK hE hA hP hD hS [7, 8] rfl rfl rfl 3 0 rfl rfl rfl hl.1 rfl (Nat.le_of_ble_eq_true rfl) ⟨Nat.zero_le _, Nat.zero_le _⟩ dX0_readSection_81 (fun H locs hP hD hS => ?_)
              have hP : va_P (dC, dI) vwCl [(h0, .inr (0, [.int columnCount_, .int roomCount_, .int size_, .ref h0_barsOf, .ref h0_subjectOf, .ref h0_teacherOf, .ref h0_seatsOf, .ref h0_columnOf, .ref h0_columnsWith])), (h0_barsOf, .inl (cyI, 10, .inl barsOf_)), (h0_subjectOf, .inl (cyI, 16, .inl subjectOf_)), (h0_teacherOf, .inl (cyI, 16, .inl teacherOf_)), (h0_seatsOf, .inl (cyI, 16, .inl seatsOf_)), (h0_columnOf, .inl (cyI, 16, .inl columnOf_)), (h0_columnsWith, .inl (cyI, 10, .inl columnsWith_)), (h1, .inr (3, [.ref h1_signs, .int a1_size_, .int a1_at_18])), (h1_signs, .inl (cyC, 240, .inl a1_signs_))] H := hP
              have hD : va_D A [(h0, .inr (0, [.int columnCount_, .int roomCount_, .int size_, .ref h0_barsOf, .ref h0_subjectOf, .ref h0_teacherOf, .ref h0_seatsOf, .ref h0_columnOf, .ref h0_columnsWith])), (h0_barsOf, .inl (cyI, 10, .inl barsOf_)), (h0_subjectOf, .inl (cyI, 16, .inl subjectOf_)), (h0_teacherOf, .inl (cyI, 16, .inl teacherOf_)), (h0_seatsOf, .inl (cyI, 16, .inl seatsOf_)), (h0_columnOf, .inl (cyI, 16, .inl columnOf_)), (h0_columnsWith, .inl (cyI, 10, .inl columnsWith_)), (h1, .inr (3, [.ref h1_signs, .int a1_size_, .int a1_at_18])), (h1_signs, .inl (cyC, 240, .inl a1_signs_))] := hD
              refine lv_if_eq (tgt := 107) hx hb dX0_readSection_84 (by decide) (fun c_ => ?_) (fun c_ => ?_)
              · have h := (if_pos c_).symm.trans h
                exact J107 r_7 r_11 r_15 (-1) a1_at_18 h _ _ _ hP hD hS (lv_sub hl [4, 3, 2, 1, 0] rfl)
              · have h := (if_neg c_).symm.trans h
                refine lv_aload_n hx hb dX0_readSection_87 rfl (lv_at hl 5 rfl) ?_
                refine lv_aload_n hx hb dX0_readSection_88 rfl (lv_at hl 4 rfl) ?_
                refine lv_iconst (v := (-1)) hx hb dX0_readSection_89 (by decide) ?_
                refine lv_iload_n hx hb dX0_readSection_90 rfl (lv_at hl 2 rfl) ?_
                obtain ⟨r_19, hq, h⟩ := bd1_some h
                refine uV_i (b := h0) (As := [.int (-1), .int r_11]) (rest := [.ref h1]) ⟨hx, hb, hml, hown, hts⟩ (c_X0_lawfulColumns l dC dI cyC cyI cyJ h0 h0_barsOf h0_subjectOf h0_teacherOf h0_seatsOf h0_columnOf h0_columnsWith columnCount_ roomCount_ size_ barsOf_ teacherOf_ columnOf_ (-1) r_11 r_19 hq) (cwV 2 hts gX0_readSection_X0_lawfulColumns rfl rfl rfl (by decide +kernel) ⟨Nat.le_of_ble_eq_true rfl, Nat.le_of_ble_eq_true rfl⟩) hK hE hA hP hD hS [0, 1, 3, 5] rfl rfl rfl 0 0 rfl rfl rfl hl.1 rfl (Nat.le_of_ble_eq_true rfl) ⟨Nat.zero_le _, Nat.zero_le _⟩ dX0_readSection_91 (fun H locs hP hD hS => ?_)
                have hP : va_P (dC, dI) vwCl [(h0, .inr (0, [.int columnCount_, .int roomCount_, .int size_, .ref h0_barsOf, .ref h0_subjectOf, .ref h0_teacherOf, .ref h0_seatsOf, .ref h0_columnOf, .ref h0_columnsWith])), (h0_barsOf, .inl (cyI, 10, .inl barsOf_)), (h0_subjectOf, .inl (cyI, 16, .inl subjectOf_)), (h0_teacherOf, .inl (cyI, 16, .inl teacherOf_)), (h0_seatsOf, .inl (cyI, 16, .inl seatsOf_)), (h0_columnOf, .inl (cyI, 16, .inl columnOf_)), (h0_columnsWith, .inl (cyI, 10, .inl columnsWith_)), (h1, .inr (3, [.ref h1_signs, .int a1_size_, .int a1_at_18])), (h1_signs, .inl (cyC, 240, .inl a1_signs_))] H := hP
                have hD : va_D A [(h0, .inr (0, [.int columnCount_, .int roomCount_, .int size_, .ref h0_barsOf, .ref h0_subjectOf, .ref h0_teacherOf, .ref h0_seatsOf, .ref h0_columnOf, .ref h0_columnsWith])), (h0_barsOf, .inl (cyI, 10, .inl barsOf_)), (h0_subjectOf, .inl (cyI, 16, .inl subjectOf_)), (h0_teacherOf, .inl (cyI, 16, .inl teacherOf_)), (h0_seatsOf, .inl (cyI, 16, .inl seatsOf_)), (h0_columnOf, .inl (cyI, 16, .inl columnOf_)), (h0_columnsWith, .inl (cyI, 10, .inl columnsWith_)), (h1, .inr (3, [.ref h1_signs, .int a1_size_, .int a1_at_18])), (h1_signs, .inl (cyC, 240, .inl a1_signs_))] := hD
                obtain ⟨r_20, a1_at_21, hq, h⟩ := bd2_some h
                refine uV_i (b := h1) (As := [.int r_19]) (rest := []) ⟨hx, hb, hml, hown, hts⟩ (c_X3_takeDigit l dC dI cyC cyI cyJ h1 h1_signs a1_size_ a1_at_18 a1_signs_ r_19 r_20 a1_at_21 hq) (cwV 1 hts gX0_readSection_X3_takeDigit rfl rfl rfl (by decide +kernel) ⟨Nat.le_of_ble_eq_true rfl, Nat.le_of_ble_eq_true rfl⟩) hK hE hA hP hD hS [7, 8] rfl rfl rfl 3 0 rfl rfl rfl hl.1 rfl (Nat.le_of_ble_eq_true rfl) ⟨Nat.zero_le _, Nat.zero_le _⟩ dX0_readSection_94 (fun H locs hP hD hS => ?_)
                have hP : va_P (dC, dI) vwCl [(h0, .inr (0, [.int columnCount_, .int roomCount_, .int size_, .ref h0_barsOf, .ref h0_subjectOf, .ref h0_teacherOf, .ref h0_seatsOf, .ref h0_columnOf, .ref h0_columnsWith])), (h0_barsOf, .inl (cyI, 10, .inl barsOf_)), (h0_subjectOf, .inl (cyI, 16, .inl subjectOf_)), (h0_teacherOf, .inl (cyI, 16, .inl teacherOf_)), (h0_seatsOf, .inl (cyI, 16, .inl seatsOf_)), (h0_columnOf, .inl (cyI, 16, .inl columnOf_)), (h0_columnsWith, .inl (cyI, 10, .inl columnsWith_)), (h1, .inr (3, [.ref h1_signs, .int a1_size_, .int a1_at_21])), (h1_signs, .inl (cyC, 240, .inl a1_signs_))] H := hP
                have hD : va_D A [(h0, .inr (0, [.int columnCount_, .int roomCount_, .int size_, .ref h0_barsOf, .ref h0_subjectOf, .ref h0_teacherOf, .ref h0_seatsOf, .ref h0_columnOf, .ref h0_columnsWith])), (h0_barsOf, .inl (cyI, 10, .inl barsOf_)), (h0_subjectOf, .inl (cyI, 16, .inl subjectOf_)), (h0_teacherOf, .inl (cyI, 16, .inl teacherOf_)), (h0_seatsOf, .inl (cyI, 16, .inl seatsOf_)), (h0_columnOf, .inl (cyI, 16, .inl columnOf_)), (h0_columnsWith, .inl (cyI, 10, .inl columnsWith_)), (h1, .inr (3, [.ref h1_signs, .int a1_size_, .int a1_at_21])), (h1_signs, .inl (cyC, 240, .inl a1_signs_))] := hD
                refine lv_istore (lv' := [(5, .int r_20), (4, .int r_15), (3, .int r_11), (2, .int r_7), (0, .ref h0), (1, .ref h1)]) hx hb dX0_readSection_97 hl (by decide) rfl (fun ls hl => ?_)
                refine lv_iload hx hb dX0_readSection_99 (lv_at hl 0 rfl) ?_
                refine lv_iconst (v := (-1)) hx hb dX0_readSection_101 (by decide) ?_
                refine lv_icmp_ne (tgt := 107) hx hb dX0_readSection_102 (by decide) (fun c_ => ?_) (fun c_ => ?_)
                · have h := (if_neg c_).symm.trans h
                  exact J107 r_7 r_11 r_15 r_20 a1_at_21 h _ _ _ hP hD hS (lv_sub hl [4, 3, 2, 1, 0] rfl)
                · have h := (if_pos c_).symm.trans h
                  refine lv_iconst (v := 0) hx hb dX0_readSection_105 (by decide) ?_
                  have h : some (0, size_, subjectOf_, teacherOf_, seatsOf_, columnOf_, columnsWith_, a1_at_21) = some (rr, o0, o1, o2, o3, o4, o5, o6) := h
                  have z0 := Option.some.inj h
                  obtain ⟨rfl, z1⟩ := Prod.mk.inj z0
                  obtain ⟨rfl, z2⟩ := Prod.mk.inj z1
                  obtain ⟨rfl, z3⟩ := Prod.mk.inj z2
                  obtain ⟨rfl, z4⟩ := Prod.mk.inj z3
                  obtain ⟨rfl, z5⟩ := Prod.mk.inj z4
                  obtain ⟨rfl, z6⟩ := Prod.mk.inj z5
                  obtain ⟨rfl, z7⟩ := Prod.mk.inj z6
                  obtain rfl := z7
                  exact hret _ _ _ _ hP hS rfl dX0_readSection_106
            · have h := (if_pos c_).symm.trans h
              refine lv_iconst (v := 0) hx hb dX0_readSection_73 (by decide) ?_
              have h : some (0, size_, subjectOf_, teacherOf_, seatsOf_, columnOf_, columnsWith_, a1_at_16) = some (rr, o0, o1, o2, o3, o4, o5, o6) := h
              have z0 := Option.some.inj h
              obtain ⟨rfl, z1⟩ := Prod.mk.inj z0
              obtain ⟨rfl, z2⟩ := Prod.mk.inj z1
              obtain ⟨rfl, z3⟩ := Prod.mk.inj z2
              obtain ⟨rfl, z4⟩ := Prod.mk.inj z3
              obtain ⟨rfl, z5⟩ := Prod.mk.inj z4
              obtain ⟨rfl, z6⟩ := Prod.mk.inj z5
              obtain ⟨rfl, z7⟩ := Prod.mk.inj z6
              obtain rfl := z7
              exact hret _ _ _ _ hP hS rfl dX0_readSection_74
          · have h := (if_pos c_).symm.trans h
            refine lv_iconst (v := 0) hx hb dX0_readSection_59 (by decide) ?_
            have h : some (0, size_, subjectOf_, teacherOf_, seatsOf_, columnOf_, columnsWith_, a1_at_14) = some (rr, o0, o1, o2, o3, o4, o5, o6) := h
            have z0 := Option.some.inj h
            obtain ⟨rfl, z1⟩ := Prod.mk.inj z0
            obtain ⟨rfl, z2⟩ := Prod.mk.inj z1
            obtain ⟨rfl, z3⟩ := Prod.mk.inj z2
            obtain ⟨rfl, z4⟩ := Prod.mk.inj z3
            obtain ⟨rfl, z5⟩ := Prod.mk.inj z4
            obtain ⟨rfl, z6⟩ := Prod.mk.inj z5
            obtain ⟨rfl, z7⟩ := Prod.mk.inj z6
            obtain rfl := z7
            exact hret _ _ _ _ hP hS rfl dX0_readSection_60
      · have h := (if_pos c_).symm.trans h
        refine lv_iconst (v := 0) hx hb dX0_readSection_35 (by decide) ?_
        have h : some (0, size_, subjectOf_, teacherOf_, seatsOf_, columnOf_, columnsWith_, a1_at_10) = some (rr, o0, o1, o2, o3, o4, o5, o6) := h
        have z0 := Option.some.inj h
        obtain ⟨rfl, z1⟩ := Prod.mk.inj z0
        obtain ⟨rfl, z2⟩ := Prod.mk.inj z1
        obtain ⟨rfl, z3⟩ := Prod.mk.inj z2
        obtain ⟨rfl, z4⟩ := Prod.mk.inj z3
        obtain ⟨rfl, z5⟩ := Prod.mk.inj z4
        obtain ⟨rfl, z6⟩ := Prod.mk.inj z5
        obtain ⟨rfl, z7⟩ := Prod.mk.inj z6
        obtain rfl := z7
        exact hret _ _ _ _ hP hS rfl dX0_readSection_36
  unfold m_X0_readSection at h
  refine lv_aload_n hx hb dX0_readSection_0 rfl (lv_at hl 1 rfl) ?_
  refine lv_aload_n hx hb dX0_readSection_1 rfl (lv_at hl 0 rfl) ?_
  refine va_get (D := (dC, dI)) (ci := 0) (v := .int size_) (C := RX0) (T := TX0) (N := 9) hx hb hts hiX0 hown hK hP 0 rfl rfl 2 (by decide) (hts (.fieldLink RX0 18 "OptionLattice$Plan" "size" "I") (by decide +kernel)) (fun _ h9 => h9) rfl dX0_readSection_2 ?_
  refine lv_bipush (v := 16) hx hb dX0_readSection_5 (by decide) ?_
  refine lv_icmp_ge (tgt := 16) hx hb dX0_readSection_7 (by decide) (fun c_ => ?_) (fun c_ => ?_)
  · have h := (if_pos c_).symm.trans h
    refine lv_iconst (v := 0) hx hb dX0_readSection_16 (by decide) ?_
    exact J17 0 h _ _ _ hP hD hS (lv_sub hl [0, 1] rfl)
  · have h := (if_neg c_).symm.trans h
    refine lv_sipush (v := 1023) hx hb dX0_readSection_10 (by decide) ?_
    refine lv_goto (tgt := 17) hx hb dX0_readSection_13 (by decide) ?_
    exact J17 1023 h _ _ _ hP hD hS (lv_sub hl [0, 1] rfl)

def m_X0_readLine (columnCount_ : Int32) (roomCount_ : Int32) (size_ : Int32) (barsOf_ : Nat → Int32) (subjectOf_ : Nat → Int32) (teacherOf_ : Nat → Int32) (seatsOf_ : Nat → Int32) (columnOf_ : Nat → Int32) (columnsWith_ : Nat → Int32) (a1_size_ : Int32) (a1_at_ : Int32) (a1_signs_ : Nat → Int32) : Option (Int32 × Int32 × (Nat → Int32) × (Nat → Int32) × (Nat → Int32) × (Nat → Int32) × (Nat → Int32) × (Nat → Int32) × Int32) :=
  bd2 (m_X3_takeSign a1_size_ a1_at_ a1_signs_ 98) (fun r_1 a1_at_2 => (if r_1 = 0 then bd8 (m_X0_readSection columnCount_ roomCount_ size_ barsOf_ subjectOf_ teacherOf_ seatsOf_ columnOf_ columnsWith_ a1_size_ a1_at_2 a1_signs_) (fun r_3 size_4 subjectOf_5 teacherOf_6 seatsOf_7 columnOf_8 columnsWith_9 a1_at_10 => gd (isb r_3) (some (r_3, size_4, barsOf_, subjectOf_5, teacherOf_6, seatsOf_7, columnOf_8, columnsWith_9, a1_at_10))) else bd3 (m_X0_readBars columnCount_ size_ barsOf_ teacherOf_ a1_size_ a1_at_2 a1_signs_) (fun r_11 barsOf_12 a1_at_13 => gd (isb r_11) (some (r_11, size_, barsOf_12, subjectOf_, teacherOf_, seatsOf_, columnOf_, columnsWith_, a1_at_13)))))
abbrev rmX0_readLine : Room := { frames := 4, cells := 0, slots := 0, locals := 96 }
set_option maxHeartbeats 4000000 in
set_option maxRecDepth 100000 in
theorem c_X0_readLine (l : Launch) (dC : Nat → ClassId) (dI : Nat → Nat → Nat) (cyC cyI cyJ : ClassId) (h0 h0_barsOf h0_subjectOf h0_teacherOf h0_seatsOf h0_columnOf h0_columnsWith h1 h1_signs : Nat) (columnCount_ : Int32) (roomCount_ : Int32) (size_ : Int32) (barsOf_ : Nat → Int32) (subjectOf_ : Nat → Int32) (teacherOf_ : Nat → Int32) (seatsOf_ : Nat → Int32) (columnOf_ : Nat → Int32) (columnsWith_ : Nat → Int32) (a1_size_ : Int32) (a1_at_ : Int32) (a1_signs_ : Nat → Int32) (rr : Int32) (o0 : Int32) (o1 : Nat → Int32) (o2 : Nat → Int32) (o3 : Nat → Int32) (o4 : Nat → Int32) (o5 : Nat → Int32) (o6 : Nat → Int32) (o7 : Int32) (h : m_X0_readLine columnCount_ roomCount_ size_ barsOf_ subjectOf_ teacherOf_ seatsOf_ columnOf_ columnsWith_ a1_size_ a1_at_ a1_signs_ = some (rr, o0, o1, o2, o3, o4, o5, o6, o7)) : uMi l yX0_readLine wsX0_readLine rmX0_readLine (dC, dI) [(cyC, .char), (cyI, .int), (cyJ, .long)] [.ref h0, .ref h1] [(h0, .inr (0, [.int columnCount_, .int roomCount_, .int size_, .ref h0_barsOf, .ref h0_subjectOf, .ref h0_teacherOf, .ref h0_seatsOf, .ref h0_columnOf, .ref h0_columnsWith])), (h0_barsOf, .inl (cyI, 10, .inl barsOf_)), (h0_subjectOf, .inl (cyI, 16, .inl subjectOf_)), (h0_teacherOf, .inl (cyI, 16, .inl teacherOf_)), (h0_seatsOf, .inl (cyI, 16, .inl seatsOf_)), (h0_columnOf, .inl (cyI, 16, .inl columnOf_)), (h0_columnsWith, .inl (cyI, 10, .inl columnsWith_)), (h1, .inr (3, [.ref h1_signs, .int a1_size_, .int a1_at_])), (h1_signs, .inl (cyC, 240, .inl a1_signs_))] [(h0, .inr (0, [.int columnCount_, .int roomCount_, .int o0, .ref h0_barsOf, .ref h0_subjectOf, .ref h0_teacherOf, .ref h0_seatsOf, .ref h0_columnOf, .ref h0_columnsWith])), (h0_barsOf, .inl (cyI, 10, .inl o1)), (h0_subjectOf, .inl (cyI, 16, .inl o2)), (h0_teacherOf, .inl (cyI, 16, .inl o3)), (h0_seatsOf, .inl (cyI, 16, .inl o4)), (h0_columnOf, .inl (cyI, 16, .inl o5)), (h0_columnsWith, .inl (cyI, 10, .inl o6)), (h1, .inr (3, [.ref h1_signs, .int a1_size_, .int o7])), (h1_signs, .inl (cyC, 240, .inl a1_signs_))] rr := by
  refine uMi.of (cc := cX0_readLine) (maxL := 2) (by decide) rfl (Nat.le_of_ble_eq_true rfl) (fun p e s m args below meth c A ls Q hx hb hml hown hts hA hP hK hD hE hS hl hret => ?_)
  have hown : s.vm.findClass RX0 = some m.cls := hown
  have hl : lv_has ls 2 [(0, .ref h0), (1, .ref h1)] := hl
  unfold m_X0_readLine at h
  refine lv_aload_n hx hb dX0_readLine_0 rfl (lv_at hl 1 rfl) ?_
  refine lv_bipush (v := 98) hx hb dX0_readLine_1 (by decide) ?_
  obtain ⟨r_1, a1_at_2, hq, h⟩ := bd2_some h
  refine uV_i (b := h1) (As := [.int 98]) (rest := []) ⟨hx, hb, hml, hown, hts⟩ (c_X3_takeSign l dC dI cyC cyI cyJ h1 h1_signs a1_size_ a1_at_ a1_signs_ 98 r_1 a1_at_2 hq) (cwV 1 hts gX0_readLine_X3_takeSign rfl rfl rfl (by decide +kernel) ⟨Nat.le_of_ble_eq_true rfl, Nat.le_of_ble_eq_true rfl⟩) hK hE hA hP hD hS [7, 8] rfl rfl rfl 3 0 rfl rfl rfl hl.1 rfl (Nat.le_of_ble_eq_true rfl) ⟨Nat.zero_le _, Nat.zero_le _⟩ dX0_readLine_3 (fun H locs hP hD hS => ?_)
  have hP : va_P (dC, dI) vwCl [(h0, .inr (0, [.int columnCount_, .int roomCount_, .int size_, .ref h0_barsOf, .ref h0_subjectOf, .ref h0_teacherOf, .ref h0_seatsOf, .ref h0_columnOf, .ref h0_columnsWith])), (h0_barsOf, .inl (cyI, 10, .inl barsOf_)), (h0_subjectOf, .inl (cyI, 16, .inl subjectOf_)), (h0_teacherOf, .inl (cyI, 16, .inl teacherOf_)), (h0_seatsOf, .inl (cyI, 16, .inl seatsOf_)), (h0_columnOf, .inl (cyI, 16, .inl columnOf_)), (h0_columnsWith, .inl (cyI, 10, .inl columnsWith_)), (h1, .inr (3, [.ref h1_signs, .int a1_size_, .int a1_at_2])), (h1_signs, .inl (cyC, 240, .inl a1_signs_))] H := hP
  have hD : va_D A [(h0, .inr (0, [.int columnCount_, .int roomCount_, .int size_, .ref h0_barsOf, .ref h0_subjectOf, .ref h0_teacherOf, .ref h0_seatsOf, .ref h0_columnOf, .ref h0_columnsWith])), (h0_barsOf, .inl (cyI, 10, .inl barsOf_)), (h0_subjectOf, .inl (cyI, 16, .inl subjectOf_)), (h0_teacherOf, .inl (cyI, 16, .inl teacherOf_)), (h0_seatsOf, .inl (cyI, 16, .inl seatsOf_)), (h0_columnOf, .inl (cyI, 16, .inl columnOf_)), (h0_columnsWith, .inl (cyI, 10, .inl columnsWith_)), (h1, .inr (3, [.ref h1_signs, .int a1_size_, .int a1_at_2])), (h1_signs, .inl (cyC, 240, .inl a1_signs_))] := hD
  refine lv_if_eq (tgt := 17) hx hb dX0_readLine_6 (by decide) (fun c_ => ?_) (fun c_ => ?_)
  · have h := (if_pos c_).symm.trans h
    refine lv_aload_n hx hb dX0_readLine_17 rfl (lv_at hl 0 rfl) ?_
    refine lv_aload_n hx hb dX0_readLine_18 rfl (lv_at hl 1 rfl) ?_
    obtain ⟨r_3, size_4, subjectOf_5, teacherOf_6, seatsOf_7, columnOf_8, columnsWith_9, a1_at_10, hq, h⟩ := bd8_some h
    refine uV_i (b := h0) (As := [.ref h1]) (rest := []) ⟨hx, hb, hml, hown, hts⟩ (c_X0_readSection l dC dI cyC cyI cyJ h0 h0_barsOf h0_subjectOf h0_teacherOf h0_seatsOf h0_columnOf h0_columnsWith h1 h1_signs columnCount_ roomCount_ size_ barsOf_ subjectOf_ teacherOf_ seatsOf_ columnOf_ columnsWith_ a1_size_ a1_at_2 a1_signs_ r_3 size_4 subjectOf_5 teacherOf_6 seatsOf_7 columnOf_8 columnsWith_9 a1_at_10 hq) (cwV 1 hts gX0_readLine_X0_readSection rfl rfl rfl (by decide +kernel) ⟨Nat.le_of_ble_eq_true rfl, Nat.le_of_ble_eq_true rfl⟩) hK hE hA hP hD hS [0, 1, 2, 3, 4, 5, 6, 7, 8] rfl rfl rfl 0 0 rfl rfl rfl hl.1 rfl (Nat.le_of_ble_eq_true rfl) ⟨Nat.zero_le _, Nat.zero_le _⟩ dX0_readLine_19 (fun H locs hP hD hS => ?_)
    have hP : va_P (dC, dI) vwCl [(h0, .inr (0, [.int columnCount_, .int roomCount_, .int size_4, .ref h0_barsOf, .ref h0_subjectOf, .ref h0_teacherOf, .ref h0_seatsOf, .ref h0_columnOf, .ref h0_columnsWith])), (h0_barsOf, .inl (cyI, 10, .inl barsOf_)), (h0_subjectOf, .inl (cyI, 16, .inl subjectOf_5)), (h0_teacherOf, .inl (cyI, 16, .inl teacherOf_6)), (h0_seatsOf, .inl (cyI, 16, .inl seatsOf_7)), (h0_columnOf, .inl (cyI, 16, .inl columnOf_8)), (h0_columnsWith, .inl (cyI, 10, .inl columnsWith_9)), (h1, .inr (3, [.ref h1_signs, .int a1_size_, .int a1_at_10])), (h1_signs, .inl (cyC, 240, .inl a1_signs_))] H := hP
    have hD : va_D A [(h0, .inr (0, [.int columnCount_, .int roomCount_, .int size_4, .ref h0_barsOf, .ref h0_subjectOf, .ref h0_teacherOf, .ref h0_seatsOf, .ref h0_columnOf, .ref h0_columnsWith])), (h0_barsOf, .inl (cyI, 10, .inl barsOf_)), (h0_subjectOf, .inl (cyI, 16, .inl subjectOf_5)), (h0_teacherOf, .inl (cyI, 16, .inl teacherOf_6)), (h0_seatsOf, .inl (cyI, 16, .inl seatsOf_7)), (h0_columnOf, .inl (cyI, 16, .inl columnOf_8)), (h0_columnsWith, .inl (cyI, 10, .inl columnsWith_9)), (h1, .inr (3, [.ref h1_signs, .int a1_size_, .int a1_at_10])), (h1_signs, .inl (cyC, 240, .inl a1_signs_))] := hD
    obtain ⟨g_, h⟩ := gd_some h
    have h : some (r_3, size_4, barsOf_, subjectOf_5, teacherOf_6, seatsOf_7, columnOf_8, columnsWith_9, a1_at_10) = some (rr, o0, o1, o2, o3, o4, o5, o6, o7) := h
    have z0 := Option.some.inj h
    obtain ⟨rfl, z1⟩ := Prod.mk.inj z0
    obtain ⟨rfl, z2⟩ := Prod.mk.inj z1
    obtain ⟨rfl, z3⟩ := Prod.mk.inj z2
    obtain ⟨rfl, z4⟩ := Prod.mk.inj z3
    obtain ⟨rfl, z5⟩ := Prod.mk.inj z4
    obtain ⟨rfl, z6⟩ := Prod.mk.inj z5
    obtain ⟨rfl, z7⟩ := Prod.mk.inj z6
    obtain ⟨rfl, z8⟩ := Prod.mk.inj z7
    obtain rfl := z8
    exact hret _ _ _ _ hP hS (isb_of g_) dX0_readLine_22
  · have h := (if_neg c_).symm.trans h
    refine lv_aload_n hx hb dX0_readLine_9 rfl (lv_at hl 0 rfl) ?_
    refine lv_aload_n hx hb dX0_readLine_10 rfl (lv_at hl 1 rfl) ?_
    obtain ⟨r_11, barsOf_12, a1_at_13, hq, h⟩ := bd3_some h
    refine uV_i (b := h0) (As := [.ref h1]) (rest := []) ⟨hx, hb, hml, hown, hts⟩ (c_X0_readBars l dC dI cyC cyI cyJ h0 h0_barsOf h0_subjectOf h0_teacherOf h0_seatsOf h0_columnOf h0_columnsWith h1 h1_signs columnCount_ roomCount_ size_ barsOf_ teacherOf_ a1_size_ a1_at_2 a1_signs_ r_11 barsOf_12 a1_at_13 hq) (cwV 1 hts gX0_readLine_X0_readBars rfl rfl rfl (by decide +kernel) ⟨Nat.le_of_ble_eq_true rfl, Nat.le_of_ble_eq_true rfl⟩) hK hE hA hP hD hS [0, 1, 3, 7, 8] rfl rfl rfl 0 0 rfl rfl rfl hl.1 rfl (Nat.le_of_ble_eq_true rfl) ⟨Nat.zero_le _, Nat.zero_le _⟩ dX0_readLine_11 (fun H locs hP hD hS => ?_)
    have hP : va_P (dC, dI) vwCl [(h0, .inr (0, [.int columnCount_, .int roomCount_, .int size_, .ref h0_barsOf, .ref h0_subjectOf, .ref h0_teacherOf, .ref h0_seatsOf, .ref h0_columnOf, .ref h0_columnsWith])), (h0_barsOf, .inl (cyI, 10, .inl barsOf_12)), (h0_subjectOf, .inl (cyI, 16, .inl subjectOf_)), (h0_teacherOf, .inl (cyI, 16, .inl teacherOf_)), (h0_seatsOf, .inl (cyI, 16, .inl seatsOf_)), (h0_columnOf, .inl (cyI, 16, .inl columnOf_)), (h0_columnsWith, .inl (cyI, 10, .inl columnsWith_)), (h1, .inr (3, [.ref h1_signs, .int a1_size_, .int a1_at_13])), (h1_signs, .inl (cyC, 240, .inl a1_signs_))] H := hP
    have hD : va_D A [(h0, .inr (0, [.int columnCount_, .int roomCount_, .int size_, .ref h0_barsOf, .ref h0_subjectOf, .ref h0_teacherOf, .ref h0_seatsOf, .ref h0_columnOf, .ref h0_columnsWith])), (h0_barsOf, .inl (cyI, 10, .inl barsOf_12)), (h0_subjectOf, .inl (cyI, 16, .inl subjectOf_)), (h0_teacherOf, .inl (cyI, 16, .inl teacherOf_)), (h0_seatsOf, .inl (cyI, 16, .inl seatsOf_)), (h0_columnOf, .inl (cyI, 16, .inl columnOf_)), (h0_columnsWith, .inl (cyI, 10, .inl columnsWith_)), (h1, .inr (3, [.ref h1_signs, .int a1_size_, .int a1_at_13])), (h1_signs, .inl (cyC, 240, .inl a1_signs_))] := hD
    refine lv_goto (tgt := 22) hx hb dX0_readLine_14 (by decide) ?_
    obtain ⟨g_, h⟩ := gd_some h
    have h : some (r_11, size_, barsOf_12, subjectOf_, teacherOf_, seatsOf_, columnOf_, columnsWith_, a1_at_13) = some (rr, o0, o1, o2, o3, o4, o5, o6, o7) := h
    have z0 := Option.some.inj h
    obtain ⟨rfl, z1⟩ := Prod.mk.inj z0
    obtain ⟨rfl, z2⟩ := Prod.mk.inj z1
    obtain ⟨rfl, z3⟩ := Prod.mk.inj z2
    obtain ⟨rfl, z4⟩ := Prod.mk.inj z3
    obtain ⟨rfl, z5⟩ := Prod.mk.inj z4
    obtain ⟨rfl, z6⟩ := Prod.mk.inj z5
    obtain ⟨rfl, z7⟩ := Prod.mk.inj z6
    obtain ⟨rfl, z8⟩ := Prod.mk.inj z7
    obtain rfl := z8
    exact hret _ _ _ _ hP hS (isb_of g_) dX0_readLine_22

def m_X0_readFrom_110 (columnCount_ : Int32) (roomCount_ : Int32) (a1_size_ : Int32) (a1_signs_ : Nat → Int32) (rec110 : Int32 → Int32 → (Nat → Int32) → (Nat → Int32) → (Nat → Int32) → (Nat → Int32) → (Nat → Int32) → (Nat → Int32) → Int32 → Option (Int32 × Int32 × Int32 × Int32 × (Nat → Int32) × (Nat → Int32) × (Nat → Int32) × (Nat → Int32) × (Nat → Int32) × (Nat → Int32) × Int32)) : Int32 → Int32 → (Nat → Int32) → (Nat → Int32) → (Nat → Int32) → (Nat → Int32) → (Nat → Int32) → (Nat → Int32) → Int32 → Option (Int32 × Int32 × Int32 × Int32 × (Nat → Int32) × (Nat → Int32) × (Nat → Int32) × (Nat → Int32) × (Nat → Int32) × (Nat → Int32) × Int32) := fun v2 size_ barsOf_ subjectOf_ teacherOf_ seatsOf_ columnOf_ columnsWith_ a1_at_ =>
  (if 240 ≤ v2 then some (1, columnCount_, roomCount_, size_, barsOf_, subjectOf_, teacherOf_, seatsOf_, columnOf_, columnsWith_, a1_at_) else bd1 (m_X3_isRead a1_size_ a1_at_) (fun r_1 => (if r_1 = 0 then bd2 (m_X3_takeSign a1_size_ a1_at_ a1_signs_ 59) (fun r_2 a1_at_3 => (if r_2 = 0 then some (0, columnCount_, roomCount_, size_, barsOf_, subjectOf_, teacherOf_, seatsOf_, columnOf_, columnsWith_, a1_at_3) else bd9 (m_X0_readLine columnCount_ roomCount_ size_ barsOf_ subjectOf_ teacherOf_ seatsOf_ columnOf_ columnsWith_ a1_size_ a1_at_3 a1_signs_) (fun r_4 size_5 barsOf_6 subjectOf_7 teacherOf_8 seatsOf_9 columnOf_10 columnsWith_11 a1_at_12 => (if r_4 = 0 then some (0, columnCount_, roomCount_, size_5, barsOf_6, subjectOf_7, teacherOf_8, seatsOf_9, columnOf_10, columnsWith_11, a1_at_12) else lt' (v2 + 1) (fun v2_13 => rec110 v2_13 size_5 barsOf_6 subjectOf_7 teacherOf_8 seatsOf_9 columnOf_10 columnsWith_11 a1_at_12))))) else some (1, columnCount_, roomCount_, size_, barsOf_, subjectOf_, teacherOf_, seatsOf_, columnOf_, columnsWith_, a1_at_))))
def m_X0_readFrom_89 (columnCount_ : Int32) (roomCount_ : Int32) (size_ : Int32) (barsOf_ : Nat → Int32) (subjectOf_ : Nat → Int32) (teacherOf_ : Nat → Int32) (seatsOf_ : Nat → Int32) (columnOf_ : Nat → Int32) (a1_size_ : Int32) (a1_at_ : Int32) (a1_signs_ : Nat → Int32) (rec89 : Int32 → (Nat → Int32) → Option (Int32 × Int32 × Int32 × Int32 × (Nat → Int32) × (Nat → Int32) × (Nat → Int32) × (Nat → Int32) × (Nat → Int32) × (Nat → Int32) × Int32)) : Int32 → (Nat → Int32) → Option (Int32 × Int32 × Int32 × Int32 × (Nat → Int32) × (Nat → Int32) × (Nat → Int32) × (Nat → Int32) × (Nat → Int32) × (Nat → Int32) × Int32) := fun v2 columnsWith_ =>
  (if 10 ≤ v2 then it9 (m_X0_readFrom_110 columnCount_ roomCount_ a1_size_ a1_signs_) 1100 0 size_ barsOf_ subjectOf_ teacherOf_ seatsOf_ columnOf_ columnsWith_ a1_at_ else gd (inb v2 10) (lt' (v2 + 1) (fun v2_14 => rec89 v2_14 (upd columnsWith_ v2.toNatClampNeg 0))))
def m_X0_readFrom_68 (columnCount_ : Int32) (roomCount_ : Int32) (size_ : Int32) (subjectOf_ : Nat → Int32) (teacherOf_ : Nat → Int32) (seatsOf_ : Nat → Int32) (columnOf_ : Nat → Int32) (columnsWith_ : Nat → Int32) (a1_size_ : Int32) (a1_at_ : Int32) (a1_signs_ : Nat → Int32) (rec68 : Int32 → (Nat → Int32) → Option (Int32 × Int32 × Int32 × Int32 × (Nat → Int32) × (Nat → Int32) × (Nat → Int32) × (Nat → Int32) × (Nat → Int32) × (Nat → Int32) × Int32)) : Int32 → (Nat → Int32) → Option (Int32 × Int32 × Int32 × Int32 × (Nat → Int32) × (Nat → Int32) × (Nat → Int32) × (Nat → Int32) × (Nat → Int32) × (Nat → Int32) × Int32) := fun v2 barsOf_ =>
  (if 10 ≤ v2 then it2 (m_X0_readFrom_89 columnCount_ roomCount_ size_ barsOf_ subjectOf_ teacherOf_ seatsOf_ columnOf_ a1_size_ a1_at_ a1_signs_) 1100 0 columnsWith_ else gd (inb v2 10) (lt' (v2 + 1) (fun v2_15 => rec68 v2_15 (upd barsOf_ v2.toNatClampNeg 0))))
def m_X0_readFrom (columnCount_ : Int32) (roomCount_ : Int32) (size_ : Int32) (barsOf_ : Nat → Int32) (subjectOf_ : Nat → Int32) (teacherOf_ : Nat → Int32) (seatsOf_ : Nat → Int32) (columnOf_ : Nat → Int32) (columnsWith_ : Nat → Int32) (a1_size_ : Int32) (a1_at_ : Int32) (a1_signs_ : Nat → Int32) : Option (Int32 × Int32 × Int32 × Int32 × (Nat → Int32) × (Nat → Int32) × (Nat → Int32) × (Nat → Int32) × (Nat → Int32) × (Nat → Int32) × Int32) :=
  bd1 (m_X5_digitsAbove 0) (fun r_16 => bd1 (m_X5_digitsAbove 6) (fun r_17 => bd2 (m_X3_takeDigit a1_size_ a1_at_ a1_signs_ (r_16 &&& (r_17 ^^^ (-1)))) (fun r_18 a1_at_19 => (if r_18 = (-1) then some (0, r_18, roomCount_, 0, barsOf_, subjectOf_, teacherOf_, seatsOf_, columnOf_, columnsWith_, a1_at_19) else bd2 (m_X3_takeSign a1_size_ a1_at_19 a1_signs_ 120) (fun r_20 a1_at_21 => (if r_20 = 0 then some (0, r_18, roomCount_, 0, barsOf_, subjectOf_, teacherOf_, seatsOf_, columnOf_, columnsWith_, a1_at_21) else bd1 (m_X5_digitsAbove 0) (fun r_22 => bd2 (m_X3_takeDigit a1_size_ a1_at_21 a1_signs_ r_22) (fun r_23 a1_at_24 => (if r_23 = (-1) then some (0, r_18, r_23, 0, barsOf_, subjectOf_, teacherOf_, seatsOf_, columnOf_, columnsWith_, a1_at_24) else it2 (m_X0_readFrom_68 r_18 r_23 0 subjectOf_ teacherOf_ seatsOf_ columnOf_ columnsWith_ a1_size_ a1_at_24 a1_signs_) 1100 0 barsOf_)))))))))
abbrev rmX0_readFrom : Room := { frames := 5, cells := 0, slots := 0, locals := 117 }
set_option maxHeartbeats 4000000 in
set_option maxRecDepth 100000 in
theorem c_X0_readFrom (l : Launch) (dC : Nat → ClassId) (dI : Nat → Nat → Nat) (cyC cyI cyJ : ClassId) (h0 h0_barsOf h0_subjectOf h0_teacherOf h0_seatsOf h0_columnOf h0_columnsWith h1 h1_signs : Nat) (columnCount_ : Int32) (roomCount_ : Int32) (size_ : Int32) (barsOf_ : Nat → Int32) (subjectOf_ : Nat → Int32) (teacherOf_ : Nat → Int32) (seatsOf_ : Nat → Int32) (columnOf_ : Nat → Int32) (columnsWith_ : Nat → Int32) (a1_size_ : Int32) (a1_at_ : Int32) (a1_signs_ : Nat → Int32) (rr : Int32) (o0 : Int32) (o1 : Int32) (o2 : Int32) (o3 : Nat → Int32) (o4 : Nat → Int32) (o5 : Nat → Int32) (o6 : Nat → Int32) (o7 : Nat → Int32) (o8 : Nat → Int32) (o9 : Int32) (h : m_X0_readFrom columnCount_ roomCount_ size_ barsOf_ subjectOf_ teacherOf_ seatsOf_ columnOf_ columnsWith_ a1_size_ a1_at_ a1_signs_ = some (rr, o0, o1, o2, o3, o4, o5, o6, o7, o8, o9)) : uMi l yX0_readFrom wsX0_readFrom rmX0_readFrom (dC, dI) [(cyC, .char), (cyI, .int), (cyJ, .long)] [.ref h0, .ref h1] [(h0, .inr (0, [.int columnCount_, .int roomCount_, .int size_, .ref h0_barsOf, .ref h0_subjectOf, .ref h0_teacherOf, .ref h0_seatsOf, .ref h0_columnOf, .ref h0_columnsWith])), (h0_barsOf, .inl (cyI, 10, .inl barsOf_)), (h0_subjectOf, .inl (cyI, 16, .inl subjectOf_)), (h0_teacherOf, .inl (cyI, 16, .inl teacherOf_)), (h0_seatsOf, .inl (cyI, 16, .inl seatsOf_)), (h0_columnOf, .inl (cyI, 16, .inl columnOf_)), (h0_columnsWith, .inl (cyI, 10, .inl columnsWith_)), (h1, .inr (3, [.ref h1_signs, .int a1_size_, .int a1_at_])), (h1_signs, .inl (cyC, 240, .inl a1_signs_))] [(h0, .inr (0, [.int o0, .int o1, .int o2, .ref h0_barsOf, .ref h0_subjectOf, .ref h0_teacherOf, .ref h0_seatsOf, .ref h0_columnOf, .ref h0_columnsWith])), (h0_barsOf, .inl (cyI, 10, .inl o3)), (h0_subjectOf, .inl (cyI, 16, .inl o4)), (h0_teacherOf, .inl (cyI, 16, .inl o5)), (h0_seatsOf, .inl (cyI, 16, .inl o6)), (h0_columnOf, .inl (cyI, 16, .inl o7)), (h0_columnsWith, .inl (cyI, 10, .inl o8)), (h1, .inr (3, [.ref h1_signs, .int a1_size_, .int o9])), (h1_signs, .inl (cyC, 240, .inl a1_signs_))] rr := by
  refine uMi.of (cc := cX0_readFrom) (maxL := 3) (by decide) rfl (Nat.le_of_ble_eq_true rfl) (fun p e s m args below meth c A ls Q hx hb hml hown hts hA hP hK hD hE hS hl hret => ?_)
  have hown : s.vm.findClass RX0 = some m.cls := hown
  have hl : lv_has ls 3 [(0, .ref h0), (1, .ref h1)] := hl
  have hiX0 : ∀ w ∈ u_ws RX0 TX0 9, w ∈ wsX0_readFrom := fun _ h9 => List.mem_cons_of_mem _ (List.mem_append_left _ (List.mem_append_right _ h9))
  have L110 : ∀ (columnCount_ : Int32), ∀ (roomCount_ : Int32), ∀ (n110 : Nat), ∀ (v2 : Int32), ∀ (size_ : Int32), ∀ (barsOf_ : Nat → Int32), ∀ (subjectOf_ : Nat → Int32), ∀ (teacherOf_ : Nat → Int32), ∀ (seatsOf_ : Nat → Int32), ∀ (columnOf_ : Nat → Int32), ∀ (columnsWith_ : Nat → Int32), ∀ (a1_at_ : Int32), it9 (m_X0_readFrom_110 columnCount_ roomCount_ a1_size_ a1_signs_) n110 v2 size_ barsOf_ subjectOf_ teacherOf_ seatsOf_ columnOf_ columnsWith_ a1_at_ = some (rr, o0, o1, o2, o3, o4, o5, o6, o7, o8, o9) → ∀ (H : Heap) (locs : List Loc) (ls : Array Slot), va_P (dC, dI) vwCl [(h0, .inr (0, [.int columnCount_, .int roomCount_, .int size_, .ref h0_barsOf, .ref h0_subjectOf, .ref h0_teacherOf, .ref h0_seatsOf, .ref h0_columnOf, .ref h0_columnsWith])), (h0_barsOf, .inl (cyI, 10, .inl barsOf_)), (h0_subjectOf, .inl (cyI, 16, .inl subjectOf_)), (h0_teacherOf, .inl (cyI, 16, .inl teacherOf_)), (h0_seatsOf, .inl (cyI, 16, .inl seatsOf_)), (h0_columnOf, .inl (cyI, 16, .inl columnOf_)), (h0_columnsWith, .inl (cyI, 10, .inl columnsWith_)), (h1, .inr (3, [.ref h1_signs, .int a1_size_, .int a1_at_])), (h1_signs, .inl (cyC, 240, .inl a1_signs_))] H → va_D A [(h0, .inr (0, [.int columnCount_, .int roomCount_, .int size_, .ref h0_barsOf, .ref h0_subjectOf, .ref h0_teacherOf, .ref h0_seatsOf, .ref h0_columnOf, .ref h0_columnsWith])), (h0_barsOf, .inl (cyI, 10, .inl barsOf_)), (h0_subjectOf, .inl (cyI, 16, .inl subjectOf_)), (h0_teacherOf, .inl (cyI, 16, .inl teacherOf_)), (h0_seatsOf, .inl (cyI, 16, .inl seatsOf_)), (h0_columnOf, .inl (cyI, 16, .inl columnOf_)), (h0_columnsWith, .inl (cyI, 10, .inl columnsWith_)), (h1, .inr (3, [.ref h1_signs, .int a1_size_, .int a1_at_])), (h1_signs, .inl (cyC, 240, .inl a1_signs_))] → va_S A s.heap H locs → lv_has ls 3 [(0, .ref h0), (1, .ref h1), (2, .int v2)] → W p l e rmX0_readFrom s m args below meth c H locs 0 0 Q (F0 m 110 ls []) := by
    intro columnCount_ roomCount_ n110
    induction n110 with
    | zero => intro v2 size_ barsOf_ subjectOf_ teacherOf_ seatsOf_ columnOf_ columnsWith_ a1_at_ h; exact absurd h (fun z => it9_z z)
    | succ n110 ih110 =>
      intro v2 size_ barsOf_ subjectOf_ teacherOf_ seatsOf_ columnOf_ columnsWith_ a1_at_ h H locs ls hP hD hS hl
      have h : m_X0_readFrom_110 columnCount_ roomCount_ a1_size_ a1_signs_ (it9 (m_X0_readFrom_110 columnCount_ roomCount_ a1_size_ a1_signs_) n110) v2 size_ barsOf_ subjectOf_ teacherOf_ seatsOf_ columnOf_ columnsWith_ a1_at_ = some (rr, o0, o1, o2, o3, o4, o5, o6, o7, o8, o9) := h
      unfold m_X0_readFrom_110 at h
      refine lv_iload_n hx hb dX0_readFrom_110 rfl (lv_at hl 2 rfl) ?_
      refine lv_sipush (v := 240) hx hb dX0_readFrom_111 (by decide) ?_
      refine lv_icmp_ge (tgt := 149) hx hb dX0_readFrom_114 (by decide) (fun c_ => ?_) (fun c_ => ?_)
      · have h := (if_pos c_).symm.trans h
        refine lv_iconst (v := 1) hx hb dX0_readFrom_149 (by decide) ?_
        have h : some (1, columnCount_, roomCount_, size_, barsOf_, subjectOf_, teacherOf_, seatsOf_, columnOf_, columnsWith_, a1_at_) = some (rr, o0, o1, o2, o3, o4, o5, o6, o7, o8, o9) := h
        have z0 := Option.some.inj h
        obtain ⟨rfl, z1⟩ := Prod.mk.inj z0
        obtain ⟨rfl, z2⟩ := Prod.mk.inj z1
        obtain ⟨rfl, z3⟩ := Prod.mk.inj z2
        obtain ⟨rfl, z4⟩ := Prod.mk.inj z3
        obtain ⟨rfl, z5⟩ := Prod.mk.inj z4
        obtain ⟨rfl, z6⟩ := Prod.mk.inj z5
        obtain ⟨rfl, z7⟩ := Prod.mk.inj z6
        obtain ⟨rfl, z8⟩ := Prod.mk.inj z7
        obtain ⟨rfl, z9⟩ := Prod.mk.inj z8
        obtain ⟨rfl, z10⟩ := Prod.mk.inj z9
        obtain rfl := z10
        exact hret _ _ _ _ hP hS rfl dX0_readFrom_150
      · have h := (if_neg c_).symm.trans h
        refine lv_aload_n hx hb dX0_readFrom_117 rfl (lv_at hl 1 rfl) ?_
        obtain ⟨r_1, hq, h⟩ := bd1_some h
        refine uV_i (b := h1) (As := []) (rest := []) ⟨hx, hb, hml, hown, hts⟩ (c_X3_isRead l dC dI cyC cyI cyJ h1 h1_signs a1_size_ a1_at_ r_1 hq) (cwV 0 hts gX0_readFrom_X3_isRead rfl rfl rfl (by decide +kernel) ⟨Nat.le_of_ble_eq_true rfl, Nat.le_of_ble_eq_true rfl⟩) hK hE hA hP hD hS [7] rfl rfl rfl 3 0 rfl rfl rfl hl.1 rfl (Nat.le_of_ble_eq_true rfl) ⟨Nat.zero_le _, Nat.zero_le _⟩ dX0_readFrom_118 (fun H locs hP hD hS => ?_)
        have hP : va_P (dC, dI) vwCl [(h0, .inr (0, [.int columnCount_, .int roomCount_, .int size_, .ref h0_barsOf, .ref h0_subjectOf, .ref h0_teacherOf, .ref h0_seatsOf, .ref h0_columnOf, .ref h0_columnsWith])), (h0_barsOf, .inl (cyI, 10, .inl barsOf_)), (h0_subjectOf, .inl (cyI, 16, .inl subjectOf_)), (h0_teacherOf, .inl (cyI, 16, .inl teacherOf_)), (h0_seatsOf, .inl (cyI, 16, .inl seatsOf_)), (h0_columnOf, .inl (cyI, 16, .inl columnOf_)), (h0_columnsWith, .inl (cyI, 10, .inl columnsWith_)), (h1, .inr (3, [.ref h1_signs, .int a1_size_, .int a1_at_])), (h1_signs, .inl (cyC, 240, .inl a1_signs_))] H := hP
        have hD : va_D A [(h0, .inr (0, [.int columnCount_, .int roomCount_, .int size_, .ref h0_barsOf, .ref h0_subjectOf, .ref h0_teacherOf, .ref h0_seatsOf, .ref h0_columnOf, .ref h0_columnsWith])), (h0_barsOf, .inl (cyI, 10, .inl barsOf_)), (h0_subjectOf, .inl (cyI, 16, .inl subjectOf_)), (h0_teacherOf, .inl (cyI, 16, .inl teacherOf_)), (h0_seatsOf, .inl (cyI, 16, .inl seatsOf_)), (h0_columnOf, .inl (cyI, 16, .inl columnOf_)), (h0_columnsWith, .inl (cyI, 10, .inl columnsWith_)), (h1, .inr (3, [.ref h1_signs, .int a1_size_, .int a1_at_])), (h1_signs, .inl (cyC, 240, .inl a1_signs_))] := hD
        refine lv_if_ne (tgt := 149) hx hb dX0_readFrom_121 (by decide) (fun c_ => ?_) (fun c_ => ?_)
        · have h := (if_neg c_).symm.trans h
          refine lv_iconst (v := 1) hx hb dX0_readFrom_149 (by decide) ?_
          have h : some (1, columnCount_, roomCount_, size_, barsOf_, subjectOf_, teacherOf_, seatsOf_, columnOf_, columnsWith_, a1_at_) = some (rr, o0, o1, o2, o3, o4, o5, o6, o7, o8, o9) := h
          have z0 := Option.some.inj h
          obtain ⟨rfl, z1⟩ := Prod.mk.inj z0
          obtain ⟨rfl, z2⟩ := Prod.mk.inj z1
          obtain ⟨rfl, z3⟩ := Prod.mk.inj z2
          obtain ⟨rfl, z4⟩ := Prod.mk.inj z3
          obtain ⟨rfl, z5⟩ := Prod.mk.inj z4
          obtain ⟨rfl, z6⟩ := Prod.mk.inj z5
          obtain ⟨rfl, z7⟩ := Prod.mk.inj z6
          obtain ⟨rfl, z8⟩ := Prod.mk.inj z7
          obtain ⟨rfl, z9⟩ := Prod.mk.inj z8
          obtain ⟨rfl, z10⟩ := Prod.mk.inj z9
          obtain rfl := z10
          exact hret _ _ _ _ hP hS rfl dX0_readFrom_150
        · have h := (if_pos c_).symm.trans h
          refine lv_aload_n hx hb dX0_readFrom_124 rfl (lv_at hl 1 rfl) ?_
          refine lv_bipush (v := 59) hx hb dX0_readFrom_125 (by decide) ?_
          obtain ⟨r_2, a1_at_3, hq, h⟩ := bd2_some h
          refine uV_i (b := h1) (As := [.int 59]) (rest := []) ⟨hx, hb, hml, hown, hts⟩ (c_X3_takeSign l dC dI cyC cyI cyJ h1 h1_signs a1_size_ a1_at_ a1_signs_ 59 r_2 a1_at_3 hq) (cwV 1 hts gX0_readFrom_X3_takeSign rfl rfl rfl (by decide +kernel) ⟨Nat.le_of_ble_eq_true rfl, Nat.le_of_ble_eq_true rfl⟩) hK hE hA hP hD hS [7, 8] rfl rfl rfl 3 0 rfl rfl rfl hl.1 rfl (Nat.le_of_ble_eq_true rfl) ⟨Nat.zero_le _, Nat.zero_le _⟩ dX0_readFrom_127 (fun H locs hP hD hS => ?_)
          have hP : va_P (dC, dI) vwCl [(h0, .inr (0, [.int columnCount_, .int roomCount_, .int size_, .ref h0_barsOf, .ref h0_subjectOf, .ref h0_teacherOf, .ref h0_seatsOf, .ref h0_columnOf, .ref h0_columnsWith])), (h0_barsOf, .inl (cyI, 10, .inl barsOf_)), (h0_subjectOf, .inl (cyI, 16, .inl subjectOf_)), (h0_teacherOf, .inl (cyI, 16, .inl teacherOf_)), (h0_seatsOf, .inl (cyI, 16, .inl seatsOf_)), (h0_columnOf, .inl (cyI, 16, .inl columnOf_)), (h0_columnsWith, .inl (cyI, 10, .inl columnsWith_)), (h1, .inr (3, [.ref h1_signs, .int a1_size_, .int a1_at_3])), (h1_signs, .inl (cyC, 240, .inl a1_signs_))] H := hP
          have hD : va_D A [(h0, .inr (0, [.int columnCount_, .int roomCount_, .int size_, .ref h0_barsOf, .ref h0_subjectOf, .ref h0_teacherOf, .ref h0_seatsOf, .ref h0_columnOf, .ref h0_columnsWith])), (h0_barsOf, .inl (cyI, 10, .inl barsOf_)), (h0_subjectOf, .inl (cyI, 16, .inl subjectOf_)), (h0_teacherOf, .inl (cyI, 16, .inl teacherOf_)), (h0_seatsOf, .inl (cyI, 16, .inl seatsOf_)), (h0_columnOf, .inl (cyI, 16, .inl columnOf_)), (h0_columnsWith, .inl (cyI, 10, .inl columnsWith_)), (h1, .inr (3, [.ref h1_signs, .int a1_size_, .int a1_at_3])), (h1_signs, .inl (cyC, 240, .inl a1_signs_))] := hD
          refine lv_if_eq (tgt := 141) hx hb dX0_readFrom_130 (by decide) (fun c_ => ?_) (fun c_ => ?_)
          · have h := (if_pos c_).symm.trans h
            refine lv_iconst (v := 0) hx hb dX0_readFrom_141 (by decide) ?_
            have h : some (0, columnCount_, roomCount_, size_, barsOf_, subjectOf_, teacherOf_, seatsOf_, columnOf_, columnsWith_, a1_at_3) = some (rr, o0, o1, o2, o3, o4, o5, o6, o7, o8, o9) := h
            have z0 := Option.some.inj h
            obtain ⟨rfl, z1⟩ := Prod.mk.inj z0
            obtain ⟨rfl, z2⟩ := Prod.mk.inj z1
            obtain ⟨rfl, z3⟩ := Prod.mk.inj z2
            obtain ⟨rfl, z4⟩ := Prod.mk.inj z3
            obtain ⟨rfl, z5⟩ := Prod.mk.inj z4
            obtain ⟨rfl, z6⟩ := Prod.mk.inj z5
            obtain ⟨rfl, z7⟩ := Prod.mk.inj z6
            obtain ⟨rfl, z8⟩ := Prod.mk.inj z7
            obtain ⟨rfl, z9⟩ := Prod.mk.inj z8
            obtain ⟨rfl, z10⟩ := Prod.mk.inj z9
            obtain rfl := z10
            exact hret _ _ _ _ hP hS rfl dX0_readFrom_142
          · have h := (if_neg c_).symm.trans h
            refine lv_aload_n hx hb dX0_readFrom_133 rfl (lv_at hl 0 rfl) ?_
            refine lv_aload_n hx hb dX0_readFrom_134 rfl (lv_at hl 1 rfl) ?_
            obtain ⟨r_4, size_5, barsOf_6, subjectOf_7, teacherOf_8, seatsOf_9, columnOf_10, columnsWith_11, a1_at_12, hq, h⟩ := bd9_some h
            refine uV_i (b := h0) (As := [.ref h1]) (rest := []) ⟨hx, hb, hml, hown, hts⟩ (c_X0_readLine l dC dI cyC cyI cyJ h0 h0_barsOf h0_subjectOf h0_teacherOf h0_seatsOf h0_columnOf h0_columnsWith h1 h1_signs columnCount_ roomCount_ size_ barsOf_ subjectOf_ teacherOf_ seatsOf_ columnOf_ columnsWith_ a1_size_ a1_at_3 a1_signs_ r_4 size_5 barsOf_6 subjectOf_7 teacherOf_8 seatsOf_9 columnOf_10 columnsWith_11 a1_at_12 hq) (cwV 1 hts gX0_readFrom_X0_readLine rfl rfl rfl (by decide +kernel) ⟨Nat.le_of_ble_eq_true rfl, Nat.le_of_ble_eq_true rfl⟩) hK hE hA hP hD hS [0, 1, 2, 3, 4, 5, 6, 7, 8] rfl rfl rfl 0 0 rfl rfl rfl hl.1 rfl (Nat.le_of_ble_eq_true rfl) ⟨Nat.zero_le _, Nat.zero_le _⟩ dX0_readFrom_135 (fun H locs hP hD hS => ?_)
            have hP : va_P (dC, dI) vwCl [(h0, .inr (0, [.int columnCount_, .int roomCount_, .int size_5, .ref h0_barsOf, .ref h0_subjectOf, .ref h0_teacherOf, .ref h0_seatsOf, .ref h0_columnOf, .ref h0_columnsWith])), (h0_barsOf, .inl (cyI, 10, .inl barsOf_6)), (h0_subjectOf, .inl (cyI, 16, .inl subjectOf_7)), (h0_teacherOf, .inl (cyI, 16, .inl teacherOf_8)), (h0_seatsOf, .inl (cyI, 16, .inl seatsOf_9)), (h0_columnOf, .inl (cyI, 16, .inl columnOf_10)), (h0_columnsWith, .inl (cyI, 10, .inl columnsWith_11)), (h1, .inr (3, [.ref h1_signs, .int a1_size_, .int a1_at_12])), (h1_signs, .inl (cyC, 240, .inl a1_signs_))] H := hP
            have hD : va_D A [(h0, .inr (0, [.int columnCount_, .int roomCount_, .int size_5, .ref h0_barsOf, .ref h0_subjectOf, .ref h0_teacherOf, .ref h0_seatsOf, .ref h0_columnOf, .ref h0_columnsWith])), (h0_barsOf, .inl (cyI, 10, .inl barsOf_6)), (h0_subjectOf, .inl (cyI, 16, .inl subjectOf_7)), (h0_teacherOf, .inl (cyI, 16, .inl teacherOf_8)), (h0_seatsOf, .inl (cyI, 16, .inl seatsOf_9)), (h0_columnOf, .inl (cyI, 16, .inl columnOf_10)), (h0_columnsWith, .inl (cyI, 10, .inl columnsWith_11)), (h1, .inr (3, [.ref h1_signs, .int a1_size_, .int a1_at_12])), (h1_signs, .inl (cyC, 240, .inl a1_signs_))] := hD
            refine lv_if_ne (tgt := 143) hx hb dX0_readFrom_138 (by decide) (fun c_ => ?_) (fun c_ => ?_)
            · have h := (if_neg c_).symm.trans h
              obtain ⟨v2_13, e_v2_13⟩ : ∃ z : Int32, z = (v2 + 1) := ⟨_, rfl⟩
              have h := lt_use e_v2_13 h
              refine lv_iinc (v := v2_13) (lv' := [(2, .int v2_13), (0, .ref h0), (1, .ref h1)]) hx hb dX0_readFrom_143 hl (k := 2) rfl (by rw [e_v2_13]; rfl) (by decide) rfl (fun ls hl => ?_)
              refine lv_goto (tgt := 110) hx hb dX0_readFrom_146 (by decide) ?_
              exact ih110 v2_13 size_5 barsOf_6 subjectOf_7 teacherOf_8 seatsOf_9 columnOf_10 columnsWith_11 a1_at_12 h _ _ _ hP hD hS (lv_sub hl [1, 2, 0] rfl)
            · have h := (if_pos c_).symm.trans h
              refine lv_iconst (v := 0) hx hb dX0_readFrom_141 (by decide) ?_
              have h : some (0, columnCount_, roomCount_, size_5, barsOf_6, subjectOf_7, teacherOf_8, seatsOf_9, columnOf_10, columnsWith_11, a1_at_12) = some (rr, o0, o1, o2, o3, o4, o5, o6, o7, o8, o9) := h
              have z0 := Option.some.inj h
              obtain ⟨rfl, z1⟩ := Prod.mk.inj z0
              obtain ⟨rfl, z2⟩ := Prod.mk.inj z1
              obtain ⟨rfl, z3⟩ := Prod.mk.inj z2
              obtain ⟨rfl, z4⟩ := Prod.mk.inj z3
              obtain ⟨rfl, z5⟩ := Prod.mk.inj z4
              obtain ⟨rfl, z6⟩ := Prod.mk.inj z5
              obtain ⟨rfl, z7⟩ := Prod.mk.inj z6
              obtain ⟨rfl, z8⟩ := Prod.mk.inj z7
              obtain ⟨rfl, z9⟩ := Prod.mk.inj z8
              obtain ⟨rfl, z10⟩ := Prod.mk.inj z9
              obtain rfl := z10
              exact hret _ _ _ _ hP hS rfl dX0_readFrom_142
  have L89 : ∀ (columnCount_ : Int32), ∀ (roomCount_ : Int32), ∀ (size_ : Int32), ∀ (barsOf_ : Nat → Int32), ∀ (a1_at_ : Int32), ∀ (n89 : Nat), ∀ (v2 : Int32), ∀ (columnsWith_ : Nat → Int32), it2 (m_X0_readFrom_89 columnCount_ roomCount_ size_ barsOf_ subjectOf_ teacherOf_ seatsOf_ columnOf_ a1_size_ a1_at_ a1_signs_) n89 v2 columnsWith_ = some (rr, o0, o1, o2, o3, o4, o5, o6, o7, o8, o9) → ∀ (H : Heap) (locs : List Loc) (ls : Array Slot), va_P (dC, dI) vwCl [(h0, .inr (0, [.int columnCount_, .int roomCount_, .int size_, .ref h0_barsOf, .ref h0_subjectOf, .ref h0_teacherOf, .ref h0_seatsOf, .ref h0_columnOf, .ref h0_columnsWith])), (h0_barsOf, .inl (cyI, 10, .inl barsOf_)), (h0_subjectOf, .inl (cyI, 16, .inl subjectOf_)), (h0_teacherOf, .inl (cyI, 16, .inl teacherOf_)), (h0_seatsOf, .inl (cyI, 16, .inl seatsOf_)), (h0_columnOf, .inl (cyI, 16, .inl columnOf_)), (h0_columnsWith, .inl (cyI, 10, .inl columnsWith_)), (h1, .inr (3, [.ref h1_signs, .int a1_size_, .int a1_at_])), (h1_signs, .inl (cyC, 240, .inl a1_signs_))] H → va_D A [(h0, .inr (0, [.int columnCount_, .int roomCount_, .int size_, .ref h0_barsOf, .ref h0_subjectOf, .ref h0_teacherOf, .ref h0_seatsOf, .ref h0_columnOf, .ref h0_columnsWith])), (h0_barsOf, .inl (cyI, 10, .inl barsOf_)), (h0_subjectOf, .inl (cyI, 16, .inl subjectOf_)), (h0_teacherOf, .inl (cyI, 16, .inl teacherOf_)), (h0_seatsOf, .inl (cyI, 16, .inl seatsOf_)), (h0_columnOf, .inl (cyI, 16, .inl columnOf_)), (h0_columnsWith, .inl (cyI, 10, .inl columnsWith_)), (h1, .inr (3, [.ref h1_signs, .int a1_size_, .int a1_at_])), (h1_signs, .inl (cyC, 240, .inl a1_signs_))] → va_S A s.heap H locs → lv_has ls 3 [(0, .ref h0), (1, .ref h1), (2, .int v2)] → W p l e rmX0_readFrom s m args below meth c H locs 0 0 Q (F0 m 89 ls []) := by
    intro columnCount_ roomCount_ size_ barsOf_ a1_at_ n89
    induction n89 with
    | zero => intro v2 columnsWith_ h; exact absurd h (fun z => it2_z z)
    | succ n89 ih89 =>
      intro v2 columnsWith_ h H locs ls hP hD hS hl
      have h : m_X0_readFrom_89 columnCount_ roomCount_ size_ barsOf_ subjectOf_ teacherOf_ seatsOf_ columnOf_ a1_size_ a1_at_ a1_signs_ (it2 (m_X0_readFrom_89 columnCount_ roomCount_ size_ barsOf_ subjectOf_ teacherOf_ seatsOf_ columnOf_ a1_size_ a1_at_ a1_signs_) n89) v2 columnsWith_ = some (rr, o0, o1, o2, o3, o4, o5, o6, o7, o8, o9) := h
      unfold m_X0_readFrom_89 at h
      refine lv_iload_n hx hb dX0_readFrom_89 rfl (lv_at hl 2 rfl) ?_
      refine lv_bipush (v := 10) hx hb dX0_readFrom_90 (by decide) ?_
      refine lv_icmp_ge (tgt := 108) hx hb dX0_readFrom_92 (by decide) (fun c_ => ?_) (fun c_ => ?_)
      · have h := (if_pos c_).symm.trans h
        refine lv_iconst (v := 0) hx hb dX0_readFrom_108 (by decide) ?_
        refine lv_istore_n (lv' := [(2, .int 0), (0, .ref h0), (1, .ref h1)]) hx hb dX0_readFrom_109 rfl hl (by decide) rfl (fun ls hl => ?_)
        exact L110 columnCount_ roomCount_ 1100 0 size_ barsOf_ subjectOf_ teacherOf_ seatsOf_ columnOf_ columnsWith_ a1_at_ h _ _ _ hP hD hS (lv_sub hl [1, 2, 0] rfl)
      · have h := (if_neg c_).symm.trans h
        refine lv_aload_n hx hb dX0_readFrom_95 rfl (lv_at hl 0 rfl) ?_
        refine va_get (D := (dC, dI)) (ci := 0) (v := .ref h0_columnsWith) (C := RX0) (T := TX0) (N := 9) hx hb hts hiX0 hown hK hP 0 rfl rfl 8 (by decide) (hts (.fieldLink RX0 37 "OptionLattice$Plan" "columnsWith" "[I") (by decide +kernel)) (fun _ h9 => h9) rfl dX0_readFrom_96 ?_
        refine lv_iload_n hx hb dX0_readFrom_99 rfl (lv_at hl 2 rfl) ?_
        refine lv_iconst (v := 0) hx hb dX0_readFrom_100 (by decide) ?_
        obtain ⟨g_, h⟩ := gd_some h
        refine va_iast hx hb hK hP hD hS 6 1 rfl rfl (inb_in g_) dX0_readFrom_101 (fun H locs hP hD hS => ?_)
        have hP : va_P (dC, dI) vwCl [(h0, .inr (0, [.int columnCount_, .int roomCount_, .int size_, .ref h0_barsOf, .ref h0_subjectOf, .ref h0_teacherOf, .ref h0_seatsOf, .ref h0_columnOf, .ref h0_columnsWith])), (h0_barsOf, .inl (cyI, 10, .inl barsOf_)), (h0_subjectOf, .inl (cyI, 16, .inl subjectOf_)), (h0_teacherOf, .inl (cyI, 16, .inl teacherOf_)), (h0_seatsOf, .inl (cyI, 16, .inl seatsOf_)), (h0_columnOf, .inl (cyI, 16, .inl columnOf_)), (h0_columnsWith, .inl (cyI, 10, .inl (upd columnsWith_ v2.toNatClampNeg 0))), (h1, .inr (3, [.ref h1_signs, .int a1_size_, .int a1_at_])), (h1_signs, .inl (cyC, 240, .inl a1_signs_))] H := hP
        have hD : va_D A [(h0, .inr (0, [.int columnCount_, .int roomCount_, .int size_, .ref h0_barsOf, .ref h0_subjectOf, .ref h0_teacherOf, .ref h0_seatsOf, .ref h0_columnOf, .ref h0_columnsWith])), (h0_barsOf, .inl (cyI, 10, .inl barsOf_)), (h0_subjectOf, .inl (cyI, 16, .inl subjectOf_)), (h0_teacherOf, .inl (cyI, 16, .inl teacherOf_)), (h0_seatsOf, .inl (cyI, 16, .inl seatsOf_)), (h0_columnOf, .inl (cyI, 16, .inl columnOf_)), (h0_columnsWith, .inl (cyI, 10, .inl (upd columnsWith_ v2.toNatClampNeg 0))), (h1, .inr (3, [.ref h1_signs, .int a1_size_, .int a1_at_])), (h1_signs, .inl (cyC, 240, .inl a1_signs_))] := hD
        obtain ⟨v2_14, e_v2_14⟩ : ∃ z : Int32, z = (v2 + 1) := ⟨_, rfl⟩
        have h := lt_use e_v2_14 h
        refine lv_iinc (v := v2_14) (lv' := [(2, .int v2_14), (0, .ref h0), (1, .ref h1)]) hx hb dX0_readFrom_102 hl (k := 2) rfl (by rw [e_v2_14]; rfl) (by decide) rfl (fun ls hl => ?_)
        refine lv_goto (tgt := 89) hx hb dX0_readFrom_105 (by decide) ?_
        exact ih89 v2_14 (upd columnsWith_ v2.toNatClampNeg 0) h _ _ _ hP hD hS (lv_sub hl [1, 2, 0] rfl)
  have L68 : ∀ (columnCount_ : Int32), ∀ (roomCount_ : Int32), ∀ (size_ : Int32), ∀ (a1_at_ : Int32), ∀ (n68 : Nat), ∀ (v2 : Int32), ∀ (barsOf_ : Nat → Int32), it2 (m_X0_readFrom_68 columnCount_ roomCount_ size_ subjectOf_ teacherOf_ seatsOf_ columnOf_ columnsWith_ a1_size_ a1_at_ a1_signs_) n68 v2 barsOf_ = some (rr, o0, o1, o2, o3, o4, o5, o6, o7, o8, o9) → ∀ (H : Heap) (locs : List Loc) (ls : Array Slot), va_P (dC, dI) vwCl [(h0, .inr (0, [.int columnCount_, .int roomCount_, .int size_, .ref h0_barsOf, .ref h0_subjectOf, .ref h0_teacherOf, .ref h0_seatsOf, .ref h0_columnOf, .ref h0_columnsWith])), (h0_barsOf, .inl (cyI, 10, .inl barsOf_)), (h0_subjectOf, .inl (cyI, 16, .inl subjectOf_)), (h0_teacherOf, .inl (cyI, 16, .inl teacherOf_)), (h0_seatsOf, .inl (cyI, 16, .inl seatsOf_)), (h0_columnOf, .inl (cyI, 16, .inl columnOf_)), (h0_columnsWith, .inl (cyI, 10, .inl columnsWith_)), (h1, .inr (3, [.ref h1_signs, .int a1_size_, .int a1_at_])), (h1_signs, .inl (cyC, 240, .inl a1_signs_))] H → va_D A [(h0, .inr (0, [.int columnCount_, .int roomCount_, .int size_, .ref h0_barsOf, .ref h0_subjectOf, .ref h0_teacherOf, .ref h0_seatsOf, .ref h0_columnOf, .ref h0_columnsWith])), (h0_barsOf, .inl (cyI, 10, .inl barsOf_)), (h0_subjectOf, .inl (cyI, 16, .inl subjectOf_)), (h0_teacherOf, .inl (cyI, 16, .inl teacherOf_)), (h0_seatsOf, .inl (cyI, 16, .inl seatsOf_)), (h0_columnOf, .inl (cyI, 16, .inl columnOf_)), (h0_columnsWith, .inl (cyI, 10, .inl columnsWith_)), (h1, .inr (3, [.ref h1_signs, .int a1_size_, .int a1_at_])), (h1_signs, .inl (cyC, 240, .inl a1_signs_))] → va_S A s.heap H locs → lv_has ls 3 [(0, .ref h0), (1, .ref h1), (2, .int v2)] → W p l e rmX0_readFrom s m args below meth c H locs 0 0 Q (F0 m 68 ls []) := by
    intro columnCount_ roomCount_ size_ a1_at_ n68
    induction n68 with
    | zero => intro v2 barsOf_ h; exact absurd h (fun z => it2_z z)
    | succ n68 ih68 =>
      intro v2 barsOf_ h H locs ls hP hD hS hl
      have h : m_X0_readFrom_68 columnCount_ roomCount_ size_ subjectOf_ teacherOf_ seatsOf_ columnOf_ columnsWith_ a1_size_ a1_at_ a1_signs_ (it2 (m_X0_readFrom_68 columnCount_ roomCount_ size_ subjectOf_ teacherOf_ seatsOf_ columnOf_ columnsWith_ a1_size_ a1_at_ a1_signs_) n68) v2 barsOf_ = some (rr, o0, o1, o2, o3, o4, o5, o6, o7, o8, o9) := h
      unfold m_X0_readFrom_68 at h
      refine lv_iload_n hx hb dX0_readFrom_68 rfl (lv_at hl 2 rfl) ?_
      refine lv_bipush (v := 10) hx hb dX0_readFrom_69 (by decide) ?_
      refine lv_icmp_ge (tgt := 87) hx hb dX0_readFrom_71 (by decide) (fun c_ => ?_) (fun c_ => ?_)
      · have h := (if_pos c_).symm.trans h
        refine lv_iconst (v := 0) hx hb dX0_readFrom_87 (by decide) ?_
        refine lv_istore_n (lv' := [(2, .int 0), (0, .ref h0), (1, .ref h1)]) hx hb dX0_readFrom_88 rfl hl (by decide) rfl (fun ls hl => ?_)
        exact L89 columnCount_ roomCount_ size_ barsOf_ a1_at_ 1100 0 columnsWith_ h _ _ _ hP hD hS (lv_sub hl [1, 2, 0] rfl)
      · have h := (if_neg c_).symm.trans h
        refine lv_aload_n hx hb dX0_readFrom_74 rfl (lv_at hl 0 rfl) ?_
        refine va_get (D := (dC, dI)) (ci := 0) (v := .ref h0_barsOf) (C := RX0) (T := TX0) (N := 9) hx hb hts hiX0 hown hK hP 0 rfl rfl 3 (by decide) (hts (.fieldLink RX0 21 "OptionLattice$Plan" "barsOf" "[I") (by decide +kernel)) (fun _ h9 => h9) rfl dX0_readFrom_75 ?_
        refine lv_iload_n hx hb dX0_readFrom_78 rfl (lv_at hl 2 rfl) ?_
        refine lv_iconst (v := 0) hx hb dX0_readFrom_79 (by decide) ?_
        obtain ⟨g_, h⟩ := gd_some h
        refine va_iast hx hb hK hP hD hS 1 1 rfl rfl (inb_in g_) dX0_readFrom_80 (fun H locs hP hD hS => ?_)
        have hP : va_P (dC, dI) vwCl [(h0, .inr (0, [.int columnCount_, .int roomCount_, .int size_, .ref h0_barsOf, .ref h0_subjectOf, .ref h0_teacherOf, .ref h0_seatsOf, .ref h0_columnOf, .ref h0_columnsWith])), (h0_barsOf, .inl (cyI, 10, .inl (upd barsOf_ v2.toNatClampNeg 0))), (h0_subjectOf, .inl (cyI, 16, .inl subjectOf_)), (h0_teacherOf, .inl (cyI, 16, .inl teacherOf_)), (h0_seatsOf, .inl (cyI, 16, .inl seatsOf_)), (h0_columnOf, .inl (cyI, 16, .inl columnOf_)), (h0_columnsWith, .inl (cyI, 10, .inl columnsWith_)), (h1, .inr (3, [.ref h1_signs, .int a1_size_, .int a1_at_])), (h1_signs, .inl (cyC, 240, .inl a1_signs_))] H := hP
        have hD : va_D A [(h0, .inr (0, [.int columnCount_, .int roomCount_, .int size_, .ref h0_barsOf, .ref h0_subjectOf, .ref h0_teacherOf, .ref h0_seatsOf, .ref h0_columnOf, .ref h0_columnsWith])), (h0_barsOf, .inl (cyI, 10, .inl (upd barsOf_ v2.toNatClampNeg 0))), (h0_subjectOf, .inl (cyI, 16, .inl subjectOf_)), (h0_teacherOf, .inl (cyI, 16, .inl teacherOf_)), (h0_seatsOf, .inl (cyI, 16, .inl seatsOf_)), (h0_columnOf, .inl (cyI, 16, .inl columnOf_)), (h0_columnsWith, .inl (cyI, 10, .inl columnsWith_)), (h1, .inr (3, [.ref h1_signs, .int a1_size_, .int a1_at_])), (h1_signs, .inl (cyC, 240, .inl a1_signs_))] := hD
        obtain ⟨v2_15, e_v2_15⟩ : ∃ z : Int32, z = (v2 + 1) := ⟨_, rfl⟩
        have h := lt_use e_v2_15 h
        refine lv_iinc (v := v2_15) (lv' := [(2, .int v2_15), (0, .ref h0), (1, .ref h1)]) hx hb dX0_readFrom_81 hl (k := 2) rfl (by rw [e_v2_15]; rfl) (by decide) rfl (fun ls hl => ?_)
        refine lv_goto (tgt := 68) hx hb dX0_readFrom_84 (by decide) ?_
        exact ih68 v2_15 (upd barsOf_ v2.toNatClampNeg 0) h _ _ _ hP hD hS (lv_sub hl [1, 2, 0] rfl)
  unfold m_X0_readFrom at h
  refine lv_aload_n hx hb dX0_readFrom_0 rfl (lv_at hl 0 rfl) ?_
  refine lv_iconst (v := 0) hx hb dX0_readFrom_1 (by decide) ?_
  refine va_put (D := (dC, dI)) (ci := 0) (v := .int 0) (ty := .int) (C := RX0) (T := TX0) (N := 9) hx hb hts hiX0 tyX0 tyX0_ok nmX0 hown hK hP hD hS 0 rfl rfl 2 (by decide) (hts (.fieldLink RX0 18 "OptionLattice$Plan" "size" "I") (by decide +kernel)) (fun _ h9 => h9) rfl (by decide +kernel) rfl rfl (Nat.le_of_ble_eq_true rfl) dX0_readFrom_2 (fun H locs hP hD hS => ?_)
  have hP : va_P (dC, dI) vwCl [(h0, .inr (0, [.int columnCount_, .int roomCount_, .int 0, .ref h0_barsOf, .ref h0_subjectOf, .ref h0_teacherOf, .ref h0_seatsOf, .ref h0_columnOf, .ref h0_columnsWith])), (h0_barsOf, .inl (cyI, 10, .inl barsOf_)), (h0_subjectOf, .inl (cyI, 16, .inl subjectOf_)), (h0_teacherOf, .inl (cyI, 16, .inl teacherOf_)), (h0_seatsOf, .inl (cyI, 16, .inl seatsOf_)), (h0_columnOf, .inl (cyI, 16, .inl columnOf_)), (h0_columnsWith, .inl (cyI, 10, .inl columnsWith_)), (h1, .inr (3, [.ref h1_signs, .int a1_size_, .int a1_at_])), (h1_signs, .inl (cyC, 240, .inl a1_signs_))] H := hP
  have hD : va_D A [(h0, .inr (0, [.int columnCount_, .int roomCount_, .int 0, .ref h0_barsOf, .ref h0_subjectOf, .ref h0_teacherOf, .ref h0_seatsOf, .ref h0_columnOf, .ref h0_columnsWith])), (h0_barsOf, .inl (cyI, 10, .inl barsOf_)), (h0_subjectOf, .inl (cyI, 16, .inl subjectOf_)), (h0_teacherOf, .inl (cyI, 16, .inl teacherOf_)), (h0_seatsOf, .inl (cyI, 16, .inl seatsOf_)), (h0_columnOf, .inl (cyI, 16, .inl columnOf_)), (h0_columnsWith, .inl (cyI, 10, .inl columnsWith_)), (h1, .inr (3, [.ref h1_signs, .int a1_size_, .int a1_at_])), (h1_signs, .inl (cyC, 240, .inl a1_signs_))] := hD
  refine lv_aload_n hx hb dX0_readFrom_5 rfl (lv_at hl 0 rfl) ?_
  refine lv_aload_n hx hb dX0_readFrom_6 rfl (lv_at hl 1 rfl) ?_
  refine lv_iconst (v := 0) hx hb dX0_readFrom_7 (by decide) ?_
  obtain ⟨r_16, hq, h⟩ := bd1_some h
  refine uN_i (As := [.int 0]) (rest := [.ref h1, .ref h0]) ⟨hx, hb, hml, hown, hts⟩ (c_X5_digitsAbove l dC dI cyC cyI cyJ 0 r_16 hq) ⟨va_cnB 1 hts gX0_readFrom_X5_digitsAbove_n95 rfl rfl rfl (hE.2.1 ("OptionLattice$Plan", 95, ⟨"OptionLattice", "digitsAbove", "(I)I"⟩) (List.mem_of_getElem? (i := 6) rfl)) (hts (.initialized RX5) (by decide +kernel)) (by decide +kernel) ⟨Nat.le_of_ble_eq_true rfl, Nat.le_of_ble_eq_true rfl⟩, (hts (.static yX5_digitsAbove) (by decide +kernel)), trivial⟩ hK hE hA hP hD hS [] rfl rfl rfl rfl hl.1 rfl (Nat.le_of_ble_eq_true rfl) ⟨Nat.zero_le _, Nat.zero_le _⟩ dX0_readFrom_8 (fun H locs hP hD hS => ?_)
  have hP : va_P (dC, dI) vwCl [(h0, .inr (0, [.int columnCount_, .int roomCount_, .int 0, .ref h0_barsOf, .ref h0_subjectOf, .ref h0_teacherOf, .ref h0_seatsOf, .ref h0_columnOf, .ref h0_columnsWith])), (h0_barsOf, .inl (cyI, 10, .inl barsOf_)), (h0_subjectOf, .inl (cyI, 16, .inl subjectOf_)), (h0_teacherOf, .inl (cyI, 16, .inl teacherOf_)), (h0_seatsOf, .inl (cyI, 16, .inl seatsOf_)), (h0_columnOf, .inl (cyI, 16, .inl columnOf_)), (h0_columnsWith, .inl (cyI, 10, .inl columnsWith_)), (h1, .inr (3, [.ref h1_signs, .int a1_size_, .int a1_at_])), (h1_signs, .inl (cyC, 240, .inl a1_signs_))] H := hP
  have hD : va_D A [(h0, .inr (0, [.int columnCount_, .int roomCount_, .int 0, .ref h0_barsOf, .ref h0_subjectOf, .ref h0_teacherOf, .ref h0_seatsOf, .ref h0_columnOf, .ref h0_columnsWith])), (h0_barsOf, .inl (cyI, 10, .inl barsOf_)), (h0_subjectOf, .inl (cyI, 16, .inl subjectOf_)), (h0_teacherOf, .inl (cyI, 16, .inl teacherOf_)), (h0_seatsOf, .inl (cyI, 16, .inl seatsOf_)), (h0_columnOf, .inl (cyI, 16, .inl columnOf_)), (h0_columnsWith, .inl (cyI, 10, .inl columnsWith_)), (h1, .inr (3, [.ref h1_signs, .int a1_size_, .int a1_at_])), (h1_signs, .inl (cyC, 240, .inl a1_signs_))] := hD
  refine lv_bipush (v := 6) hx hb dX0_readFrom_11 (by decide) ?_
  obtain ⟨r_17, hq, h⟩ := bd1_some h
  refine uN_i (As := [.int 6]) (rest := [.int r_16, .ref h1, .ref h0]) ⟨hx, hb, hml, hown, hts⟩ (c_X5_digitsAbove l dC dI cyC cyI cyJ 6 r_17 hq) ⟨va_cnB 1 hts gX0_readFrom_X5_digitsAbove_n95 rfl rfl rfl (hE.2.1 ("OptionLattice$Plan", 95, ⟨"OptionLattice", "digitsAbove", "(I)I"⟩) (List.mem_of_getElem? (i := 6) rfl)) (hts (.initialized RX5) (by decide +kernel)) (by decide +kernel) ⟨Nat.le_of_ble_eq_true rfl, Nat.le_of_ble_eq_true rfl⟩, (hts (.static yX5_digitsAbove) (by decide +kernel)), trivial⟩ hK hE hA hP hD hS [] rfl rfl rfl rfl hl.1 rfl (Nat.le_of_ble_eq_true rfl) ⟨Nat.zero_le _, Nat.zero_le _⟩ dX0_readFrom_13 (fun H locs hP hD hS => ?_)
  have hP : va_P (dC, dI) vwCl [(h0, .inr (0, [.int columnCount_, .int roomCount_, .int 0, .ref h0_barsOf, .ref h0_subjectOf, .ref h0_teacherOf, .ref h0_seatsOf, .ref h0_columnOf, .ref h0_columnsWith])), (h0_barsOf, .inl (cyI, 10, .inl barsOf_)), (h0_subjectOf, .inl (cyI, 16, .inl subjectOf_)), (h0_teacherOf, .inl (cyI, 16, .inl teacherOf_)), (h0_seatsOf, .inl (cyI, 16, .inl seatsOf_)), (h0_columnOf, .inl (cyI, 16, .inl columnOf_)), (h0_columnsWith, .inl (cyI, 10, .inl columnsWith_)), (h1, .inr (3, [.ref h1_signs, .int a1_size_, .int a1_at_])), (h1_signs, .inl (cyC, 240, .inl a1_signs_))] H := hP
  have hD : va_D A [(h0, .inr (0, [.int columnCount_, .int roomCount_, .int 0, .ref h0_barsOf, .ref h0_subjectOf, .ref h0_teacherOf, .ref h0_seatsOf, .ref h0_columnOf, .ref h0_columnsWith])), (h0_barsOf, .inl (cyI, 10, .inl barsOf_)), (h0_subjectOf, .inl (cyI, 16, .inl subjectOf_)), (h0_teacherOf, .inl (cyI, 16, .inl teacherOf_)), (h0_seatsOf, .inl (cyI, 16, .inl seatsOf_)), (h0_columnOf, .inl (cyI, 16, .inl columnOf_)), (h0_columnsWith, .inl (cyI, 10, .inl columnsWith_)), (h1, .inr (3, [.ref h1_signs, .int a1_size_, .int a1_at_])), (h1_signs, .inl (cyC, 240, .inl a1_signs_))] := hD
  refine lv_iconst (v := (-1)) hx hb dX0_readFrom_16 (by decide) ?_
  refine lv_ixor hx hb dX0_readFrom_17 ?_
  refine lv_iand hx hb dX0_readFrom_18 ?_
  obtain ⟨r_18, a1_at_19, hq, h⟩ := bd2_some h
  refine uV_i (b := h1) (As := [.int (r_16 &&& (r_17 ^^^ (-1)))]) (rest := [.ref h0]) ⟨hx, hb, hml, hown, hts⟩ (c_X3_takeDigit l dC dI cyC cyI cyJ h1 h1_signs a1_size_ a1_at_ a1_signs_ (r_16 &&& (r_17 ^^^ (-1))) r_18 a1_at_19 hq) (cwV 1 hts gX0_readFrom_X3_takeDigit rfl rfl rfl (by decide +kernel) ⟨Nat.le_of_ble_eq_true rfl, Nat.le_of_ble_eq_true rfl⟩) hK hE hA hP hD hS [7, 8] rfl rfl rfl 3 0 rfl rfl rfl hl.1 rfl (Nat.le_of_ble_eq_true rfl) ⟨Nat.zero_le _, Nat.zero_le _⟩ dX0_readFrom_19 (fun H locs hP hD hS => ?_)
  have hP : va_P (dC, dI) vwCl [(h0, .inr (0, [.int columnCount_, .int roomCount_, .int 0, .ref h0_barsOf, .ref h0_subjectOf, .ref h0_teacherOf, .ref h0_seatsOf, .ref h0_columnOf, .ref h0_columnsWith])), (h0_barsOf, .inl (cyI, 10, .inl barsOf_)), (h0_subjectOf, .inl (cyI, 16, .inl subjectOf_)), (h0_teacherOf, .inl (cyI, 16, .inl teacherOf_)), (h0_seatsOf, .inl (cyI, 16, .inl seatsOf_)), (h0_columnOf, .inl (cyI, 16, .inl columnOf_)), (h0_columnsWith, .inl (cyI, 10, .inl columnsWith_)), (h1, .inr (3, [.ref h1_signs, .int a1_size_, .int a1_at_19])), (h1_signs, .inl (cyC, 240, .inl a1_signs_))] H := hP
  have hD : va_D A [(h0, .inr (0, [.int columnCount_, .int roomCount_, .int 0, .ref h0_barsOf, .ref h0_subjectOf, .ref h0_teacherOf, .ref h0_seatsOf, .ref h0_columnOf, .ref h0_columnsWith])), (h0_barsOf, .inl (cyI, 10, .inl barsOf_)), (h0_subjectOf, .inl (cyI, 16, .inl subjectOf_)), (h0_teacherOf, .inl (cyI, 16, .inl teacherOf_)), (h0_seatsOf, .inl (cyI, 16, .inl seatsOf_)), (h0_columnOf, .inl (cyI, 16, .inl columnOf_)), (h0_columnsWith, .inl (cyI, 10, .inl columnsWith_)), (h1, .inr (3, [.ref h1_signs, .int a1_size_, .int a1_at_19])), (h1_signs, .inl (cyC, 240, .inl a1_signs_))] := hD
  refine va_put (D := (dC, dI)) (ci := 0) (v := .int r_18) (ty := .int) (C := RX0) (T := TX0) (N := 9) hx hb hts hiX0 tyX0 tyX0_ok nmX0 hown hK hP hD hS 0 rfl rfl 0 (by decide) (hts (.fieldLink RX0 9 "OptionLattice$Plan" "columnCount" "I") (by decide +kernel)) (fun _ h9 => h9) rfl (by decide +kernel) rfl rfl (Nat.le_of_ble_eq_true rfl) dX0_readFrom_22 (fun H locs hP hD hS => ?_)
  have hP : va_P (dC, dI) vwCl [(h0, .inr (0, [.int r_18, .int roomCount_, .int 0, .ref h0_barsOf, .ref h0_subjectOf, .ref h0_teacherOf, .ref h0_seatsOf, .ref h0_columnOf, .ref h0_columnsWith])), (h0_barsOf, .inl (cyI, 10, .inl barsOf_)), (h0_subjectOf, .inl (cyI, 16, .inl subjectOf_)), (h0_teacherOf, .inl (cyI, 16, .inl teacherOf_)), (h0_seatsOf, .inl (cyI, 16, .inl seatsOf_)), (h0_columnOf, .inl (cyI, 16, .inl columnOf_)), (h0_columnsWith, .inl (cyI, 10, .inl columnsWith_)), (h1, .inr (3, [.ref h1_signs, .int a1_size_, .int a1_at_19])), (h1_signs, .inl (cyC, 240, .inl a1_signs_))] H := hP
  have hD : va_D A [(h0, .inr (0, [.int r_18, .int roomCount_, .int 0, .ref h0_barsOf, .ref h0_subjectOf, .ref h0_teacherOf, .ref h0_seatsOf, .ref h0_columnOf, .ref h0_columnsWith])), (h0_barsOf, .inl (cyI, 10, .inl barsOf_)), (h0_subjectOf, .inl (cyI, 16, .inl subjectOf_)), (h0_teacherOf, .inl (cyI, 16, .inl teacherOf_)), (h0_seatsOf, .inl (cyI, 16, .inl seatsOf_)), (h0_columnOf, .inl (cyI, 16, .inl columnOf_)), (h0_columnsWith, .inl (cyI, 10, .inl columnsWith_)), (h1, .inr (3, [.ref h1_signs, .int a1_size_, .int a1_at_19])), (h1_signs, .inl (cyC, 240, .inl a1_signs_))] := hD
  refine lv_aload_n hx hb dX0_readFrom_25 rfl (lv_at hl 0 rfl) ?_
  refine va_get (D := (dC, dI)) (ci := 0) (v := .int r_18) (C := RX0) (T := TX0) (N := 9) hx hb hts hiX0 hown hK hP 0 rfl rfl 0 (by decide) (hts (.fieldLink RX0 9 "OptionLattice$Plan" "columnCount" "I") (by decide +kernel)) (fun _ h9 => h9) rfl dX0_readFrom_26 ?_
  refine lv_iconst (v := (-1)) hx hb dX0_readFrom_29 (by decide) ?_
  refine lv_icmp_eq (tgt := 42) hx hb dX0_readFrom_30 (by decide) (fun c_ => ?_) (fun c_ => ?_)
  · have h := (if_pos c_).symm.trans h
    refine lv_iconst (v := 0) hx hb dX0_readFrom_42 (by decide) ?_
    have h : some (0, r_18, roomCount_, 0, barsOf_, subjectOf_, teacherOf_, seatsOf_, columnOf_, columnsWith_, a1_at_19) = some (rr, o0, o1, o2, o3, o4, o5, o6, o7, o8, o9) := h
    have z0 := Option.some.inj h
    obtain ⟨rfl, z1⟩ := Prod.mk.inj z0
    obtain ⟨rfl, z2⟩ := Prod.mk.inj z1
    obtain ⟨rfl, z3⟩ := Prod.mk.inj z2
    obtain ⟨rfl, z4⟩ := Prod.mk.inj z3
    obtain ⟨rfl, z5⟩ := Prod.mk.inj z4
    obtain ⟨rfl, z6⟩ := Prod.mk.inj z5
    obtain ⟨rfl, z7⟩ := Prod.mk.inj z6
    obtain ⟨rfl, z8⟩ := Prod.mk.inj z7
    obtain ⟨rfl, z9⟩ := Prod.mk.inj z8
    obtain ⟨rfl, z10⟩ := Prod.mk.inj z9
    obtain rfl := z10
    exact hret _ _ _ _ hP hS rfl dX0_readFrom_43
  · have h := (if_neg c_).symm.trans h
    refine lv_aload_n hx hb dX0_readFrom_33 rfl (lv_at hl 1 rfl) ?_
    refine lv_bipush (v := 120) hx hb dX0_readFrom_34 (by decide) ?_
    obtain ⟨r_20, a1_at_21, hq, h⟩ := bd2_some h
    refine uV_i (b := h1) (As := [.int 120]) (rest := []) ⟨hx, hb, hml, hown, hts⟩ (c_X3_takeSign l dC dI cyC cyI cyJ h1 h1_signs a1_size_ a1_at_19 a1_signs_ 120 r_20 a1_at_21 hq) (cwV 1 hts gX0_readFrom_X3_takeSign rfl rfl rfl (by decide +kernel) ⟨Nat.le_of_ble_eq_true rfl, Nat.le_of_ble_eq_true rfl⟩) hK hE hA hP hD hS [7, 8] rfl rfl rfl 3 0 rfl rfl rfl hl.1 rfl (Nat.le_of_ble_eq_true rfl) ⟨Nat.zero_le _, Nat.zero_le _⟩ dX0_readFrom_36 (fun H locs hP hD hS => ?_)
    have hP : va_P (dC, dI) vwCl [(h0, .inr (0, [.int r_18, .int roomCount_, .int 0, .ref h0_barsOf, .ref h0_subjectOf, .ref h0_teacherOf, .ref h0_seatsOf, .ref h0_columnOf, .ref h0_columnsWith])), (h0_barsOf, .inl (cyI, 10, .inl barsOf_)), (h0_subjectOf, .inl (cyI, 16, .inl subjectOf_)), (h0_teacherOf, .inl (cyI, 16, .inl teacherOf_)), (h0_seatsOf, .inl (cyI, 16, .inl seatsOf_)), (h0_columnOf, .inl (cyI, 16, .inl columnOf_)), (h0_columnsWith, .inl (cyI, 10, .inl columnsWith_)), (h1, .inr (3, [.ref h1_signs, .int a1_size_, .int a1_at_21])), (h1_signs, .inl (cyC, 240, .inl a1_signs_))] H := hP
    have hD : va_D A [(h0, .inr (0, [.int r_18, .int roomCount_, .int 0, .ref h0_barsOf, .ref h0_subjectOf, .ref h0_teacherOf, .ref h0_seatsOf, .ref h0_columnOf, .ref h0_columnsWith])), (h0_barsOf, .inl (cyI, 10, .inl barsOf_)), (h0_subjectOf, .inl (cyI, 16, .inl subjectOf_)), (h0_teacherOf, .inl (cyI, 16, .inl teacherOf_)), (h0_seatsOf, .inl (cyI, 16, .inl seatsOf_)), (h0_columnOf, .inl (cyI, 16, .inl columnOf_)), (h0_columnsWith, .inl (cyI, 10, .inl columnsWith_)), (h1, .inr (3, [.ref h1_signs, .int a1_size_, .int a1_at_21])), (h1_signs, .inl (cyC, 240, .inl a1_signs_))] := hD
    refine lv_if_ne (tgt := 44) hx hb dX0_readFrom_39 (by decide) (fun c_ => ?_) (fun c_ => ?_)
    · have h := (if_neg c_).symm.trans h
      refine lv_aload_n hx hb dX0_readFrom_44 rfl (lv_at hl 0 rfl) ?_
      refine lv_aload_n hx hb dX0_readFrom_45 rfl (lv_at hl 1 rfl) ?_
      refine lv_iconst (v := 0) hx hb dX0_readFrom_46 (by decide) ?_
      obtain ⟨r_22, hq, h⟩ := bd1_some h
      refine uN_i (As := [.int 0]) (rest := [.ref h1, .ref h0]) ⟨hx, hb, hml, hown, hts⟩ (c_X5_digitsAbove l dC dI cyC cyI cyJ 0 r_22 hq) ⟨va_cnB 1 hts gX0_readFrom_X5_digitsAbove_n95 rfl rfl rfl (hE.2.1 ("OptionLattice$Plan", 95, ⟨"OptionLattice", "digitsAbove", "(I)I"⟩) (List.mem_of_getElem? (i := 6) rfl)) (hts (.initialized RX5) (by decide +kernel)) (by decide +kernel) ⟨Nat.le_of_ble_eq_true rfl, Nat.le_of_ble_eq_true rfl⟩, (hts (.static yX5_digitsAbove) (by decide +kernel)), trivial⟩ hK hE hA hP hD hS [] rfl rfl rfl rfl hl.1 rfl (Nat.le_of_ble_eq_true rfl) ⟨Nat.zero_le _, Nat.zero_le _⟩ dX0_readFrom_47 (fun H locs hP hD hS => ?_)
      have hP : va_P (dC, dI) vwCl [(h0, .inr (0, [.int r_18, .int roomCount_, .int 0, .ref h0_barsOf, .ref h0_subjectOf, .ref h0_teacherOf, .ref h0_seatsOf, .ref h0_columnOf, .ref h0_columnsWith])), (h0_barsOf, .inl (cyI, 10, .inl barsOf_)), (h0_subjectOf, .inl (cyI, 16, .inl subjectOf_)), (h0_teacherOf, .inl (cyI, 16, .inl teacherOf_)), (h0_seatsOf, .inl (cyI, 16, .inl seatsOf_)), (h0_columnOf, .inl (cyI, 16, .inl columnOf_)), (h0_columnsWith, .inl (cyI, 10, .inl columnsWith_)), (h1, .inr (3, [.ref h1_signs, .int a1_size_, .int a1_at_21])), (h1_signs, .inl (cyC, 240, .inl a1_signs_))] H := hP
      have hD : va_D A [(h0, .inr (0, [.int r_18, .int roomCount_, .int 0, .ref h0_barsOf, .ref h0_subjectOf, .ref h0_teacherOf, .ref h0_seatsOf, .ref h0_columnOf, .ref h0_columnsWith])), (h0_barsOf, .inl (cyI, 10, .inl barsOf_)), (h0_subjectOf, .inl (cyI, 16, .inl subjectOf_)), (h0_teacherOf, .inl (cyI, 16, .inl teacherOf_)), (h0_seatsOf, .inl (cyI, 16, .inl seatsOf_)), (h0_columnOf, .inl (cyI, 16, .inl columnOf_)), (h0_columnsWith, .inl (cyI, 10, .inl columnsWith_)), (h1, .inr (3, [.ref h1_signs, .int a1_size_, .int a1_at_21])), (h1_signs, .inl (cyC, 240, .inl a1_signs_))] := hD
      obtain ⟨r_23, a1_at_24, hq, h⟩ := bd2_some h
      refine uV_i (b := h1) (As := [.int r_22]) (rest := [.ref h0]) ⟨hx, hb, hml, hown, hts⟩ (c_X3_takeDigit l dC dI cyC cyI cyJ h1 h1_signs a1_size_ a1_at_21 a1_signs_ r_22 r_23 a1_at_24 hq) (cwV 1 hts gX0_readFrom_X3_takeDigit rfl rfl rfl (by decide +kernel) ⟨Nat.le_of_ble_eq_true rfl, Nat.le_of_ble_eq_true rfl⟩) hK hE hA hP hD hS [7, 8] rfl rfl rfl 3 0 rfl rfl rfl hl.1 rfl (Nat.le_of_ble_eq_true rfl) ⟨Nat.zero_le _, Nat.zero_le _⟩ dX0_readFrom_50 (fun H locs hP hD hS => ?_)
      have hP : va_P (dC, dI) vwCl [(h0, .inr (0, [.int r_18, .int roomCount_, .int 0, .ref h0_barsOf, .ref h0_subjectOf, .ref h0_teacherOf, .ref h0_seatsOf, .ref h0_columnOf, .ref h0_columnsWith])), (h0_barsOf, .inl (cyI, 10, .inl barsOf_)), (h0_subjectOf, .inl (cyI, 16, .inl subjectOf_)), (h0_teacherOf, .inl (cyI, 16, .inl teacherOf_)), (h0_seatsOf, .inl (cyI, 16, .inl seatsOf_)), (h0_columnOf, .inl (cyI, 16, .inl columnOf_)), (h0_columnsWith, .inl (cyI, 10, .inl columnsWith_)), (h1, .inr (3, [.ref h1_signs, .int a1_size_, .int a1_at_24])), (h1_signs, .inl (cyC, 240, .inl a1_signs_))] H := hP
      have hD : va_D A [(h0, .inr (0, [.int r_18, .int roomCount_, .int 0, .ref h0_barsOf, .ref h0_subjectOf, .ref h0_teacherOf, .ref h0_seatsOf, .ref h0_columnOf, .ref h0_columnsWith])), (h0_barsOf, .inl (cyI, 10, .inl barsOf_)), (h0_subjectOf, .inl (cyI, 16, .inl subjectOf_)), (h0_teacherOf, .inl (cyI, 16, .inl teacherOf_)), (h0_seatsOf, .inl (cyI, 16, .inl seatsOf_)), (h0_columnOf, .inl (cyI, 16, .inl columnOf_)), (h0_columnsWith, .inl (cyI, 10, .inl columnsWith_)), (h1, .inr (3, [.ref h1_signs, .int a1_size_, .int a1_at_24])), (h1_signs, .inl (cyC, 240, .inl a1_signs_))] := hD
      refine va_put (D := (dC, dI)) (ci := 0) (v := .int r_23) (ty := .int) (C := RX0) (T := TX0) (N := 9) hx hb hts hiX0 tyX0 tyX0_ok nmX0 hown hK hP hD hS 0 rfl rfl 1 (by decide) (hts (.fieldLink RX0 15 "OptionLattice$Plan" "roomCount" "I") (by decide +kernel)) (fun _ h9 => h9) rfl (by decide +kernel) rfl rfl (Nat.le_of_ble_eq_true rfl) dX0_readFrom_53 (fun H locs hP hD hS => ?_)
      have hP : va_P (dC, dI) vwCl [(h0, .inr (0, [.int r_18, .int r_23, .int 0, .ref h0_barsOf, .ref h0_subjectOf, .ref h0_teacherOf, .ref h0_seatsOf, .ref h0_columnOf, .ref h0_columnsWith])), (h0_barsOf, .inl (cyI, 10, .inl barsOf_)), (h0_subjectOf, .inl (cyI, 16, .inl subjectOf_)), (h0_teacherOf, .inl (cyI, 16, .inl teacherOf_)), (h0_seatsOf, .inl (cyI, 16, .inl seatsOf_)), (h0_columnOf, .inl (cyI, 16, .inl columnOf_)), (h0_columnsWith, .inl (cyI, 10, .inl columnsWith_)), (h1, .inr (3, [.ref h1_signs, .int a1_size_, .int a1_at_24])), (h1_signs, .inl (cyC, 240, .inl a1_signs_))] H := hP
      have hD : va_D A [(h0, .inr (0, [.int r_18, .int r_23, .int 0, .ref h0_barsOf, .ref h0_subjectOf, .ref h0_teacherOf, .ref h0_seatsOf, .ref h0_columnOf, .ref h0_columnsWith])), (h0_barsOf, .inl (cyI, 10, .inl barsOf_)), (h0_subjectOf, .inl (cyI, 16, .inl subjectOf_)), (h0_teacherOf, .inl (cyI, 16, .inl teacherOf_)), (h0_seatsOf, .inl (cyI, 16, .inl seatsOf_)), (h0_columnOf, .inl (cyI, 16, .inl columnOf_)), (h0_columnsWith, .inl (cyI, 10, .inl columnsWith_)), (h1, .inr (3, [.ref h1_signs, .int a1_size_, .int a1_at_24])), (h1_signs, .inl (cyC, 240, .inl a1_signs_))] := hD
      refine lv_aload_n hx hb dX0_readFrom_56 rfl (lv_at hl 0 rfl) ?_
      refine va_get (D := (dC, dI)) (ci := 0) (v := .int r_23) (C := RX0) (T := TX0) (N := 9) hx hb hts hiX0 hown hK hP 0 rfl rfl 1 (by decide) (hts (.fieldLink RX0 15 "OptionLattice$Plan" "roomCount" "I") (by decide +kernel)) (fun _ h9 => h9) rfl dX0_readFrom_57 ?_
      refine lv_iconst (v := (-1)) hx hb dX0_readFrom_60 (by decide) ?_
      refine lv_icmp_ne (tgt := 66) hx hb dX0_readFrom_61 (by decide) (fun c_ => ?_) (fun c_ => ?_)
      · have h := (if_neg c_).symm.trans h
        refine lv_iconst (v := 0) hx hb dX0_readFrom_66 (by decide) ?_
        refine lv_istore_n (lv' := [(2, .int 0), (0, .ref h0), (1, .ref h1)]) hx hb dX0_readFrom_67 rfl hl (by decide) rfl (fun ls hl => ?_)
        exact L68 r_18 r_23 0 a1_at_24 1100 0 barsOf_ h _ _ _ hP hD hS (lv_sub hl [1, 2, 0] rfl)
      · have h := (if_pos c_).symm.trans h
        refine lv_iconst (v := 0) hx hb dX0_readFrom_64 (by decide) ?_
        have h : some (0, r_18, r_23, 0, barsOf_, subjectOf_, teacherOf_, seatsOf_, columnOf_, columnsWith_, a1_at_24) = some (rr, o0, o1, o2, o3, o4, o5, o6, o7, o8, o9) := h
        have z0 := Option.some.inj h
        obtain ⟨rfl, z1⟩ := Prod.mk.inj z0
        obtain ⟨rfl, z2⟩ := Prod.mk.inj z1
        obtain ⟨rfl, z3⟩ := Prod.mk.inj z2
        obtain ⟨rfl, z4⟩ := Prod.mk.inj z3
        obtain ⟨rfl, z5⟩ := Prod.mk.inj z4
        obtain ⟨rfl, z6⟩ := Prod.mk.inj z5
        obtain ⟨rfl, z7⟩ := Prod.mk.inj z6
        obtain ⟨rfl, z8⟩ := Prod.mk.inj z7
        obtain ⟨rfl, z9⟩ := Prod.mk.inj z8
        obtain ⟨rfl, z10⟩ := Prod.mk.inj z9
        obtain rfl := z10
        exact hret _ _ _ _ hP hS rfl dX0_readFrom_65
    · have h := (if_pos c_).symm.trans h
      refine lv_iconst (v := 0) hx hb dX0_readFrom_42 (by decide) ?_
      have h : some (0, r_18, roomCount_, 0, barsOf_, subjectOf_, teacherOf_, seatsOf_, columnOf_, columnsWith_, a1_at_21) = some (rr, o0, o1, o2, o3, o4, o5, o6, o7, o8, o9) := h
      have z0 := Option.some.inj h
      obtain ⟨rfl, z1⟩ := Prod.mk.inj z0
      obtain ⟨rfl, z2⟩ := Prod.mk.inj z1
      obtain ⟨rfl, z3⟩ := Prod.mk.inj z2
      obtain ⟨rfl, z4⟩ := Prod.mk.inj z3
      obtain ⟨rfl, z5⟩ := Prod.mk.inj z4
      obtain ⟨rfl, z6⟩ := Prod.mk.inj z5
      obtain ⟨rfl, z7⟩ := Prod.mk.inj z6
      obtain ⟨rfl, z8⟩ := Prod.mk.inj z7
      obtain ⟨rfl, z9⟩ := Prod.mk.inj z8
      obtain ⟨rfl, z10⟩ := Prod.mk.inj z9
      obtain rfl := z10
      exact hret _ _ _ _ hP hS rfl dX0_readFrom_43

def m_X1_has (size_ : Int32) (v1 : Int32) : Option (Int32) :=
  (if v1 < 0 then some 0 else (if size_ ≤ v1 then some 0 else some 1))
abbrev rmX1_has : Room := { frames := 0, cells := 0, slots := 0, locals := 0 }
set_option maxHeartbeats 4000000 in
set_option maxRecDepth 100000 in
theorem c_X1_has (l : Launch) (dC : Nat → ClassId) (dI : Nat → Nat → Nat) (cyC cyI cyJ : ClassId) (h0 h0_choicesOf : Nat) (size_ : Int32) (kept_ : Int32) (v1 : Int32) (rr : Int32) (h : m_X1_has size_ v1 = some rr) : uMi l yX1_has wsX1_has rmX1_has (dC, dI) [(cyC, .char), (cyI, .int), (cyJ, .long)] [.ref h0, .int v1] [(h0, .inr (1, [.ref h0_choicesOf, .int size_, .int kept_]))] [(h0, .inr (1, [.ref h0_choicesOf, .int size_, .int kept_]))] rr := by
  refine uMi.of (cc := cX1_has) (maxL := 2) (by decide) rfl (Nat.le_of_ble_eq_true rfl) (fun p e s m args below meth c A ls Q hx hb hml hown hts hA hP hK hD hE hS hl hret => ?_)
  have hown : s.vm.findClass RX1 = some m.cls := hown
  have hl : lv_has ls 2 [(0, .ref h0), (1, .int v1)] := hl
  have hiX1 : ∀ w ∈ u_ws RX1 TX1 3, w ∈ wsX1_has := fun _ h9 => List.mem_cons_of_mem _ (List.mem_append_right _ h9)
  unfold m_X1_has at h
  refine lv_iload_n hx hb dX1_has_0 rfl (lv_at hl 1 rfl) ?_
  refine lv_if_lt (tgt := 16) hx hb dX1_has_1 (by decide) (fun c_ => ?_) (fun c_ => ?_)
  · have h := (if_pos c_).symm.trans h
    refine lv_iconst (v := 0) hx hb dX1_has_16 (by decide) ?_
    have h : some 0 = some rr := h
    have z0 := Option.some.inj h
    obtain rfl := z0
    exact hret _ _ _ _ hP hS rfl dX1_has_17
  · have h := (if_neg c_).symm.trans h
    refine lv_iload_n hx hb dX1_has_4 rfl (lv_at hl 1 rfl) ?_
    refine lv_aload_n hx hb dX1_has_5 rfl (lv_at hl 0 rfl) ?_
    refine va_get (D := (dC, dI)) (ci := 1) (v := .int size_) (C := RX1) (T := TX1) (N := 3) hx hb hts hiX1 hown hK hP 0 rfl rfl 1 (by decide) (hts (.fieldLink RX1 15 "OptionLattice$Roll" "size" "I") (by decide +kernel)) (fun _ h9 => h9) rfl dX1_has_6 ?_
    refine lv_icmp_ge (tgt := 16) hx hb dX1_has_9 (by decide) (fun c_ => ?_) (fun c_ => ?_)
    · have h := (if_pos c_).symm.trans h
      refine lv_iconst (v := 0) hx hb dX1_has_16 (by decide) ?_
      have h : some 0 = some rr := h
      have z0 := Option.some.inj h
      obtain rfl := z0
      exact hret _ _ _ _ hP hS rfl dX1_has_17
    · have h := (if_neg c_).symm.trans h
      refine lv_iconst (v := 1) hx hb dX1_has_12 (by decide) ?_
      refine lv_goto (tgt := 17) hx hb dX1_has_13 (by decide) ?_
      have h : some 1 = some rr := h
      have z0 := Option.some.inj h
      obtain rfl := z0
      exact hret _ _ _ _ hP hS rfl dX1_has_17

def m_X1_empty (size_ : Int32) (kept_ : Int32) : Option (Int32 × Int32) :=
  some (0, 0)
abbrev rmX1_empty : Room := { frames := 0, cells := 0, slots := 0, locals := 0 }
set_option maxHeartbeats 4000000 in
set_option maxRecDepth 100000 in
theorem c_X1_empty (l : Launch) (dC : Nat → ClassId) (dI : Nat → Nat → Nat) (cyC cyI cyJ : ClassId) (h0 h0_choicesOf : Nat) (size_ : Int32) (kept_ : Int32) (o0 : Int32) (o1 : Int32) (h : m_X1_empty size_ kept_ = some (o0, o1)) : uMv l yX1_empty wsX1_empty rmX1_empty (dC, dI) [(cyC, .char), (cyI, .int), (cyJ, .long)] [.ref h0] [(h0, .inr (1, [.ref h0_choicesOf, .int size_, .int kept_]))] [(h0, .inr (1, [.ref h0_choicesOf, .int o0, .int o1]))] := by
  refine uMv.of (cc := cX1_empty) (maxL := 1) (by decide) rfl (Nat.le_of_ble_eq_true rfl) (fun p e s m args below meth c A ls Q hx hb hml hown hts hA hP hK hD hE hS hl hret => ?_)
  have hown : s.vm.findClass RX1 = some m.cls := hown
  have hl : lv_has ls 1 [(0, .ref h0)] := hl
  have hiX1 : ∀ w ∈ u_ws RX1 TX1 3, w ∈ wsX1_empty := fun _ h9 => List.mem_cons_of_mem _ (List.mem_append_right _ h9)
  unfold m_X1_empty at h
  refine lv_aload_n hx hb dX1_empty_0 rfl (lv_at hl 0 rfl) ?_
  refine lv_iconst (v := 0) hx hb dX1_empty_1 (by decide) ?_
  refine va_put (D := (dC, dI)) (ci := 1) (v := .int 0) (ty := .int) (C := RX1) (T := TX1) (N := 3) hx hb hts hiX1 tyX1 tyX1_ok nmX1 hown hK hP hD hS 0 rfl rfl 1 (by decide) (hts (.fieldLink RX1 15 "OptionLattice$Roll" "size" "I") (by decide +kernel)) (fun _ h9 => h9) rfl (by decide +kernel) rfl rfl (Nat.le_of_ble_eq_true rfl) dX1_empty_2 (fun H locs hP hD hS => ?_)
  have hP : va_P (dC, dI) vwCl [(h0, .inr (1, [.ref h0_choicesOf, .int 0, .int kept_]))] H := hP
  have hD : va_D A [(h0, .inr (1, [.ref h0_choicesOf, .int 0, .int kept_]))] := hD
  refine lv_aload_n hx hb dX1_empty_5 rfl (lv_at hl 0 rfl) ?_
  refine lv_iconst (v := 0) hx hb dX1_empty_6 (by decide) ?_
  refine va_put (D := (dC, dI)) (ci := 1) (v := .int 0) (ty := .int) (C := RX1) (T := TX1) (N := 3) hx hb hts hiX1 tyX1 tyX1_ok nmX1 hown hK hP hD hS 0 rfl rfl 2 (by decide) (hts (.fieldLink RX1 19 "OptionLattice$Roll" "kept" "I") (by decide +kernel)) (fun _ h9 => h9) rfl (by decide +kernel) rfl rfl (Nat.le_of_ble_eq_true rfl) dX1_empty_7 (fun H locs hP hD hS => ?_)
  have hP : va_P (dC, dI) vwCl [(h0, .inr (1, [.ref h0_choicesOf, .int 0, .int 0]))] H := hP
  have hD : va_D A [(h0, .inr (1, [.ref h0_choicesOf, .int 0, .int 0]))] := hD
  have h : some (0, 0) = some (o0, o1) := h
  have z0 := Option.some.inj h
  obtain ⟨rfl, z1⟩ := Prod.mk.inj z0
  obtain rfl := z1
  exact hret _ _ _ _ hP hS dX1_empty_10
