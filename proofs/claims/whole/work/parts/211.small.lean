theorem b_or0 (x : Int32) : x ||| 0 = x := b_ext (fun i _ => by rw [b_or, b_0, Bool.or_false])
theorem columnsOf_eq {z : Nat} (hz : z ≤ 17) (subj col : Nat → Int32) (v : Int32) : m_X6_columnsOf (nI z) subj col v = some (sjF col (fun i => decide (subj i = v ∧ ¬ col i < 0)) z) := by
  unfold m_X6_columnsOf
  refine seq2 (z := z) (sjF col (fun i => decide (subj i = v ∧ ¬ col i < 0))) (fun i => nI i) (by omega) (fun rec => ?_) (fun rec i hi => ?_)
  · unfold m_X6_columnsOf_4; rw [if_pos (Int32.le_refl _)]
  · have i17 : inb (nI i) 17 = true := inb_nI (by omega) (by decide)
    have cl : (nI i).toNatClampNeg = i := nI_clamp (by omega)
    unfold m_X6_columnsOf_4
    simp only [nI_ge hi (show z < 2 ^ 31 by omega), ↓reduceIte, i17, gd_tt, cl, lt_t, sjF, nI_1]
    by_cases h : subj i = v
    · by_cases h2 : col i < 0
      · simp only [h, h2, ↓reduceIte, not_true_eq_false, and_false, decide_false, Bool.false_eq_true]
      · simp only [h, h2, ↓reduceIte, not_false_eq_true, and_self, decide_true]
    · simp only [h, ↓reduceIte, false_and, decide_false, Bool.false_eq_true]
theorem columnsWithout_eq {z : Nat} (hz : z ≤ 16) (subj col : Nat → Int32) (v1 v2 : Int32) : m_X0_columnsWithout (nI z) subj col v1 v2 = some (sjF col (fun i => decide (¬ nI i = v2 ∧ subj i = v1 ∧ ¬ col i = -1)) z) := by
  unfold m_X0_columnsWithout
  refine seq2 (z := z) (sjF col (fun i => decide (¬ nI i = v2 ∧ subj i = v1 ∧ ¬ col i = -1))) (fun i => nI i) (by omega) (fun rec => ?_) (fun rec i hi => ?_)
  · unfold m_X0_columnsWithout_5; rw [if_pos (Int32.le_refl _)]
  · have i16 : inb (nI i) 16 = true := inb_nI (by omega) (by decide)
    have cl : (nI i).toNatClampNeg = i := nI_clamp (by omega)
    unfold m_X0_columnsWithout_5
    simp only [nI_ge hi (show z < 2 ^ 31 by omega), ↓reduceIte, i16, gd_tt, cl, lt_t, sjF, nI_1]
    by_cases h0 : nI i = v2
    · simp only [if_pos h0, h0, not_true_eq_false, false_and, decide_false, Bool.false_eq_true, ↓reduceIte, b_or0]
    · by_cases h : subj i = v1
      · by_cases h2 : col i = -1
        · simp only [h0, h, h2, ↓reduceIte, not_true_eq_false, and_false, decide_false, Bool.false_eq_true, b_or0]
        · simp only [h0, h, h2, ↓reduceIte, not_false_eq_true, and_self, decide_true]
      · simp only [h0, h, ↓reduceIte, false_and, and_false, decide_false, Bool.false_eq_true, b_or0]
theorem cw_columnsOf {n z : Nat} (hn : n ≤ 6) {subj teach seats col cw msubj mteach mseats mcol : Nat → Int32} (h : RSec n z subj teach seats col msubj mteach mseats mcol) (hcw : RCw z subj col cw) {s : Nat} (hs : s < 10) : sjF mcol (fun i => decide (msubj i = nI s ∧ ¬ mcol i < 0)) z = cw s := by
  refine b_ext (fun c hc => b_iff ?_)
  have hP : ∀ i, i < z → decide (msubj i = nI s ∧ ¬ mcol i < 0) = true → ∃ a : Nat, a < 32 ∧ mcol i = nI a := by
    intro i hi hp
    rcases h.mcols i hi with e | ⟨d, hd, e⟩
    · rw [e] at hp
      exact absurd (of_decide_eq_true hp).2 (by decide)
    · exact ⟨d, by omega, e⟩
  rw [sjF_bit hc z hP, hcw s hs c hc]
  constructor
  · rintro ⟨i, hi, h1, h2⟩
    exact ⟨i, hi, by rw [(h i hi).1]; exact (of_decide_eq_true h1).1, (h.colI hi (by omega)).mpr h2⟩
  · rintro ⟨i, hi, h1, h2⟩
    have h3 := (h.colI hi (by omega)).mp h2
    exact ⟨i, hi, decide_eq_true ⟨by rw [← (h i hi).1]; exact h1, by rw [h3]; exact nI_neg (by omega)⟩, h3⟩
def sbC (subj : Nat → Int32) (v : Int32) : Nat → Int32
  | 0 => 0
  | i + 1 => sbC subj v i + (if subj i = v then 1 else 0)
def sbS (subj seats : Nat → Int32) (v : Int32) : Nat → Int32
  | 0 => 0
  | i + 1 => sbS subj seats v i + (if subj i = v then seats i else 0)
theorem sb_congr {subj msubj seats mseats : Nat → Int32} {v : Int32} : ∀ {z : Nat}, (∀ i, i < z → subj i = msubj i ∧ seats i = mseats i) → sbC subj v z = sbC msubj v z ∧ sbS subj seats v z = sbS msubj mseats v z
  | 0, _ => ⟨rfl, rfl⟩
  | z + 1, h => by
    obtain ⟨a, b⟩ := sb_congr (v := v) (z := z) (fun i hi => h i (by omega))
    obtain ⟨c, d⟩ := h z (by omega)
    rw [sbC, sbC, sbS, sbS, a, b, c, d]
    exact ⟨rfl, rfl⟩
theorem sim_subject : Sim_subject := by
  intro tc told ts tg cc rc sz bars subj teach seats col cw rs rk rch mt row tp tape mc mr mm mbars msubj mteach mseats mcol mp mk mch mth v1 hR
  have hR0 := hR
  obtain ⟨hrow, htext, ⟨rfl, rfl, rfl, n, r, z, ⟨hn1, hn6, rfl⟩, ⟨hr1, hr9, rfl⟩, ⟨hz, rfl⟩, hbars, hsec, hcw, hroom⟩, ⟨rfl, rfl, k, hk, rfl, hch⟩⟩ := hR
  unfold m_X5_subject m_X6_subject
  by_cases h1 : 0 ≤ v1.toInt ∧ v1.toInt < (10 : Nat)
  · obtain ⟨s, hs, rfl⟩ := rng_of h1 (by decide)
    simp only [X5_isSubject_eq, X6_isSubject_eq, h1, and_self, bk1, ↓reduceIte, e10]
    have eX : it3 (m_X5_subject_16 tc (nI z) subj seats cw (nI k) rch told (nI s)) 1100 0 0 0 = m_X5_subject_64 tc cw (nI k) rch told (nI s) (sbC subj (nI s) z) (sbS subj seats (nI s) z) := by
      refine seq3 (z := z) (sbC subj (nI s)) (sbS subj seats (nI s)) (fun i => nI i) (by omega) (fun rec => ?_) (fun rec i hi => ?_)
      · unfold m_X5_subject_16; rw [if_pos (Int32.le_refl _)]
      · have i16 : inb (nI i) 16 = true := inb_nI (by omega) (by decide)
        have cl : (nI i).toNatClampNeg = i := nI_clamp (by omega)
        unfold m_X5_subject_16
        simp only [nI_ge hi (show z < 2 ^ 31 by omega), ↓reduceIte, i16, gd_tt, cl, lt_t, sbC, sbS, nI_1]
        by_cases h : subj i = nI s
        · simp only [h, ↓reduceIte]
        · simp only [h, ↓reduceIte, Int32.add_zero]
    have eM : it3 (m_X6_subject_21 0 mt (nI z) (nI k) row msubj mseats mcol mch (nI s)) 1100 0 0 0 = m_X6_subject_83 0 mt (nI z) (nI k) row msubj mcol mch (nI s) (sbC msubj (nI s) z) (sbS msubj mseats (nI s) z) := by
      refine seq3 (z := z) (sbC msubj (nI s)) (sbS msubj mseats (nI s)) (fun i => nI i) (by omega) (fun rec => ?_) (fun rec i hi => ?_)
      · unfold m_X6_subject_21; rw [if_pos (Int32.le_refl _)]
      · have i17 : inb (nI i) 17 = true := inb_nI (by omega) (by decide)
        have cl : (nI i).toNatClampNeg = i := nI_clamp (by omega)
        unfold m_X6_subject_21 m_X6_subject_47
        simp only [nI_ge hi (show z < 2 ^ 31 by omega), ↓reduceIte, i17, gd_tt, cl, lt_t, sbC, sbS, nI_1, m_X6_flag, e10, bk1]
        by_cases h : msubj i = nI s
        · simp only [h, ↓reduceIte]
        · simp only [h, ↓reduceIte]
    obtain ⟨c1, c2⟩ := sb_congr (v := nI s) (z := z) (fun i hi => ⟨(hsec i hi).1, (hsec i hi).2.2.2.2.1⟩)
    rw [eX, eM, c1, c2]
    unfold m_X5_subject_64 m_X6_subject_83
    have i10 : inb (nI s) 10 = true := inb_nI hs (by decide)
    have cl : (nI s).toNatClampNeg = s := nI_clamp (by omega)
    simp only [choosersOf_eq hk, chose_eq hk mch (show s < 32 by omega), chosen1 hch (show s < 32 by omega), bitCount_eq, bits_eq, tell3_eq, notes2_eq, bk1, bk2, i10, gd_tt, cl, columnsOf_eq (show z ≤ 17 by omega), cw_columnsOf hn6 hsec hcw hs, show (2 : Int32) = nI 2 from rfl, notes_eq (show 2 < 32 by decide)]
    exact ⟨_, _, _, _, _, _, rfl, rfl, RRow_3 _ _ _ _ _, hR0.2⟩
  · simp only [X5_isSubject_eq, X6_isSubject_eq, h1, bk1, ↓reduceIte]
    exact ⟨_, _, _, _, _, _, rfl, rfl, hR0⟩
/-! sets -/
def stS (W : Nat → Bool) (k : Int32) : Nat → Int32 × Int32 × Int32
  | 0 => (0, 0, -1)
  | i + 1 => if nI (pop (nI i)) = k then ((stS W k i).1 + 1, (stS W k i).2.1 + fl (W i), if W i = true then (stS W k i).2.2 else if (stS W k i).2.2 = -1 then nI i else (stS W k i).2.2) else stS W k i
theorem sets_1 (W : Nat → Bool) {m : Nat} (hm1 : 1 ≤ m) (hm6 : m ≤ 6) : stS W (nI m) (0 + 1) = (0, 0, -1) := by
  rw [stS, if_neg]
  · rw [stS]
  · rw [nI_eq (by have := pop_le (nI 0); omega) (by omega)]
    have : pop (nI 0) = 0 := by decide
    omega
theorem sets_X {W : Nat → Bool} {cw : Nat → Int32} (hW : ∀ i, W i = wy cw (bl (nI i)) 0) {m : Nat} (hm1 : 1 ≤ m) (hm6 : m ≤ 6) (tc : Int32) (told : Nat → Int64) : ∀ {Z : Nat}, Z = 1024 →
    it4 (m_X5_sets_23 tc cw told (nI m)) 1100 0 0 (-1) 1 = m_X5_sets_77 tc told (stS W (nI m) Z).1 (stS W (nI m) Z).2.1 (stS W (nI m) Z).2.2 := by
  intro Z hZ
  have := seq4' (b := m_X5_sets_23 tc cw told (nI m)) (z := Z) (E := m_X5_sets_77 tc told (stS W (nI m) Z).1 (stS W (nI m) Z).2.1 (stS W (nI m) Z).2.2) (fun i => (stS W (nI m) i).1) (fun i => (stS W (nI m) i).2.1) (fun i => (stS W (nI m) i).2.2) (fun i => nI i) (fun rec => ?_) (fun rec i hi => ?_) (Z - 1) (0 + 1) 1100 (by omega) (by omega)
  · simp only [sets_1 W hm1 hm6] at this
    exact this
  · unfold m_X5_sets_23; rw [hZ, if_pos (by decide)]
  · have g : ¬ (1023 : Int32) < nI i := by rw [show (1023 : Int32) = nI 1023 from rfl, nI_ltI (by omega) (by omega)]; omega
    unfold m_X5_sets_23
    simp only [g, ↓reduceIte, bitCount_eq, bk1, lt_t, hasWayX_eq, nI_1, stS]
    by_cases hp : nI (pop (nI i)) = nI m
    · simp only [if_pos hp, fl_0]
      rw [hW i]
      cases wy cw (bl (nI i)) 0
      · simp only [↓reduceIte, fl, Bool.false_eq_true, Int32.add_zero]
        by_cases hf : (stS W (nI m) i).2.2 = -1
        · simp only [if_pos hf]
        · simp only [if_neg hf]
      · simp only [↓reduceIte, fl, Bool.true_eq_false]
    · simp only [if_neg hp]
theorem sets_M {W : Nat → Bool} {op : Nat → Int32} (hsm : small6 op) (hW : ∀ i, W i = wy op (bl (nI i)) 0) {m : Nat} (hm1 : 1 ≤ m) (hm6 : m ≤ 6) (mt : Int32) (row : Nat → Int32) : ∀ {Z : Nat}, Z = 1024 →
    it4 (m_X6_sets_33 0 mt row op (nI m)) 1100 0 0 (-1) 0 = m_X6_sets_99 0 mt row op (stS W (nI m) Z).1 (stS W (nI m) Z).2.1 (stS W (nI m) Z).2.2 := by
  intro Z hZ
  refine seq4 (z := Z) (fun i => (stS W (nI m) i).1) (fun i => (stS W (nI m) i).2.1) (fun i => (stS W (nI m) i).2.2) (fun i => nI i) (by omega) (fun rec => ?_) (fun rec i hi => ?_)
  · unfold m_X6_sets_33; rw [hZ, if_pos (by decide)]
  · have g : ¬ (1024 : Int32) ≤ nI i := nI_ge (a := i) (b := 1024) (by omega) (by decide)
    unfold m_X6_sets_33
    simp only [g, ↓reduceIte, bits_eq, bk1, lt_t, nI_1, stS]
    by_cases hp : nI (pop (nI i)) = nI m
    · have hp' : pop (nI i) = m := nI_inj (by have := pop_le (nI i); omega) (by omega) hp
      have hl : (blN i).length < 8 := by have := blN_len i; omega
      have e := hasWayM_eq hsm 8 i 0 (by omega) (by decide) hl
      rw [← bl_nI, ← hW i, nI_0] at e
      simp only [if_pos hp, e, bk1, flag_fl, fl_0]
      cases W i
      · simp only [↓reduceIte, fl, Bool.false_eq_true]
        by_cases hf : (stS W (nI m) i).2.2 = -1
        · simp only [if_pos hf]
        · simp only [if_neg hf]
      · simp only [↓reduceIte, fl, Bool.true_eq_false]
    · simp only [if_neg hp]
theorem sim_sets : Sim_sets := by
  intro tc told ts tg cc rc sz bars subj teach seats col cw rs rk rch mt row tp tape mc mr mm mbars msubj mteach mseats mcol mp mk mch mth mopen v1 hR
  have hR0 := hR
  obtain ⟨hrow, htext, ⟨rfl, rfl, rfl, n, r, z, ⟨hn1, hn6, rfl⟩, ⟨hr1, hr9, rfl⟩, ⟨hz, rfl⟩, hbars, hsec, hcw, hroom⟩, hroll⟩ := hR
  unfold m_X5_sets m_X6_sets
  have ein : m_X6_in v1.toInt64 1 6 = some (if 1 ≤ v1.toInt ∧ v1.toInt ≤ 6 then 1 else 0) := in_eq v1 1 6
  rw [ein]
  by_cases h : 1 ≤ v1.toInt ∧ v1.toInt ≤ 6
  · obtain ⟨m, hm1, hm6, rfl⟩ : ∃ m : Nat, 1 ≤ m ∧ m ≤ 6 ∧ v1 = nI m := ⟨v1.toInt.toNat, by omega, by omega, Int32.toInt_inj.mp (by rw [nI_toInt (by omega)]; omega)⟩
    have g1 : ¬ nI m < 1 := by rw [show (1 : Int32) = nI 1 from rfl, nI_ltI (by omega) (by omega)]; omega
    have g2 : nI m ≤ 6 := by rw [show (6 : Int32) = nI 6 from rfl, nI_leI (by omega) (by omega)]; omega
    obtain ⟨Z, hZ⟩ : ∃ Z : Nat, Z = 1024 := ⟨_, rfl⟩
    rw [if_pos h, if_neg g1, if_pos g2, bk1, if_neg (by decide), laysOpen_eq (show z ≤ 17 by omega) hsec.sub, bk1,
      sets_X (W := fun i => wy cw (bl (nI i)) 0) (fun i => rfl) hm1 hm6 tc told hZ,
      sets_M (W := fun i => wy cw (bl (nI i)) 0) (loN_small hn6 hsec.sub hsec.mcols mopen) (fun i => wy_eq (cw_open hn6 hsec hcw mopen) (nI i) 0) hm1 hm6 mt row hZ]
    generalize stS (fun i => wy cw (bl (nI i)) 0) (nI m) Z = S
    unfold m_X5_sets_77 m_X6_sets_99
    simp only [tell2_eq, notes2_eq, bk2]
    exact ⟨_, _, _, _, _, _, _, rfl, rfl, RRow_2 _ _ _ _, hR0.2⟩
  · simp only [if_neg h, bk1, ↓reduceIte]
    by_cases g1 : v1 < 1
    · rw [if_pos g1]; exact ⟨_, _, _, _, _, _, _, rfl, rfl, hR0⟩
    · rw [if_neg g1]
      by_cases g2 : v1 ≤ 6
      · exfalso
        rw [Int32.lt_iff_toInt_lt, show (1 : Int32).toInt = 1 from rfl] at g1
        rw [Int32.le_iff_toInt_le, show (6 : Int32).toInt = 6 from rfl] at g2
        omega
      · rw [if_neg g2]; exact ⟨_, _, _, _, _, _, _, rfl, rfl, hR0⟩
