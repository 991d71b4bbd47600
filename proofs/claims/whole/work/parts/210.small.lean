/-! who chose -/
theorem choosersOf_eq {k : Nat} (hk : k ≤ 24) (ch : Nat → Int32) (v : Int32) : m_X1_choosersOf (nI k) ch v = some (msk (fun p => decide (ch p &&& v = v)) k) := by
  unfold m_X1_choosersOf
  refine mask_loop0 (E := fun x => some x) (by omega) (fun rec acc => ?_) (fun rec i hi acc => ?_)
  · unfold m_X1_choosersOf_4; rw [if_pos (Int32.le_refl _)]
  · have i24 : inb (nI i) 24 = true := inb_nI (by omega) (by decide)
    have cl : (nI i).toNatClampNeg = i := nI_clamp (by omega)
    unfold m_X1_choosersOf_4
    by_cases h : ch i &&& v = v
    · simp only [nI_ge hi (show k < 2 ^ 31 by omega), ↓reduceIte, i24, gd_tt, cl, lt_t, h, decide_true]
    · simp only [nI_ge hi (show k < 2 ^ 31 by omega), ↓reduceIte, i24, gd_tt, cl, lt_t, h, decide_false, Bool.false_eq_true]
theorem chose_eq {k : Nat} (hk : k ≤ 24) (ch : Nat → Int32) {s : Nat} (hs : s < 32) : m_X6_chose (nI k) ch (nI s) = some (msk (fun p => bt (ch p) s) k) := by
  unfold m_X6_chose
  refine mask_loop0 (E := fun x => some x) (by omega) (fun rec acc => ?_) (fun rec i hi acc => ?_)
  · unfold m_X6_chose_4; rw [if_pos (Int32.le_refl _)]
  · have i24 : inb (nI i) 24 = true := inb_nI (by omega) (by decide)
    have cl : (nI i).toNatClampNeg = i := nI_clamp (by omega)
    unfold m_X6_chose_4
    simp only [nI_ge hi (show k < 2 ^ 31 by omega), ↓reduceIte, i24, gd_tt, cl, lt_t, has_eq hs, bk1]
    by_cases h : bt (ch i) s = true
    · simp only [h, ↓reduceIte, e10]
    · simp only [h, ↓reduceIte, Bool.false_eq_true]
theorem and_bit1 {x : Int32} {s : Nat} (hs : s < 32) : (x &&& ((1 : Int32) <<< (nI s &&& 31)) = (1 : Int32) <<< (nI s &&& 31)) ↔ bt x s = true := by
  constructor
  · intro h
    have := congrArg (fun y => bt y s) h
    simp only [b_and, p_bit hs hs, decide_true, Bool.and_true] at this
    exact this
  · intro h
    refine b_ext (fun i hi => ?_)
    rw [b_and, p_bit hs hi]
    by_cases e : i = s
    · subst e; simp [h]
    · simp [e]
theorem and_bit0 {x : Int32} {s : Nat} (hs : s < 32) : (x &&& ((1 : Int32) <<< (nI s &&& 31)) = 0) ↔ bt x s = false := by
  constructor
  · intro h
    have := congrArg (fun y => bt y s) h
    simp only [b_and, p_bit hs hs, decide_true, Bool.and_true, b_0] at this
    exact this
  · intro h
    refine b_ext (fun i hi => ?_)
    rw [b_and, p_bit hs hi, b_0]
    by_cases e : i = s
    · subst e; simp [h]
    · simp [e]
theorem and_bit2 {x : Int32} {s t : Nat} (hs : s < 32) (ht : t < 32) : (x &&& (((1 : Int32) <<< (nI s &&& 31)) ||| ((1 : Int32) <<< (nI t &&& 31))) = (((1 : Int32) <<< (nI s &&& 31)) ||| ((1 : Int32) <<< (nI t &&& 31)))) ↔ (bt x s = true ∧ bt x t = true) := by
  constructor
  · intro h
    have h1 := congrArg (fun y => bt y s) h
    have h2 := congrArg (fun y => bt y t) h
    simp only [b_and, b_or, p_bit hs hs, p_bit hs ht, p_bit ht hs, p_bit ht ht, decide_true, Bool.and_true, Bool.true_or, Bool.or_true] at h1 h2
    exact ⟨h1, h2⟩
  · rintro ⟨h1, h2⟩
    refine b_ext (fun i hi => ?_)
    rw [b_and, b_or, p_bit hs hi, p_bit ht hi]
    by_cases e : i = s
    · subst e; simp [h1]
    · by_cases e2 : i = t
      · subst e2; simp [h2]
      · simp [e, e2]
theorem msk_and {P Q : Nat → Bool} {k : Nat} (hk : k ≤ 32) : msk P k &&& msk Q k = msk (fun i => P i && Q i) k :=
  b_ext (fun i hi => by rw [b_and, msk_bt P k hk, msk_bt Q k hk, msk_bt _ k hk]; cases decide (i < k) <;> simp)
/-- who chose both, in the two ways of telling -/
theorem chosen2 {k : Nat} (hk : k ≤ 24) {ch mch : Nat → Int32} (hr : okRoll k ch mch) {s t : Nat} (hs : s < 32) (ht : t < 32) :
    msk (fun p => decide (ch p &&& (((1 : Int32) <<< (nI s &&& 31)) ||| ((1 : Int32) <<< (nI t &&& 31))) = (((1 : Int32) <<< (nI s &&& 31)) ||| ((1 : Int32) <<< (nI t &&& 31))))) k = msk (fun p => bt (mch p) s) k &&& msk (fun p => bt (mch p) t) k := by
  rw [msk_and (by omega)]
  refine msk_congr (fun p hp => ?_)
  rw [(hr p hp).1]
  have := and_bit2 (x := mch p) hs ht
  cases e1 : bt (mch p) s <;> cases e2 : bt (mch p) t <;> simp [this, e1, e2]
theorem chosen1 {k : Nat} {ch mch : Nat → Int32} (hr : okRoll k ch mch) {s : Nat} (hs : s < 32) :
    msk (fun p => decide (ch p &&& ((1 : Int32) <<< (nI s &&& 31)) = (1 : Int32) <<< (nI s &&& 31))) k = msk (fun p => bt (mch p) s) k := by
  refine msk_congr (fun p hp => ?_)
  rw [(hr p hp).1]
  have := and_bit1 (x := mch p) hs
  cases e1 : bt (mch p) s <;> simp [this, e1]
theorem sim_both : Sim_both := by
  intro tc told ts tg cc rc sz bars subj teach seats col cw rs rk rch mt row tp tape mc mr mm mbars msubj mteach mseats mcol mp mk mch mth mopen v1 v2 hR
  have hR0 := hR
  obtain ⟨hrow, htext, ⟨rfl, rfl, rfl, n, r, z, ⟨hn1, hn6, rfl⟩, ⟨hr1, hr9, rfl⟩, ⟨hz, rfl⟩, hbars, hsec, hcw, hroom⟩, ⟨rfl, rfl, k, hk, rfl, hch⟩⟩ := hR
  unfold m_X5_both m_X6_both
  by_cases h1 : 0 ≤ v1.toInt ∧ v1.toInt < (10 : Nat)
  · by_cases h2 : 0 ≤ v2.toInt ∧ v2.toInt < (10 : Nat)
    · by_cases h3 : v1 = v2
      · simp only [X5_isSubject_eq, X6_isSubject_eq, h1, h2, and_self, bk1, ↓reduceIte, e10, if_pos h3]
        exact ⟨_, _, _, _, _, _, _, rfl, rfl, hR0⟩
      · obtain ⟨s, hs, rfl⟩ := rng_of h1 (by decide)
        obtain ⟨t, ht, rfl⟩ := rng_of h2 (by decide)
        obtain ⟨e1, e2⟩ := fit_rel hn6 hz hk hsec hcw hch mopen
        simp only [X5_isSubject_eq, X6_isSubject_eq, h1, h2, and_self, bk1, ↓reduceIte, e10, if_neg h3, choosersOf_eq hk, chose_eq hk mch (show s < 32 by omega), chose_eq hk mch (show t < 32 by omega), chosen2 hk hch (show s < 32 by omega) (show t < 32 by omega), bitCount_eq, bits_eq, e1, e2, bk2, tell2_eq, notes2_eq, lt_t]
        exact ⟨_, _, _, _, _, _, _, rfl, rfl, RRow_2 _ _ _ _, hR0.2⟩
    · simp only [X5_isSubject_eq, X6_isSubject_eq, h1, h2, and_self, bk1, ↓reduceIte, e10]
      exact ⟨_, _, _, _, _, _, _, rfl, rfl, hR0⟩
  · simp only [X5_isSubject_eq, X6_isSubject_eq, h1, bk1, ↓reduceIte]
    exact ⟨_, _, _, _, _, _, _, rfl, rfl, hR0⟩
/-! the columns of a subject -/
theorem subjectsIn_eq (cw : Nat → Int32) {c : Nat} (hc : c < 32) : m_X0_subjectsIn cw (nI c) = some (msk (fun s => bt (cw s) c) 10) := by
  unfold m_X0_subjectsIn
  refine mask_loop0 (z := 10) (E := fun x => some x) (by omega) (fun rec acc => ?_) (fun rec i hi acc => ?_)
  · unfold m_X0_subjectsIn_4; rw [if_pos (by decide)]
  · have g : ¬ (10 : Int32) ≤ nI i := nI_ge (a := i) (b := 10) hi (by decide)
    have i10 : inb (nI i) 10 = true := inb_nI (by omega) (by decide)
    have cl : (nI i).toNatClampNeg = i := nI_clamp (by omega)
    unfold m_X0_subjectsIn_4
    simp only [g, ↓reduceIte, i10, gd_tt, cl, lt_t, hasBit_eq hc, bk1]
    by_cases h : bt (cw i) c = true
    · simp only [h, ↓reduceIte, e10]
    · simp only [h, ↓reduceIte, Bool.false_eq_true]
def sjF (subj : Nat → Int32) (P : Nat → Bool) : Nat → Int32
  | 0 => 0
  | i + 1 => sjF subj P i ||| (if P i = true then (1 : Int32) <<< (subj i &&& 31) else 0)
theorem sjF_bit {subj : Nat → Int32} {P : Nat → Bool} {s : Nat} (hs : s < 32) : ∀ z, (∀ i, i < z → P i = true → ∃ a : Nat, a < 32 ∧ subj i = nI a) → (bt (sjF subj P z) s = true ↔ ∃ i, i < z ∧ P i = true ∧ subj i = nI s)
  | 0, _ => by
    rw [sjF, b_0]
    constructor
    · intro h; cases h
    · rintro ⟨i, hi, -⟩; exact absurd hi (by omega)
  | z + 1, h => by
    rw [sjF, b_or, Bool.or_eq_true, sjF_bit hs z (fun i hi => h i (by omega))]
    by_cases hp : P z = true
    · obtain ⟨a, ha, e⟩ := h z (by omega) hp
      rw [if_pos hp, e, p_bit (by omega) hs]
      constructor
      · rintro (⟨i, hi, h1, h2⟩ | h1)
        · exact ⟨i, by omega, h1, h2⟩
        · have : s = a := of_decide_eq_true h1
          subst this
          exact ⟨z, by omega, hp, e⟩
      · rintro ⟨i, hi, h1, h2⟩
        by_cases ei : i = z
        · subst ei
          rw [e] at h2
          exact Or.inr (decide_eq_true (nI_inj (by omega) (by omega) h2).symm)
        · exact Or.inl ⟨i, by omega, h1, h2⟩
    · rw [if_neg hp, b_0]
      constructor
      · rintro (⟨i, hi, h1, h2⟩ | h1)
        · exact ⟨i, by omega, h1, h2⟩
        · cases h1
      · rintro ⟨i, hi, h1, h2⟩
        by_cases ei : i = z
        · subst ei; exact absurd h1 hp
        · exact Or.inl ⟨i, by omega, h1, h2⟩
theorem b_iff {x y : Bool} (h : x = true ↔ y = true) : x = y := by
  cases x <;> cases y <;> simp at h ⊢
theorem sim_column : Sim_column := by
  intro tc told ts tg cc rc sz bars subj teach seats col cw rs rk rch mt row tp tape mc mr mm mbars msubj mteach mseats mcol mp mk mch mth v1 hR
  have hR0 := hR
  obtain ⟨hrow, htext, ⟨rfl, rfl, rfl, n, r, z, ⟨hn1, hn6, rfl⟩, ⟨hr1, hr9, rfl⟩, ⟨hz, rfl⟩, hbars, hsec, hcw, hroom⟩, hroll⟩ := hR
  have hn' : n < 2 ^ 31 := by omega
  unfold m_X5_column m_X6_column
  by_cases h1 : 0 ≤ v1.toInt ∧ v1.toInt < n
  · obtain ⟨c, hc, rfl⟩ := rng_of h1 hn'
    simp only [X0_hasColumn_eq hn', X6_isColumn_eq hn', h1, and_self, bk1, ↓reduceIte, e10, sectionsIn_eq hz, inColumn_eq (show z ≤ 17 by omega), bitCount_eq, subjectsIn_eq cw (show c < 32 by omega), tell2_eq, bk2, hsec.mskI (show c < 2 ^ 31 by omega)]
    generalize hm : msk (fun i => decide (mcol i = nI c)) z = m
    have hmb : ∀ i, i < z → bt m i = decide (mcol i = nI c) := by
      intro i hi
      rw [← hm, msk_bt _ z (by omega)]
      simp [hi]
    have eL : it2 (m_X6_column_26 0 mt (nI z) row msubj m) 1100 0 0 = m_X6_column_66 0 mt row m (sjF msubj (fun i => bt m i) z) := by
      refine seq2 (z := z) (sjF msubj (fun i => bt m i)) (fun i => nI i) (by omega) (fun rec => ?_) (fun rec i hi => ?_)
      · unfold m_X6_column_26; rw [if_pos (Int32.le_refl _)]
      · have i17 : inb (nI i) 17 = true := inb_nI (by omega) (by decide)
        have cl : (nI i).toNatClampNeg = i := nI_clamp (by omega)
        unfold m_X6_column_26
        simp only [nI_ge hi (show z < 2 ^ 31 by omega), ↓reduceIte, i17, gd_tt, cl, lt_t, has_eq (show i < 32 by omega), bk1, sjF, nI_1]
        by_cases h : bt m i = true
        · simp only [h, ↓reduceIte, e10]
        · simp only [h, ↓reduceIte, Bool.false_eq_true]
    have eS : msk (fun s => bt (cw s) c) 10 = sjF msubj (fun i => bt m i) z := by
      refine b_ext (fun s hs => b_iff ?_)
      rw [msk_bt _ 10 (by omega), sjF_bit hs z (fun i hi _ => by obtain ⟨a, ha, e⟩ := hsec.sub i hi; exact ⟨a, by omega, e⟩), Bool.and_eq_true, decide_eq_true_eq]
      constructor
      · rintro ⟨h10, hb⟩
        obtain ⟨i, hi, a1, a2⟩ := (hcw s h10 c (by omega)).mp hb
        exact ⟨i, hi, by rw [hmb i hi]; exact decide_eq_true ((hsec.colI hi (by omega)).mp a2), by rw [← (hsec i hi).1]; exact a1⟩
      · rintro ⟨i, hi, a1, a2⟩
        obtain ⟨a, ha, ea⟩ := hsec.sub i hi
        have hs10 : s < 10 := by
          rw [ea] at a2
          have := nI_inj (by omega) (by omega) a2
          omega
        refine ⟨hs10, (hcw s hs10 c (by omega)).mpr ⟨i, hi, by rw [(hsec i hi).1]; exact a2, ?_⟩⟩
        rw [hmb i hi] at a1
        exact (hsec.colI hi (by omega)).mpr (of_decide_eq_true a1)
    rw [eL, ← eS]
    unfold m_X6_column_66
    simp only [bits_eq, bk1, notes2_eq, bk2]
    exact ⟨_, _, _, _, _, _, rfl, rfl, RRow_2 _ _ _ _, hR0.2⟩
  · simp only [X0_hasColumn_eq hn', X6_isColumn_eq hn', h1, bk1, ↓reduceIte]
    exact ⟨_, _, _, _, _, _, rfl, rfl, hR0⟩
