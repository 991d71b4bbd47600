/-! seated, sits, lacking -/
def copyF (f g : Nat → Int32) (i : Nat) : Nat → Int32 := fun q => if q < i then g q else f q
theorem copyF_0 (f g : Nat → Int32) : copyF f g 0 = f := by funext q; unfold copyF; rw [if_neg (by omega)]
theorem copyF_s (f g : Nat → Int32) (i : Nat) : upd (copyF f g i) i (g i) = copyF f g (i + 1) := by
  funext q
  by_cases e : q = i
  · subst e; rw [upd_s]; unfold copyF; rw [if_pos (by omega)]
  · rw [upd_n e]; unfold copyF
    by_cases h : q < i
    · rw [if_pos h, if_pos (by omega)]
    · rw [if_neg h, if_neg (by omega)]
theorem copyF_at {f g : Nat → Int32} {i q : Nat} (h : q < i) : copyF f g i q = g q := if_pos h
theorem clear_eq {z : Nat} (hz : z ≤ 16) (left sit oc seats cw : Nat → Int32) : m_X2_clear left sit oc (nI z) seats cw = some (copyF left seats z, outF sit 0 z, copyF oc cw 10) := by
  unfold m_X2_clear
  have main : it3 (m_X2_clear_2 oc (nI z) seats cw) 1100 0 (copyF left seats 0) (outF sit 0 0) = some (copyF left seats z, outF sit 0 z, copyF oc cw 10) := by
    refine seq3 (z := z) (fun i => nI i) (fun i => copyF left seats i) (fun i => outF sit 0 i) (by omega) (fun rec => ?_) (fun rec i hi => ?_)
    · unfold m_X2_clear_2
      rw [if_pos (Int32.le_refl _)]
      obtain ⟨Z, hZ⟩ : ∃ Z : Nat, Z = 10 := ⟨_, rfl⟩
      have inner : it2 (m_X2_clear_37 (copyF left seats z) (outF sit 0 z) cw) 1100 0 (copyF oc cw 0) = some (copyF left seats z, outF sit 0 z, copyF oc cw Z) := by
        refine seq2 (z := Z) (fun i => nI i) (fun i => copyF oc cw i) (by omega) (fun rec => ?_) (fun rec i hi => ?_)
        · unfold m_X2_clear_37; rw [hZ, if_pos (by decide)]
        · have hi10 : i < 10 := by omega
          have g : ¬ (10 : Int32) ≤ nI i := nI_ge (a := i) (b := 10) hi10 (by decide)
          have i10 : inb (nI i) 10 = true := inb_nI hi10 (by decide)
          have cl : (nI i).toNatClampNeg = i := nI_clamp (by omega)
          unfold m_X2_clear_37
          rw [if_neg g, i10, gd_tt, gd_tt, lt_t, nI_1, cl, copyF_s]
      rw [copyF_0, hZ] at inner
      exact inner
    · have i16 : inb (nI i) 16 = true := inb_nI (by omega) (by decide)
      have cl : (nI i).toNatClampNeg = i := nI_clamp (by omega)
      unfold m_X2_clear_2
      rw [if_neg (nI_ge hi (by omega)), i16, gd_tt, gd_tt, gd_tt, lt_t, nI_1, cl, copyF_s, outF_s]
  rw [copyF_0, outF_0] at main
  exact main
theorem seatsM0 {z : Nat} (hz : z ≤ 16) (v1c : Int32) (k : Int32) (msubj mseats mcol mch mleft msat : Nat → Int32) (v1 : Int32) : m_X6_seatsAll v1c (nI z) k msubj mseats mcol mch mleft msat v1 = it4 (m_X6_seatsAll_32 v1c (nI z) k msubj mcol mch v1) 1100 0 0 (copyF mleft mseats z) msat := by
  unfold m_X6_seatsAll
  have main : it2 (m_X6_seatsAll_4 v1c (nI z) k msubj mseats mcol mch msat v1 0) 1100 0 (copyF mleft mseats 0) = it4 (m_X6_seatsAll_32 v1c (nI z) k msubj mcol mch v1) 1100 0 0 (copyF mleft mseats z) msat := by
    refine seq2 (z := z) (fun i => nI i) (fun i => copyF mleft mseats i) (by omega) (fun rec => ?_) (fun rec i hi => ?_)
    · unfold m_X6_seatsAll_4; rw [if_pos (Int32.le_refl _)]
    · have i17 : inb (nI i) 17 = true := inb_nI (by omega) (by decide)
      have cl : (nI i).toNatClampNeg = i := nI_clamp (by omega)
      unfold m_X6_seatsAll_4
      rw [if_neg (nI_ge hi (by omega)), i17, gd_tt, gd_tt, lt_t, nI_1, cl, copyF_s]
  rw [copyF_0] at main
  exact main
/-- the order in which pupils take seats -/
def pqF (k : Nat) (v : Int32) (q : Nat) : Nat := if v = 0 then q else k - 1 - q
theorem okLf_copy {z : Nat} {f g : Nat → Int32} {lf : Nat → Nat} (h : okLf z g lf) : okLf z (copyF f g z) lf := fun i hi => by
  rw [copyF_at hi]; exact h i hi
theorem seat_rel {n z k : Nat} (hn : n ≤ 6) (hz : z ≤ 16) (hk : k ≤ 24) {subj teach seats col cw msubj mteach mseats mcol : Nat → Int32} (hsec : RSec n z subj teach seats col msubj mteach mseats mcol) (hcw : RCw z subj col cw) {ch mch : Nat → Int32} (hr : okRoll k ch mch) {se mse : Nat → Int32} {lf0 : Nat → Nat} (h1 : okLf z se lf0) (h2 : okLf z mse lf0) (h3 : ∀ i, i < z → 0 < lf0 i) (v : Int32) (left sit oc first : Nat → Int32) (sa : Nat → Int64) (mleft msat : Nat → Int32) :
    ∃ who left' sit' oc' first' sa' mleft' msat', m_X2_seatAll left sit oc first sa (nI z) subj se col cw (nI k) ch v = some (who, left', sit', oc', first', sa') ∧ m_X6_seatsAll (nI n) (nI z) (nI k) msubj mse mcol mch mleft msat v = some (who, mleft', msat') ∧ SeI z subj col ch (pqF k v) lf0 k who left' sit' oc' mleft' msat' := by
  have hsel : (v = 0 ∧ ∀ q, q < k → pqF k v q = q) ∨ (¬ v = 0 ∧ ∀ q, q < k → pqF k v q = k - 1 - q) := by
    by_cases h : v = 0
    · exact Or.inl ⟨h, fun q _ => if_pos h⟩
    · exact Or.inr ⟨h, fun q _ => if_neg h⟩
  have hpq : ∀ q, q < k → pqF k v q < k := by
    intro q hq
    rcases hsel with ⟨_, h⟩ | ⟨_, h⟩
    · rw [h q hq]; exact hq
    · rw [h q hq]; omega
  have hinj : ∀ q r, q < k → r < k → pqF k v q = pqF k v r → q = r := by
    intro q r hq hr' e
    rcases hsel with ⟨_, h⟩ | ⟨_, h⟩
    · rw [h q hq, h r hr'] at e; exact e
    · rw [h q hq, h r hr'] at e; omega
  have hS : SeI z subj col ch (pqF k v) lf0 0 0 (copyF left se z) (outF sit 0 z) (copyF oc cw 10) (copyF mleft mse z) msat := by
    refine ⟨lf0, ⟨rfl, rfl⟩, okLf_copy h1, okLf_copy h2, fun s hs => ?_, fun i hi p hp => ?_, fun p hp h => ?_⟩
    · rw [copyF_at hs]
      refine b_ext (fun c hc => b_iff ?_)
      rw [hcw s hs c hc, ocX_bit hn hsec.ok lf0 s hc]
      constructor
      · rintro ⟨i, hi, a1, a2⟩; exact ⟨i, hi, a1, a2, h3 i hi⟩
      · rintro ⟨i, hi, a1, a2, _⟩; exact ⟨i, hi, a1, a2⟩
    · unfold outF
      rw [if_pos hi, b_0]; simp
    · rw [b_0] at h; cases h
  obtain ⟨who, left', sit', oc', first', sa', mleft', msat', e1, e2, e3⟩ := seat_loop hn hz hk hsec hr hpq hinj hsel lf0 k 0 1100 1100 0 (copyF left se z) (outF sit 0 z) (copyF oc cw 10) first sa (copyF mleft mse z) msat (by omega) (by omega) (by omega) hS
  refine ⟨who, left', sit', oc', first', sa', mleft', msat', ?_, ?_, e3⟩
  · unfold m_X2_seatAll
    rw [clear_eq hz, bk3]
    exact e1
  · rw [seatsM0 hz]
    exact e2
/-- the seats of the desk -/
theorem RSec.lf {n z : Nat} {subj teach seats col msubj mteach mseats mcol : Nat → Int32} (h : RSec n z subj teach seats col msubj mteach mseats mcol) : ∃ lf : Nat → Nat, okLf z seats lf ∧ okLf z mseats lf ∧ ∀ i, i < z → 1 ≤ lf i ∧ lf i ≤ 30 := by
  refine ⟨fun i => (mseats i).toNatClampNeg, fun i hi => ?_, fun i hi => ?_, fun i hi => ?_⟩
  · obtain ⟨a, a1, a2, e⟩ := (h i hi).2.2.2.2.2.1
    show seats i = nI (mseats i).toNatClampNeg ∧ (mseats i).toNatClampNeg ≤ 60
    rw [(h i hi).2.2.2.2.1, e, nI_clamp (by omega)]
    exact ⟨rfl, by omega⟩
  · obtain ⟨a, a1, a2, e⟩ := (h i hi).2.2.2.2.2.1
    show mseats i = nI (mseats i).toNatClampNeg ∧ (mseats i).toNatClampNeg ≤ 60
    rw [e, nI_clamp (by omega)]
    exact ⟨rfl, by omega⟩
  · obtain ⟨a, a1, a2, e⟩ := (h i hi).2.2.2.2.2.1
    show 1 ≤ (mseats i).toNatClampNeg ∧ (mseats i).toNatClampNeg ≤ 30
    rw [e, nI_clamp (by omega)]
    exact ⟨a1, a2⟩
theorem sim_seated : Sim_seated := by
  intro tc told ts tg cc rc sz bars subj teach seats col cw rs rk rch sl ss so sf ssa mt row tp tape mc mr mm mbars msubj mteach mseats mcol mp mk mch mth mleft msat v1 hv hR
  obtain ⟨hrow, htext, ⟨rfl, rfl, rfl, n, r, z, ⟨hn1, hn6, rfl⟩, ⟨hr1, hr9, rfl⟩, ⟨hz, rfl⟩, hbars, hsec, hcw, hroom⟩, ⟨rfl, rfl, k, hk, rfl, hch⟩⟩ := hR
  obtain ⟨lf, l1, l2, l3⟩ := hsec.lf
  obtain ⟨who, left', sit', oc', first', sa', mleft', msat', e1, e2, e3⟩ := seat_rel hn6 hz hk hsec hcw hch l1 l2 (fun i hi => by have := (l3 i hi).1; omega) v1 sl ss so sf ssa mleft msat
  have ex : m_X5_seated tc (nI z) subj seats col cw (nI k) rch sl ss so sf ssa told v1 = some (nI (pop who), 1, left', sit', oc', first', sa', vp_updL told 0 who.toInt64) := by
    unfold m_X5_seated
    rw [e1, bk6, tell1_eq, bk2, bitCount_eq, bk1]
  have em : m_X6_seated mth mt (nI n) (nI z) (nI k) row msubj mseats mcol mch mleft msat v1 = some (nI (pop who), 0, 1, upd row 0 who, mleft', msat') := by
    unfold m_X6_seated
    rw [e2, bk3, notes1_eq, bk2, bits_eq, bk1]
  exact ⟨_, _, _, _, _, _, _, _, _, _, _, _, _, ex, em, RRow_1 _ _ _, htext, ⟨rfl, rfl, rfl, n, r, z, ⟨hn1, hn6, rfl⟩, ⟨hr1, hr9, rfl⟩, ⟨hz, rfl⟩, hbars, hsec, hcw, hroom⟩, ⟨rfl, rfl, k, hk, rfl, hch⟩⟩
theorem sim_sits : Sim_sits := by
  intro tc told ts tg cc rc sz bars subj teach seats col cw rs rk rch sl ss so sf ssa mt row tp tape mc mr mm mbars msubj mteach mseats mcol mp mk mch mth mleft msat v1 hR
  have hR0 := hR
  obtain ⟨hrow, htext, ⟨rfl, rfl, rfl, n, r, z, ⟨hn1, hn6, rfl⟩, ⟨hr1, hr9, rfl⟩, ⟨hz, rfl⟩, hbars, hsec, hcw, hroom⟩, ⟨rfl, rfl, k, hk, rfl, hch⟩⟩ := hR
  have hz' : z < 2 ^ 31 := by omega
  by_cases h : 0 ≤ v1.toInt ∧ v1.toInt < z
  · obtain ⟨j, hj, rfl⟩ := rng_of h hz'
    have i16 : inb (nI j) 16 = true := inb_nI (by omega) (by decide)
    have i17 : inb (nI j) 17 = true := inb_nI (by omega) (by decide)
    have cl : (nI j).toNatClampNeg = j := nI_clamp (by omega)
    obtain ⟨lf, l1, l2, l3⟩ := hsec.lf
    obtain ⟨who, left', sit', oc', first', sa', mleft', msat', e1, e2, lf', s1, s2, s3, s4, s5, s6⟩ := seat_rel hn6 hz hk hsec hcw hch l1 l2 (fun i hi => by have := (l3 i hi).1; omega) 0 sl ss so sf ssa mleft msat
    have hsit : sit' j = msk (fun p => bt who p && bt (msat' p) j) k := by
      refine msk_ext (by omega) (fun p hp => b_iff ?_)
      rw [s5 j hj p hp]
      constructor
      · rintro ⟨a, b⟩
        obtain ⟨r', r1, r2⟩ := s6 p hp a
        have : pqF k 0 r' = r' := if_pos rfl
        have : p < k := by omega
        simp [this, a, b]
      · intro hh
        simp only [Bool.and_eq_true, decide_eq_true_eq] at hh
        exact hh.2
    have ex : m_X5_sits tc (nI z) subj seats col cw (nI k) rch sl ss so sf ssa told (nI j) = some (msk (fun p => bt who p && bt (msat' p) j) k, 1, left', sit', oc', first', sa', vp_updL told 0 (nI (lf' j)).toInt64) := by
      unfold m_X5_sits
      rw [X0_has_eq hz', if_pos h, bk1, if_neg (by decide), e1, bk6, i16, gd_tt, cl, (s2 j hj).1, tell1_eq, bk2, gd_tt, hsit]
    have em : m_X6_sits mth mt (nI n) (nI z) (nI k) row msubj mseats mcol mch mleft msat (nI j) = some (msk (fun p => bt who p && bt (msat' p) j) k, 0, 1, upd row 0 (nI (lf' j)), mleft', msat') := by
      unfold m_X6_sits
      rw [X6_isSection_eq hz', if_pos h, bk1, if_neg (by decide), e2, bk3]
      have lp : it2 (m_X6_sits_26 0 mt (nI k) row mleft' msat' (nI j) who) 1100 0 0 = m_X6_sits_75 0 mt row mleft' msat' (nI j) (msk (fun p => bt who p && bt (msat' p) j) k) := by
        refine mask_loop0 (E := fun x => m_X6_sits_75 0 mt row mleft' msat' (nI j) x) (by omega) (fun rec acc => ?_) (fun rec p hp acc => ?_)
        · unfold m_X6_sits_26; rw [if_pos (Int32.le_refl _)]
        · have i24 : inb (nI p) 24 = true := inb_nI (by omega) (by decide)
          have cp : (nI p).toNatClampNeg = p := nI_clamp (by omega)
          unfold m_X6_sits_26
          rw [if_neg (nI_ge hp (by omega)), has_eq (by omega), bk1, i24, gd_tt, cp, has_eq (by omega), bk1]
          simp only [lt_t]
          cases bt who p <;> cases bt (msat' p) j <;> simp
      rw [lp]
      unfold m_X6_sits_75
      rw [i17, gd_tt, cl, (s3 j hj).1, notes1_eq, bk2]
    exact ⟨_, _, _, _, _, _, _, _, _, _, _, _, _, ex, em, RRow_1 _ _ _, htext, ⟨rfl, rfl, rfl, n, r, z, ⟨hn1, hn6, rfl⟩, ⟨hr1, hr9, rfl⟩, ⟨hz, rfl⟩, hbars, hsec, hcw, hroom⟩, ⟨rfl, rfl, k, hk, rfl, hch⟩⟩
  · unfold m_X5_sits m_X6_sits
    simp only [X0_has_eq hz', X6_isSection_eq hz', h, bk1, ↓reduceIte]
    exact ⟨_, _, _, _, _, _, _, _, _, _, _, _, _, rfl, rfl, hR0⟩
/-! the least bit -/
theorem ntz_m : ∀ i, i < 31 → (if (0 : Int32) < nI (2 ^ i - 1) then (if nI (2 ^ i - 1) ≤ 65536 then m_J6_numberOfTrailingZeros_0f7a4_34 (nI (2 ^ i - 1)) 1 else lt' (1 + 16) (fun v1_8 => lt' (iushr (nI (2 ^ i - 1)) 16) (fun v0_9 => m_J6_numberOfTrailingZeros_0f7a4_34 v0_9 v1_8))) else some (nI (2 ^ i - 1) &&& 32)) = some (nI i) := by decide +kernel
theorem ntz_eq {m i : Nat} (hm : m < 2 ^ 31) (hi : m.testBit i = true) (hlo : ∀ j, j < i → m.testBit j = false) : m_J6_numberOfTrailingZeros_0f7a4 (nI m) = some (nI i) := by
  have hi31 : i < 31 := by
    rcases Nat.lt_or_ge i 31 with h | h
    · exact h
    · rw [Nat.testBit_lt_two_pow (Nat.lt_of_lt_of_le hm (Nat.pow_le_pow_right (by decide) h))] at hi; cases hi
  have h0 : m % 2 ^ i = 0 := by
    refine Nat.eq_of_testBit_eq (fun j => ?_)
    rw [Nat.testBit_mod_two_pow, Nat.zero_testBit]
    by_cases h : j < i
    · rw [hlo j h]; simp
    · simp [h]
  have h1 : m / 2 ^ i % 2 = 1 := by
    rw [Nat.testBit_eq_decide_div_mod_eq] at hi
    exact of_decide_eq_true hi
  have hQ1 : 1 ≤ m / 2 ^ i := by
    rcases Nat.eq_zero_or_pos (m / 2 ^ i) with e | e
    · rw [e] at h1; exact absurd h1 (by decide)
    · exact e
  have h2 := Nat.mod_add_div m (2 ^ i)
  have hpos : 0 < 2 ^ i := Nat.two_pow_pos i
  have hm1 : m - 1 = 2 ^ i * (m / 2 ^ i - 1) + (2 ^ i - 1) := by
    obtain ⟨a, ha⟩ : ∃ a, m / 2 ^ i = a + 1 := ⟨m / 2 ^ i - 1, (Nat.sub_add_cancel hQ1).symm⟩
    rw [ha, Nat.mul_add, Nat.mul_one] at h2
    rw [ha, Nat.add_sub_cancel]
    omega
  have hmp : 1 ≤ m := by
    rcases Nat.eq_zero_or_pos m with e | e
    · subst e; rw [Nat.zero_testBit] at hi; cases hi
    · exact e
  have key : ((nI m) ^^^ (-1)) &&& (nI m - 1) = nI (2 ^ i - 1) := by
    have e1 : nI m - 1 = nI (m - 1) := by
      obtain ⟨a, rfl⟩ : ∃ a, m = a + 1 := ⟨m - 1, by omega⟩
      rw [nI_pred, Nat.add_sub_cancel]
    rw [e1]
    refine b_ext (fun j hj => ?_)
    rw [b_and, p_not _ hj, p_nbit, p_nbit, p_nbit, Nat.testBit_two_pow_sub_one]
    simp only [hj, decide_true, Bool.true_and]
    rw [hm1, Nat.testBit_two_pow_mul_add _ (by omega)]
    by_cases hji : j < i
    · rw [if_pos hji, Nat.testBit_two_pow_sub_one, hlo j hji]; simp [hji]
    · rw [if_neg hji]
      simp only [hji, decide_false]
      obtain ⟨d, rfl⟩ : ∃ d, j = i + d := ⟨j - i, by omega⟩
      have hmj : m.testBit (i + d) = (m / 2 ^ i).testBit d := by rw [Nat.testBit_div_two_pow, Nat.add_comm]
      rw [hmj, Nat.add_sub_cancel_left]
      cases d with
      | zero =>
        have : (m / 2 ^ i).testBit 0 = true := by rw [Nat.testBit_zero]; exact decide_eq_true h1
        rw [this]; rfl
      | succ d =>
        have : (m / 2 ^ i - 1).testBit (d + 1) = (m / 2 ^ i).testBit (d + 1) := by
          rw [Nat.testBit_succ, Nat.testBit_succ]
          congr 1
          generalize m / 2 ^ i = Q at h1 ⊢
          omega
        rw [this]
        cases (m / 2 ^ i).testBit (d + 1) <;> rfl
  unfold m_J6_numberOfTrailingZeros_0f7a4
  rw [key, lt_t]
  exact ntz_m i hi31
theorem leastBit_0 {x : Int32} (h : ∀ i, i < 24 → bt x i = false) : m_X5_leastBit x = some (-1) := by
  unfold m_X5_leastBit
  obtain ⟨Z, hZ⟩ : ∃ Z : Nat, Z = 24 := ⟨_, rfl⟩
  refine find1_no (z := Z) (by omega) (fun rec => ?_) (fun rec i hi => ?_)
  · unfold m_X5_leastBit_2; rw [hZ, if_pos (by decide)]
  · unfold m_X5_leastBit_2
    rw [if_neg (show ¬ (24 : Int32) ≤ nI i from nI_ge (a := i) (b := 24) (by omega) (by decide)), hasBit_eq (by omega), bk1, h i (by omega), if_neg (show ¬ (false : Bool) = true by decide), if_pos rfl, lt_t]
theorem leastBit_i {x : Int32} {i : Nat} (hi : i < 24) (h1 : bt x i = true) (h : ∀ j, j < i → bt x j = false) : m_X5_leastBit x = some (nI i) := by
  unfold m_X5_leastBit
  refine find1_no (z := i) (by omega) (fun rec => ?_) (fun rec j hj => ?_)
  · unfold m_X5_leastBit_2
    rw [if_neg (show ¬ (24 : Int32) ≤ nI i from nI_ge (a := i) (b := 24) (by omega) (by decide)), hasBit_eq (by omega), bk1, if_pos h1, if_neg (by decide)]
  · unfold m_X5_leastBit_2
    rw [if_neg (show ¬ (24 : Int32) ≤ nI j from nI_ge (a := j) (b := 24) (by omega) (by decide)), hasBit_eq (by omega), bk1, h j hj, if_neg (show ¬ (false : Bool) = true by decide), if_pos rfl, lt_t]
/-! the first full subject -/
def fullS (z : Nat) (subj col : Nat → Int32) (lf : Nat → Nat) (s : Nat) : Prop := ∀ i, i < z → ¬ (subj i = nI s ∧ ¬ col i = -1 ∧ 0 < lf i)
theorem ocX_zero {n z : Nat} (hn : n ≤ 6) {subj col : Nat → Int32} (h : okSC n z subj col) (lf : Nat → Nat) (s : Nat) : ocX z subj col lf s = 0 ↔ fullS z subj col lf s := by
  constructor
  · rintro e i hi ⟨a1, a2, a3⟩
    rcases (h i hi).2 with g | ⟨c, hc, g⟩
    · exact a2 g
    · have := (ocX_bit hn h lf s (show c < 32 by omega)).mpr ⟨i, hi, a1, g, a3⟩
      rw [e, b_0] at this; cases this
  · intro hf
    refine b_ext (fun c hc => ?_)
    rw [b_0]
    cases e : bt (ocX z subj col lf s) c
    · rfl
    · obtain ⟨i, hi, a1, a2, a3⟩ := (ocX_bit hn h lf s hc).mp e
      exact absurd ⟨a1, by rw [a2]; exact nI_nm1 (by omega), a3⟩ (hf i hi)
theorem firstFullX {n z : Nat} (hn : n ≤ 6) (hz : z ≤ 16) {subj col left : Nat → Int32} (h : okSC n z subj col) {lf : Nat → Nat} (hl : okLf z left lf) (x : Int32) :
    ((∀ s, s < 10 → ¬ (bt x s = true ∧ fullS z subj col lf s)) → m_X2_firstFull left (nI z) subj col x = some (-1)) ∧ (∀ s, s < 10 → (bt x s = true ∧ fullS z subj col lf s) → (∀ k, k < s → ¬ (bt x k = true ∧ fullS z subj col lf k)) → m_X2_firstFull left (nI z) subj col x = some (nI s)) := by
  have no : ∀ (rec : Int32 → Option Int32) (s : Nat), s < 10 → ¬ (bt x s = true ∧ fullS z subj col lf s) → m_X2_firstFull_2 left (nI z) subj col x rec (nI s) = rec (nI s + 1) := by
    intro rec s hs hP
    unfold m_X2_firstFull_2
    rw [if_neg (show ¬ (10 : Int32) ≤ nI s from nI_ge (a := s) (b := 10) hs (by decide)), hasBit_eq (by omega), bk1, columnsLeft_eq hz hl, bk1]
    by_cases hb : bt x s = true
    · rw [if_pos hb, if_neg (by decide), if_neg (fun e => hP ⟨hb, (ocX_zero hn h lf s).mp e⟩), lt_t]
    · rw [if_neg hb, if_pos rfl, lt_t]
  unfold m_X2_firstFull
  constructor
  · intro hno
    obtain ⟨Z, hZ⟩ : ∃ Z : Nat, Z = 10 := ⟨_, rfl⟩
    refine find1_no (z := Z) (by omega) (fun rec => ?_) (fun rec s hs => no rec s (by omega) (hno s (by omega)))
    unfold m_X2_firstFull_2; rw [hZ, if_pos (by decide)]
  · intro s hs hP hmin
    refine find1_no (z := s) (by omega) (fun rec => ?_) (fun rec k hk => no rec k (by omega) (hmin k hk))
    unfold m_X2_firstFull_2
    rw [if_neg (show ¬ (10 : Int32) ≤ nI s from nI_ge (a := s) (b := 10) hs (by decide)), hasBit_eq (by omega), bk1, columnsLeft_eq hz hl, bk1, if_pos hP.1, if_neg (by decide), if_pos ((ocX_zero hn h lf s).mpr hP.2)]
theorem ff_in {n z : Nat} (hn : n ≤ 6) (hz : z ≤ 16) {subj teach seats col msubj mteach mseats mcol mleft : Nat → Int32} (hsec : RSec n z subj teach seats col msubj mteach mseats mcol) {lf : Nat → Nat} (hl : okLf z mleft lf) (s : Nat) (rec : Int32 → Option Int32) :
    (fullS z subj col lf s → it2 (m_X6_firstFull_17 (nI z) msubj mcol mleft (nI s) rec) 1100 1 0 = some (nI s)) ∧ (¬ fullS z subj col lf s → it2 (m_X6_firstFull_17 (nI z) msubj mcol mleft (nI s) rec) 1100 1 0 = rec (nI s + 1)) ∧ it2 (m_X6_firstFull_17 (nI z) msubj mcol mleft (nI s) rec) 1100 0 0 = rec (nI s + 1) := by
  have e75 : m_X6_firstFull_75 (nI s) 0 rec = rec (nI s + 1) := by
    unfold m_X6_firstFull_75; rw [if_pos rfl, lt_t]
  have zero : ∀ (rec2 : Int32 → Int32 → Option Int32) (i : Nat), m_X6_firstFull_17 (nI z) msubj mcol mleft (nI s) rec rec2 0 (nI i) = rec (nI s + 1) := by
    intro rec2 i
    unfold m_X6_firstFull_17
    rw [if_pos (rfl : (0 : Int32) = 0), e75]
    split <;> rfl
  have body : ∀ (rec2 : Int32 → Int32 → Option Int32) (i : Nat), i < z → m_X6_firstFull_17 (nI z) msubj mcol mleft (nI s) rec rec2 1 (nI i) = if subj i = nI s ∧ ¬ col i = -1 ∧ 0 < lf i then rec2 0 (nI (i + 1)) else rec2 1 (nI (i + 1)) := by
    intro rec2 i hi
    have i17 : inb (nI i) 17 = true := inb_nI (by omega) (by decide)
    have cl : (nI i).toNatClampNeg = i := nI_clamp (by omega)
    have h0 : (mleft i = 0) ↔ ¬ 0 < lf i := by
      rw [(hl i hi).1, nI_zero (by have := (hl i hi).2; omega)]; omega
    have hs1 := (hsec i hi).1
    have hc1 := hsec.outI hn hi
    unfold m_X6_firstFull_17
    rw [if_neg (nI_ge hi (by omega)), if_neg (by decide), i17, gd_tt, cl, gd_tt, gd_tt, lt_t, lt_t, nI_1, ← hs1]
    by_cases k1 : subj i = nI s
    · rw [if_pos k1]
      by_cases k2 : col i = -1
      · rw [if_pos (hc1.mp k2), if_neg (fun e => e.2.1 k2)]
      · rw [if_neg (fun e => k2 (hc1.mpr e))]
        by_cases k3 : 0 < lf i
        · rw [if_neg (fun e => (h0.mp e) k3), if_pos ⟨k1, k2, k3⟩]
        · rw [if_pos (h0.mpr k3), if_neg (fun e => k3 e.2.2)]
    · rw [if_neg k1, if_neg (fun e => k1 e.1)]
  refine ⟨fun hf => ?_, fun hf => ?_, ?_⟩
  · refine seq2 (z := z) (fun _ => (1 : Int32)) (fun i => nI i) (by omega) (fun rec2 => ?_) (fun rec2 i hi => ?_)
    · unfold m_X6_firstFull_17 m_X6_firstFull_75
      rw [if_pos (Int32.le_refl _), if_neg (by decide)]
    · show m_X6_firstFull_17 (nI z) msubj mcol mleft (nI s) rec rec2 1 (nI i) = rec2 1 (nI (i + 1))
      rw [body rec2 i hi, if_neg (hf i hi)]
  · rcases first_or (fun i => subj i = nI s ∧ ¬ col i = -1 ∧ 0 < lf i) z with hno | ⟨i, hi, hp, hm⟩
    · exact absurd hno hf
    · refine seq2 (z := i + 1) (fun q => if q = i + 1 then (0 : Int32) else 1) (fun q => nI q) (by omega) (fun rec2 => ?_) (fun rec2 q hq => ?_)
      · show m_X6_firstFull_17 (nI z) msubj mcol mleft (nI s) rec rec2 (if i + 1 = i + 1 then (0 : Int32) else 1) (nI (i + 1)) = rec (nI s + 1)
        rw [if_pos rfl, zero]
      · show m_X6_firstFull_17 (nI z) msubj mcol mleft (nI s) rec rec2 (if q = i + 1 then (0 : Int32) else 1) (nI q) = rec2 (if q + 1 = i + 1 then (0 : Int32) else 1) (nI (q + 1))
        rw [if_neg (by omega), body rec2 q (by omega)]
        by_cases e : q = i
        · subst e; rw [if_pos hp, if_pos rfl]
        · rw [if_neg (hm q (by omega)), if_neg (by omega)]
  · refine seq2 (z := 0) (fun _ => (0 : Int32)) (fun i => nI i) (by decide) (fun rec2 => zero rec2 0) (fun rec2 i hi => absurd hi (by omega))
theorem firstFullM {n z : Nat} (hn : n ≤ 6) (hz : z ≤ 16) {subj teach seats col msubj mteach mseats mcol mleft : Nat → Int32} (hsec : RSec n z subj teach seats col msubj mteach mseats mcol) {lf : Nat → Nat} (hl : okLf z mleft lf) (x : Int32) :
    ((∀ s, s < 10 → ¬ (bt x s = true ∧ fullS z subj col lf s)) → m_X6_firstFull (nI z) msubj mcol mleft x = some (-1)) ∧ (∀ s, s < 10 → (bt x s = true ∧ fullS z subj col lf s) → (∀ k, k < s → ¬ (bt x k = true ∧ fullS z subj col lf k)) → m_X6_firstFull (nI z) msubj mcol mleft x = some (nI s)) := by
  have no : ∀ (rec : Int32 → Option Int32) (s : Nat), s < 10 → ¬ (bt x s = true ∧ fullS z subj col lf s) → m_X6_firstFull_2 (nI z) msubj mcol mleft x rec (nI s) = rec (nI s + 1) := by
    intro rec s hs hP
    obtain ⟨f1, f2, f3⟩ := ff_in hn hz hsec hl s rec
    unfold m_X6_firstFull_2
    rw [if_neg (show ¬ (10 : Int32) ≤ nI s from nI_ge (a := s) (b := 10) hs (by decide)), has_eq (by omega), bk1]
    by_cases hb : bt x s = true
    · rw [if_pos hb]; exact f2 (fun e => hP ⟨hb, e⟩)
    · rw [if_neg hb]; exact f3
  unfold m_X6_firstFull
  constructor
  · intro hno
    obtain ⟨Z, hZ⟩ : ∃ Z : Nat, Z = 10 := ⟨_, rfl⟩
    refine find1_no (z := Z) (by omega) (fun rec => ?_) (fun rec s hs => no rec s (by omega) (hno s (by omega)))
    unfold m_X6_firstFull_2; rw [hZ, if_pos (by decide)]
  · intro s hs hP hmin
    refine find1_no (z := s) (by omega) (fun rec => ?_) (fun rec k hk => no rec k (by omega) (hmin k hk))
    obtain ⟨f1, f2, f3⟩ := ff_in hn hz hsec hl s rec
    unfold m_X6_firstFull_2
    rw [if_neg (show ¬ (10 : Int32) ≤ nI s from nI_ge (a := s) (b := 10) hs (by decide)), has_eq (by omega), bk1, if_pos hP.1]
    exact f1 hP.2
theorem firstFull_both {n z : Nat} (hn : n ≤ 6) (hz : z ≤ 16) {subj teach seats col msubj mteach mseats mcol left mleft : Nat → Int32} (hsec : RSec n z subj teach seats col msubj mteach mseats mcol) {lf : Nat → Nat} (hl : okLf z left lf) (hml : okLf z mleft lf) (x : Int32) :
    ∃ v, m_X2_firstFull left (nI z) subj col x = some v ∧ m_X6_firstFull (nI z) msubj mcol mleft x = some v := by
  obtain ⟨a1, a2⟩ := firstFullX hn hz hsec.ok hl x
  obtain ⟨b1, b2⟩ := firstFullM hn hz hsec hml x
  rcases first_or (fun s => bt x s = true ∧ fullS z subj col lf s) 10 with hno | ⟨s, hs, hp, hm⟩
  · exact ⟨-1, a1 hno, b1 hno⟩
  · exact ⟨nI s, a2 s hs hp hm, b2 s hs hp hm⟩
theorem sim_lacking : Sim_lacking := by
  intro tc told ts tg cc rc sz bars subj teach seats col cw rs rk rch sl ss so sf ssa mt row tp tape mc mr mm mbars msubj mteach mseats mcol mp mk mch mth mopen mleft msat hR
  obtain ⟨hrow, htext, ⟨rfl, rfl, rfl, n, r, z, ⟨hn1, hn6, rfl⟩, ⟨hr1, hr9, rfl⟩, ⟨hz, rfl⟩, hbars, hsec, hcw, hroom⟩, ⟨rfl, rfl, k, hk, rfl, hch⟩⟩ := hR
  obtain ⟨lf, l1, l2, l3⟩ := hsec.lf
  obtain ⟨f1, f2⟩ := fit_rel hn6 hz hk hsec hcw hch mopen
  obtain ⟨who, left', sit', oc', first', sa', mleft', msat', e1, e2, lf', s1, s2, s3, s4, s5, s6⟩ := seat_rel hn6 hz hk hsec hcw hch l1 l2 (fun i hi => by have := (l3 i hi).1; omega) 0 sl ss so sf ssa mleft msat
  have hk' : k < 2 ^ 31 := by omega
  have hbit : ∀ p, p < 32 → k ≤ p → bt (fitS cw rch k &&& (who ^^^ (-1))) p = false := by
    intro p hp hkp
    rw [b_and]
    unfold fitS
    rw [msk_bt _ k (by omega)]
    have : ¬ p < k := by omega
    simp [this]
  have hsm : ∃ m, m < 2 ^ 24 ∧ fitS cw rch k &&& (who ^^^ (-1)) = nI m := small_of (by decide) (fun p hp => by
    by_cases h32 : p < 32
    · exact hbit p h32 (by omega)
    · exact b_big (by omega))
  obtain ⟨m, hm, em⟩ := hsm
  rw [em] at hbit
  have hbm : ∀ p, p < 32 → bt (nI m) p = m.testBit p := fun p hp => by rw [p_nbit]; simp [hp]
  have hXl := firstFull_both hn6 hz hsec s2 s3
  rcases first_or (fun p => bt (nI m) p = true) 24 with hno | ⟨i, hi, hp, hmin⟩
  · have hno' : ∀ p, p < 24 → bt (nI m) p = false := fun p hp => by simpa using hno p hp
    have hm0 : nI m = 0 := b_ext (fun p hp => by
      rw [b_0]
      by_cases h : p < 24
      · exact hno' p h
      · exact hbit p hp (by omega))
    have ex : m_X5_lacking tc (nI z) subj seats col cw (nI k) rch sl ss so sf ssa told = some (nI m, 2, left', sit', oc', first', sa', vp_updL (vp_updL told 0 (-1 : Int32).toInt64) 1 (-1 : Int32).toInt64) := by
      unfold m_X5_lacking
      rw [f1, bk1, e1, bk6, em, lt_t, leastBit_0 hno', bk1, X1_has_eq hk', if_neg (fun e => absurd e.1 (by decide)), bk1, if_pos rfl]
      unfold m_X5_lacking_66
      rw [tell2_eq, bk2]
    have emm : m_X6_lacking mth mt (nI n) (nI z) (nI k) row msubj mseats mcol mch mopen mleft msat = some (nI m, 0, 2, upd (upd row 0 (-1)) 1 (-1), loN msubj mcol (loZ mopen 10) z, mleft', msat') := by
      unfold m_X6_lacking
      rw [f2, bk2, e2, bk3, em, lt_t, if_pos hm0]
      unfold m_X6_lacking_30 m_X6_lacking_52
      rw [if_pos rfl, notes2_eq, bk2]
    exact ⟨_, _, _, _, _, _, _, _, _, _, _, _, _, _, ex, emm, RRow_2 _ _ _ _, htext, ⟨rfl, rfl, rfl, n, r, z, ⟨hn1, hn6, rfl⟩, ⟨hr1, hr9, rfl⟩, ⟨hz, rfl⟩, hbars, hsec, hcw, hroom⟩, ⟨rfl, rfl, k, hk, rfl, hch⟩⟩
  · have hmin' : ∀ j, j < i → bt (nI m) j = false := fun j hj => by simpa using hmin j hj
    have hik : i < k := by
      rcases Nat.lt_or_ge i k with h | h
      · exact h
      · rw [hbit i (by omega) h] at hp; cases hp
    have hmne : ¬ nI m = 0 := fun e => by rw [e, b_0] at hp; cases hp
    have i24 : inb (nI i) 24 = true := inb_nI (by omega) (by decide)
    have cl : (nI i).toNatClampNeg = i := nI_clamp (by omega)
    have hrg : 0 ≤ (nI i).toInt ∧ (nI i).toInt < k := rng_to hik hk'
    obtain ⟨v, g1, g2⟩ := hXl (mch i)
    have ntz := ntz_eq (m := m) (i := i) (by omega) (by rw [← hbm i (by omega)]; exact hp) (fun j hj => by rw [← hbm j (by omega)]; exact hmin' j hj)
    have ex : m_X5_lacking tc (nI z) subj seats col cw (nI k) rch sl ss so sf ssa told = some (nI m, 2, left', sit', oc', first', sa', vp_updL (vp_updL told 0 (nI i).toInt64) 1 v.toInt64) := by
      unfold m_X5_lacking
      rw [f1, bk1, e1, bk6, em, lt_t, leastBit_i hi hp hmin', bk1, X1_has_eq hk', if_pos hrg, bk1, if_neg (by decide), i24, gd_tt, cl, (hch i hik).1, g1, bk1]
      unfold m_X5_lacking_66
      rw [tell2_eq, bk2]
    have emm : m_X6_lacking mth mt (nI n) (nI z) (nI k) row msubj mseats mcol mch mopen mleft msat = some (nI m, 0, 2, upd (upd row 0 (nI i)) 1 v, loN msubj mcol (loZ mopen 10) z, mleft', msat') := by
      unfold m_X6_lacking
      rw [f2, bk2, e2, bk3, em, lt_t, if_neg hmne, ntz, bk1]
      unfold m_X6_lacking_30 m_X6_lacking_52
      rw [if_neg (nI_nm1 (by omega)), i24, gd_tt, cl, g2, bk1, notes2_eq, bk2]
    exact ⟨_, _, _, _, _, _, _, _, _, _, _, _, _, _, ex, emm, RRow_2 _ _ _ _, htext, ⟨rfl, rfl, rfl, n, r, z, ⟨hn1, hn6, rfl⟩, ⟨hr1, hr9, rfl⟩, ⟨hz, rfl⟩, hbars, hsec, hcw, hroom⟩, ⟨rfl, rfl, k, hk, rfl, hch⟩⟩
