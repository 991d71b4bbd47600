/-! count, rooms, bars -/
theorem inCol_congr {col mcol : Nat → Int32} {c : Nat} : ∀ {z : Nat}, (∀ i, i < z → (col i = nI c ↔ mcol i = nI c)) → inCol col c z = inCol mcol c z
  | 0, _ => rfl
  | z + 1, h => by
    rw [inCol, inCol, inCol_congr (fun i hi => h i (by omega))]
    by_cases e : col z = nI c
    · rw [if_pos e, if_pos ((h z (by omega)).mp e)]
    · rw [if_neg e, if_neg (fun q => e ((h z (by omega)).mpr q))]
theorem inCol_le (col : Nat → Int32) (c : Nat) : ∀ z, inCol col c z ≤ z
  | 0 => Nat.le_refl 0
  | z + 1 => by
    have := inCol_le col c z
    rw [inCol]
    by_cases e : col z = nI c
    · rw [if_pos e]; omega
    · rw [if_neg e]; omega
theorem fullColumns_eq {n r z : Nat} (hn : n ≤ 6) (hr : r ≤ 9) (hz : z ≤ 16) (col : Nat → Int32) : m_X0_fullColumns (nI n) (nI r) (nI z) col = some (msk (fun c => decide (r ≤ inCol col c z)) n) := by
  unfold m_X0_fullColumns
  refine mask_loop0 (E := fun x => some x) (by omega) (fun rec acc => ?_) (fun rec c hc acc => ?_)
  · unfold m_X0_fullColumns_4; rw [if_pos (Int32.le_refl _)]
  · unfold m_X0_fullColumns_4
    have hle := inCol_le col c z
    simp only [nI_ge hc (show n < 2 ^ 31 by omega), ↓reduceIte, sectionsIn_eq hz, bk1, bitCount_eq, pop_inCol col c (show z ≤ 32 by omega), lt_t, nI_ltI (show inCol col c z < 2 ^ 31 by omega) (show r < 2 ^ 31 by omega)]
    by_cases h : inCol col c z < r
    · have h2 : ¬ r ≤ inCol col c z := by omega
      simp only [if_pos h, h2, decide_false, Bool.false_eq_true, ↓reduceIte]
    · have h2 : r ≤ inCol col c z := by omega
      simp only [if_neg h, h2, decide_true, ↓reduceIte]
theorem fulls_eq {n r z : Nat} (hn : n ≤ 6) (hr : r ≤ 9) (hz : z ≤ 16) (col : Nat → Int32) : m_X6_fulls (nI n) (nI r) (nI z) col = some (msk (fun c => decide (inCol col c z = r)) n) := by
  unfold m_X6_fulls
  refine mask_loop0 (E := fun x => some x) (by omega) (fun rec acc => ?_) (fun rec c hc acc => ?_)
  · unfold m_X6_fulls_4; rw [if_pos (Int32.le_refl _)]
  · unfold m_X6_fulls_4
    have hle := inCol_le col c z
    simp only [nI_ge hc (show n < 2 ^ 31 by omega), ↓reduceIte, inColumn_eq (show z ≤ 17 by omega), bk1, bits_eq, pop_inCol col c (show z ≤ 32 by omega), lt_t, nI_eq (show inCol col c z < 2 ^ 31 by omega) (show r < 2 ^ 31 by omega)]
    by_cases h : inCol col c z = r
    · simp only [h, decide_true, ↓reduceIte]
    · simp only [h, decide_false, Bool.false_eq_true, ↓reduceIte]
def bz1 (t : Nat → Int32) : Nat → Int32
  | 0 => 0
  | i + 1 => bz1 t i ||| ((1 : Int32) <<< (t i &&& 31))
def bz2 (t : Nat → Int32) : Nat → Int32
  | 0 => 0
  | i + 1 => bz2 t i ||| (bz1 t i &&& ((1 : Int32) <<< (t i &&& 31)))
theorem bz_congr {t u : Nat → Int32} : ∀ {z : Nat}, (∀ i, i < z → t i = u i) → bz1 t z = bz1 u z ∧ bz2 t z = bz2 u z
  | 0, _ => ⟨rfl, rfl⟩
  | z + 1, h => by
    obtain ⟨a, b⟩ := bz_congr (z := z) (fun i hi => h i (by omega))
    rw [bz1, bz1, bz2, bz2, a, b, h z (by omega)]
    exact ⟨rfl, rfl⟩
theorem busyX_eq {z : Nat} (hz : z ≤ 16) (t : Nat → Int32) : m_X0_busyTeachers (nI z) t = some (bz2 t z) := by
  unfold m_X0_busyTeachers
  refine seq3 (z := z) (bz1 t) (bz2 t) (fun i => nI i) (by omega) (fun rec => ?_) (fun rec i hi => ?_)
  · unfold m_X0_busyTeachers_6; rw [if_pos (Int32.le_refl _)]
  · have i16 : inb (nI i) 16 = true := inb_nI (by omega) (by decide)
    have cl : (nI i).toNatClampNeg = i := nI_clamp (by omega)
    unfold m_X0_busyTeachers_6
    simp only [nI_ge hi (show z < 2 ^ 31 by omega), ↓reduceIte, i16, gd_tt, cl, lt_t, bz1, bz2, nI_1]
theorem busyM_eq {z : Nat} (hz : z ≤ 17) (t : Nat → Int32) : m_X6_busyTeachers (nI z) t = some (bz2 t z) := by
  unfold m_X6_busyTeachers
  refine seq3 (z := z) (bz1 t) (bz2 t) (fun i => nI i) (by omega) (fun rec => ?_) (fun rec i hi => ?_)
  · unfold m_X6_busyTeachers_6; rw [if_pos (Int32.le_refl _)]
  · have i17 : inb (nI i) 17 = true := inb_nI (by omega) (by decide)
    have cl : (nI i).toNatClampNeg = i := nI_clamp (by omega)
    unfold m_X6_busyTeachers_6
    simp only [nI_ge hi (show z < 2 ^ 31 by omega), ↓reduceIte, i17, gd_tt, cl, lt_t, bz1, bz2, nI_1]
theorem sim_count : Sim_count := by
  intro tc told ts tg cc rc sz bars subj teach seats col cw rs rk rch mt row tp tape mc mr mm mbars msubj mteach mseats mcol mp mk mch mth v1 hR
  have hR0 := hR
  obtain ⟨⟨rfl, -⟩, ⟨rfl, -⟩, ⟨rfl, rfl, rfl, n, r, z, ⟨hn1, hn6, rfl⟩, ⟨hr1, hr9, rfl⟩, ⟨hz, rfl⟩, hbars, hsec, hcw, hroom⟩, ⟨rfl, rfl, -⟩⟩ := hR
  unfold m_X5_count m_X6_count
  have eo : msk (fun i => decide (col i = -1)) z = msk (fun i => decide (mcol i = -2)) z := hsec.mskO hn6
  have ef : msk (fun c => decide (r ≤ inCol col c z)) n = msk (fun c => decide (inCol mcol c z = r)) n := by
    refine msk_congr (fun c hc => ?_)
    have e1 : inCol col c z = inCol mcol c z := inCol_congr (fun i hi => hsec.colI hi (by omega))
    have e2 := hroom c hc
    rw [e1] at e2 ⊢
    exact decide_eq_decide.mpr (by omega)
  have eb : bz2 teach z = bz2 mteach z := (bz_congr (fun i hi => (hsec i hi).2.2.1)).2
  simp only [sectionsIn_eq hz, outs_eq (show z ≤ 17 by omega), fullColumns_eq hn6 hr9 hz, fulls_eq hn6 hr9 hz, busyX_eq hz, busyM_eq (show z ≤ 17 by omega), bk1, eo, ef, eb]
  by_cases h0 : v1 = 0
  · simp only [if_pos h0]; exact ⟨_, _, rfl, rfl, hR0⟩
  by_cases h1 : v1 = 1
  · simp only [if_neg h0, if_pos h1]; exact ⟨_, _, rfl, rfl, hR0⟩
  by_cases h2 : v1 = 2
  · simp only [if_neg h0, if_neg h1, if_pos h2]; exact ⟨_, _, rfl, rfl, hR0⟩
  by_cases h3 : v1 = 3
  · simp only [if_neg h0, if_neg h1, if_neg h2, if_pos h3]; exact ⟨_, _, rfl, rfl, hR0⟩
  by_cases h4 : v1 = 4
  · simp only [if_neg h0, if_neg h1, if_neg h2, if_neg h3, if_pos h4]; exact ⟨_, _, rfl, rfl, hR0⟩
  by_cases h5 : v1 = 5
  · simp only [if_neg h0, if_neg h1, if_neg h2, if_neg h3, if_neg h4, if_pos h5]; exact ⟨_, _, rfl, rfl, hR0⟩
  by_cases h6 : v1 = 6
  · simp only [if_neg h0, if_neg h1, if_neg h2, if_neg h3, if_neg h4, if_neg h5, if_pos h6]; exact ⟨_, _, rfl, rfl, hR0⟩
  by_cases h7 : v1 = 7
  · simp only [if_neg h0, if_neg h1, if_neg h2, if_neg h3, if_neg h4, if_neg h5, if_neg h6, if_pos h7]; exact ⟨_, _, rfl, rfl, hR0⟩
  by_cases h8 : v1 = 8
  · simp only [if_neg h0, if_neg h1, if_neg h2, if_neg h3, if_neg h4, if_neg h5, if_neg h6, if_neg h7, if_pos h8]; exact ⟨_, _, rfl, rfl, hR0⟩
  by_cases h9 : v1 = 9
  · simp only [if_neg h0, if_neg h1, if_neg h2, if_neg h3, if_neg h4, if_neg h5, if_neg h6, if_neg h7, if_neg h8, if_pos h9]; exact ⟨_, _, rfl, rfl, hR0⟩
  · simp only [if_neg h0, if_neg h1, if_neg h2, if_neg h3, if_neg h4, if_neg h5, if_neg h6, if_neg h7, if_neg h8, if_neg h9]; exact ⟨_, _, rfl, rfl, hR0⟩
theorem sim_rooms : Sim_rooms := by
  intro tc told ts tg cc rc sz bars subj teach seats col cw rs rk rch mt row tp tape mc mr mm mbars msubj mteach mseats mcol mp mk mch mth v1 hR
  have hR0 := hR
  obtain ⟨hrow, htext, ⟨rfl, rfl, rfl, n, r, z, ⟨hn1, hn6, rfl⟩, ⟨hr1, hr9, rfl⟩, ⟨hz, rfl⟩, hbars, hsec, hcw, hroom⟩, hroll⟩ := hR
  unfold m_X5_rooms m_X6_rooms
  have ein : m_X6_in v1.toInt64 1 9 = some (if 1 ≤ v1.toInt ∧ v1.toInt ≤ 9 then 1 else 0) := in_eq v1 1 9
  rw [ein]
  by_cases h : 1 ≤ v1.toInt ∧ v1.toInt ≤ 9
  · obtain ⟨m, hm1, hm9, rfl⟩ : ∃ m : Nat, 1 ≤ m ∧ m ≤ 9 ∧ v1 = nI m := ⟨v1.toInt.toNat, by omega, by omega, Int32.toInt_inj.mp (by rw [nI_toInt (by omega)]; omega)⟩
    have g1 : ¬ nI m < 1 := by rw [show (1 : Int32) = nI 1 from rfl, nI_ltI (by omega) (by omega)]; omega
    have g2 : nI m ≤ 9 := by rw [show (9 : Int32) = nI 9 from rfl, nI_leI (by omega) (by omega)]; omega
    simp only [if_pos h, if_neg g1, if_pos g2, bk1, e10, ↓reduceIte]
    have stepX : ∀ (rec : Int32 → Option (Int32 × Int32)) (c : Nat), c < n → m_X5_rooms_15 (nI n) (nI r) (nI z) col (nI m) rec (nI c) = if inCol col c z ≤ m then rec (nI c + 1) else some (-3, nI r) := by
      intro rec c hc
      have hle := inCol_le col c z
      unfold m_X5_rooms_15
      simp only [nI_ge hc (show n < 2 ^ 31 by omega), ↓reduceIte, sectionsIn_eq hz, bk1, bitCount_eq, pop_inCol col c (show z ≤ 32 by omega), lt_t, nI_leI (show inCol col c z < 2 ^ 31 by omega) (show m < 2 ^ 31 by omega)]
    have stepM : ∀ (rec : Int32 → Option (Int32 × Int32 × Int32)) (c : Nat), c < n → m_X6_rooms_21 0 (nI n) (nI r) (nI z) mcol (nI m) rec (nI c) = if inCol col c z ≤ m then rec (nI c + 1) else some (-3, 0, nI r) := by
      intro rec c hc
      have hle := inCol_le mcol c z
      have e1 : inCol col c z = inCol mcol c z := inCol_congr (fun i hi => hsec.colI hi (by omega))
      unfold m_X6_rooms_21
      simp only [nI_ge hc (show n < 2 ^ 31 by omega), ↓reduceIte, inColumn_eq (show z ≤ 17 by omega), bk1, bits_eq, pop_inCol mcol c (show z ≤ 32 by omega), lt_t, nI_leI (show inCol mcol c z < 2 ^ 31 by omega) (show m < 2 ^ 31 by omega), e1]
    rcases first_or (fun c => ¬ inCol col c z ≤ m) n with hall | ⟨c, hc, hp, hk⟩
    · have hall : ∀ c, c < n → inCol col c z ≤ m := fun c hc => Classical.byContradiction (hall c hc)
      have eX : it1 (m_X5_rooms_15 (nI n) (nI r) (nI z) col (nI m)) 1100 0 = some (nI r, nI m) :=
        find1_no (z := n) (by omega) (fun rec => by unfold m_X5_rooms_15; rw [if_pos (Int32.le_refl _)]; rfl) (fun rec c hc => by rw [stepX rec c hc, if_pos (hall c hc)])
      have eM : it1 (m_X6_rooms_21 0 (nI n) (nI r) (nI z) mcol (nI m)) 1100 0 = some (nI r, 0, nI m) :=
        find1_no (z := n) (by omega) (fun rec => by unfold m_X6_rooms_21; rw [if_pos (Int32.le_refl _)]; rfl) (fun rec c hc => by rw [stepM rec c hc, if_pos (hall c hc)])
      exact ⟨_, _, _, _, eX, eM, hrow, htext, ⟨rfl, rfl, rfl, n, m, z, ⟨hn1, hn6, rfl⟩, ⟨hm1, hm9, rfl⟩, ⟨hz, rfl⟩, hbars, hsec, hcw, hall⟩, hroll⟩
    · have hk : ∀ k, k < c → inCol col k z ≤ m := fun k hk' => Classical.byContradiction (hk k hk')
      have eX : it1 (m_X5_rooms_15 (nI n) (nI r) (nI z) col (nI m)) 1100 0 = some (-3, nI r) :=
        find1_no (z := c) (by omega) (fun rec => by rw [stepX rec c hc, if_neg hp]) (fun rec k hk' => by rw [stepX rec k (by omega), if_pos (hk k hk')])
      have eM : it1 (m_X6_rooms_21 0 (nI n) (nI r) (nI z) mcol (nI m)) 1100 0 = some (-3, 0, nI r) :=
        find1_no (z := c) (by omega) (fun rec => by rw [stepM rec c hc, if_neg hp]) (fun rec k hk' => by rw [stepM rec k (by omega), if_pos (hk k hk')])
      exact ⟨_, _, _, _, eX, eM, hR0⟩
  · simp only [if_neg h, bk1, ↓reduceIte]
    by_cases g1 : v1 < 1
    · rw [if_pos g1]; exact ⟨_, _, _, _, rfl, rfl, hR0⟩
    · rw [if_neg g1]
      by_cases g2 : v1 ≤ 9
      · exfalso
        rw [Int32.lt_iff_toInt_lt, show (1 : Int32).toInt = 1 from rfl] at g1
        rw [Int32.le_iff_toInt_le, show (9 : Int32).toInt = 9 from rfl] at g2
        omega
      · rw [if_neg g2]; exact ⟨_, _, _, _, rfl, rfl, hR0⟩
theorem sim_bars : Sim_bars := by
  intro tc told ts tg cc rc sz bars subj teach seats col cw rs rk rch mt row tp tape mc mr mm mbars msubj mteach mseats mcol mp mk mch mth v1 v2 v3 hv hR
  have hR0 := hR
  obtain ⟨hrow, htext, ⟨rfl, rfl, rfl, n, r, z, ⟨hn1, hn6, rfl⟩, hr, ⟨hz, rfl⟩, hbars, hsec, hcw, hroom⟩, hroll⟩ := hR
  have hn' : n < 2 ^ 31 := by omega
  unfold m_X5_bars m_X6_bars
  by_cases h : 0 ≤ v1.toInt ∧ v1.toInt < (10 : Nat)
  · obtain ⟨t, ht, rfl⟩ := rng_of h (by decide)
    by_cases h2 : 0 ≤ v2.toInt ∧ v2.toInt < n
    · obtain ⟨c, hc, rfl⟩ := rng_of h2 hn'
      have i10 : inb (nI t) 10 = true := inb_nI ht (by decide)
      have cl : (nI t).toNatClampNeg = t := nI_clamp (by omega)
      simp only [X5_isTeacher_eq, X6_isTeacher_eq, X0_hasColumn_eq hn', X6_isColumn_eq hn', h, h2, and_self, bk1, ↓reduceIte, e10, i10, gd_tt, cl, hasBit_eq (show c < 32 by omega), has_eq (show c < 32 by omega), hbars t ht]
      have fX : m_X5_bars_63 bars (nI t) (nI c) = some (mbars t ^^^ ((1 : Int32) <<< (nI c &&& 31)), upd bars t (mbars t ^^^ ((1 : Int32) <<< (nI c &&& 31)))) := by
        unfold m_X5_bars_63
        simp only [i10, gd_tt, cl, upd_s, hbars t ht]
      have fM : m_X6_bars_86 0 mbars (nI t) (nI c) = some (mbars t ^^^ ((1 : Int32) <<< (nI c &&& 31)), 0, upd mbars t (mbars t ^^^ ((1 : Int32) <<< (nI c &&& 31)))) := by
        unfold m_X6_bars_86
        simp only [i10, gd_tt, cl, upd_s]
      have hnew : Rel tc told ts tg (nI n) rc (nI z) (upd bars t (mbars t ^^^ ((1 : Int32) <<< (nI c &&& 31)))) subj teach seats col cw rs rk rch mt row tp tape (nI n) rc (nI z) (upd mbars t (mbars t ^^^ ((1 : Int32) <<< (nI c &&& 31)))) msubj mteach mseats mcol mp mk mch := by
        refine ⟨hrow, htext, ⟨rfl, rfl, rfl, n, r, z, ⟨hn1, hn6, rfl⟩, hr, ⟨hz, rfl⟩, ?_, hsec, hcw, hroom⟩, hroll⟩
        intro q hq
        by_cases e : q = t
        · subst e; rw [upd_s, upd_s]
        · rw [upd_n e, upd_n e]; exact hbars q hq
      by_cases h3 : (if bt (mbars t) c = true then (1 : Int32) else 0) = v3
      · simp only [if_pos h3]; exact ⟨_, _, _, _, rfl, rfl, hR0⟩
      simp only [if_neg h3]
      rcases hv with rfl | rfl
      · -- the bar goes
        rw [if_pos rfl, fX]
        have eM : it1 (m_X6_bars_42 0 (nI z) mteach mcol mbars (nI t) (nI c) 0) 1100 0 = m_X6_bars_86 0 mbars (nI t) (nI c) :=
          find1_no (z := z) (by omega) (fun rec => by unfold m_X6_bars_42; rw [if_pos (Int32.le_refl _)]) (fun rec i hi => by unfold m_X6_bars_42; rw [if_neg (nI_ge hi (by omega)), if_pos rfl]; rfl)
        rw [eM, fM]
        exact ⟨_, _, _, _, rfl, rfl, hnew⟩
      · rw [if_neg (show ¬ (1 : Int32) = 0 by decide)]
        have stepX : ∀ (rec : Int32 → Option Int32) (i : Nat), i < z → m_X0_teaches_2 (nI z) teach col (nI t) (nI c) rec (nI i) = if teach i = nI t ∧ col i = nI c then some 1 else rec (nI i + 1) := by
          intro rec i hi
          have i16 : inb (nI i) 16 = true := inb_nI (by omega) (by decide)
          have cl : (nI i).toNatClampNeg = i := nI_clamp (by omega)
          unfold m_X0_teaches_2
          by_cases a : teach i = nI t
          · by_cases b : col i = nI c
            · simp only [nI_ge hi (show z < 2 ^ 31 by omega), ↓reduceIte, i16, gd_tt, cl, a, b, and_self]
            · simp only [nI_ge hi (show z < 2 ^ 31 by omega), ↓reduceIte, i16, gd_tt, cl, a, b, and_false, lt_t]
          · simp only [nI_ge hi (show z < 2 ^ 31 by omega), ↓reduceIte, i16, gd_tt, cl, a, false_and, lt_t]
        have stepM : ∀ (rec : Int32 → Option (Int32 × Int32 × (Nat → Int32))) (i : Nat), i < z → m_X6_bars_42 0 (nI z) mteach mcol mbars (nI t) (nI c) 1 rec (nI i) = if teach i = nI t ∧ col i = nI c then some (-3, 0, mbars) else rec (nI i + 1) := by
          intro rec i hi
          have i17 : inb (nI i) 17 = true := inb_nI (by omega) (by decide)
          have cl : (nI i).toNatClampNeg = i := nI_clamp (by omega)
          have et : teach i = mteach i := (hsec i hi).2.2.1
          have ec : (col i = nI c) ↔ (mcol i = nI c) := hsec.colI hi (by omega)
          unfold m_X6_bars_42
          by_cases a : mteach i = nI t
          · by_cases b : mcol i = nI c
            · simp only [nI_ge hi (show z < 2 ^ 31 by omega), ↓reduceIte, e10, i17, gd_tt, cl, et, a, b, ec.mpr b, and_self]
            · have b' : ¬ col i = nI c := fun q => b (ec.mp q)
              simp only [nI_ge hi (show z < 2 ^ 31 by omega), ↓reduceIte, e10, i17, gd_tt, cl, et, a, b, b', and_false, lt_t]
          · simp only [nI_ge hi (show z < 2 ^ 31 by omega), ↓reduceIte, e10, i17, gd_tt, cl, et, a, false_and, lt_t]
        unfold m_X0_teaches
        rcases first_or (fun i => teach i = nI t ∧ col i = nI c) z with hall | ⟨i, hi, hp, hk⟩
        · have eX : it1 (m_X0_teaches_2 (nI z) teach col (nI t) (nI c)) 1100 0 = some 0 :=
            find1_no (z := z) (by omega) (fun rec => by unfold m_X0_teaches_2; rw [if_pos (Int32.le_refl _)]) (fun rec i hi => by rw [stepX rec i hi, if_neg (hall i hi)])
          have eM : it1 (m_X6_bars_42 0 (nI z) mteach mcol mbars (nI t) (nI c) 1) 1100 0 = m_X6_bars_86 0 mbars (nI t) (nI c) :=
            find1_no (z := z) (by omega) (fun rec => by unfold m_X6_bars_42; rw [if_pos (Int32.le_refl _)]) (fun rec i hi => by rw [stepM rec i hi, if_neg (hall i hi)])
          rw [eX, eM, bk1, if_pos rfl, fX, fM]
          exact ⟨_, _, _, _, rfl, rfl, hnew⟩
        · have eX : it1 (m_X0_teaches_2 (nI z) teach col (nI t) (nI c)) 1100 0 = some 1 :=
            find1_no (z := i) (by omega) (fun rec => by rw [stepX rec i hi, if_pos hp]) (fun rec k hk' => by rw [stepX rec k (by omega), if_neg (hk k hk')])
          have eM : it1 (m_X6_bars_42 0 (nI z) mteach mcol mbars (nI t) (nI c) 1) 1100 0 = some (-3, 0, mbars) :=
            find1_no (z := i) (by omega) (fun rec => by rw [stepM rec i hi, if_pos hp]) (fun rec k hk' => by rw [stepM rec k (by omega), if_neg (hk k hk')])
          rw [eX, eM, bk1, if_neg (by decide)]
          exact ⟨_, _, _, _, rfl, rfl, hR0⟩
    · simp only [X5_isTeacher_eq, X6_isTeacher_eq, X0_hasColumn_eq hn', X6_isColumn_eq hn', h, h2, and_self, bk1, ↓reduceIte, e10]
      exact ⟨_, _, _, _, rfl, rfl, hR0⟩
  · simp only [X5_isTeacher_eq, X6_isTeacher_eq, h, bk1, ↓reduceIte]
    exact ⟨_, _, _, _, rfl, rfl, hR0⟩
