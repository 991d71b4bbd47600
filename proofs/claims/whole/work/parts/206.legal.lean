/-! what is told -/
theorem tell1_eq (tc : Int32) (told : Nat → Int64) (v : Int32) : m_X5_tell tc told v = some (1, vp_updL told 0 v.toInt64) := rfl
theorem tell2_eq (tc : Int32) (told : Nat → Int64) (v w : Int32) : m_X5_tell_ tc told v w = some (2, vp_updL (vp_updL told 0 v.toInt64) 1 w.toInt64) := rfl
theorem tell3_eq (tc : Int32) (told : Nat → Int64) (u v w : Int32) : m_X5_tell__ tc told u v w = some (3, vp_updL (vp_updL (vp_updL told 0 u.toInt64) 1 v.toInt64) 2 w.toInt64) := rfl
theorem notes_eq {k : Nat} (hk : k < 32) (row : Nat → Int32) (v : Int32) : m_X6_notes (nI k) row v = some (nI (k + 1), upd row k v) := by
  unfold m_X6_notes
  rw [gd_t (inb_nI hk (by decide)), lt_t, nI_clamp (by omega), nI_1]
theorem notes1_eq (mt : Int32) (row : Nat → Int32) (v : Int32) : m_X6_notesOne mt row v = some (1, upd row 0 v) := rfl
theorem notes2_eq (mt : Int32) (row : Nat → Int32) (v w : Int32) : m_X6_notesTwo mt row v w = some (2, upd (upd row 0 v) 1 w) := rfl
theorem RRow_1 (told : Nat → Int64) (row : Nat → Int32) (v : Int32) : RRow 1 (vp_updL told 0 v.toInt64) 1 (upd row 0 v) := by
  refine ⟨rfl, 1, by omega, rfl, fun j hj => ?_⟩
  have : j = 0 := by omega
  subst this
  rw [pk_uLs, upd_s]
theorem RRow_2 (told : Nat → Int64) (row : Nat → Int32) (v w : Int32) : RRow 2 (vp_updL (vp_updL told 0 v.toInt64) 1 w.toInt64) 2 (upd (upd row 0 v) 1 w) := by
  refine ⟨rfl, 2, by omega, rfl, fun j hj => ?_⟩
  rcases (show j = 0 ∨ j = 1 by omega) with rfl | rfl
  · rw [pk_uLn (by decide), pk_uLs, upd_n (by decide), upd_s]
  · rw [pk_uLs, upd_s]
theorem RRow_3 (told : Nat → Int64) (row : Nat → Int32) (u v w : Int32) : RRow 3 (vp_updL (vp_updL (vp_updL told 0 u.toInt64) 1 v.toInt64) 2 w.toInt64) 3 (upd (upd (upd row 0 u) 1 v) 2 w) := by
  refine ⟨rfl, 3, by omega, rfl, fun j hj => ?_⟩
  rcases (show j = 0 ∨ j = 1 ∨ j = 2 by omega) with rfl | rfl | rfl
  · rw [pk_uLn (by decide), pk_uLn (by decide), pk_uLs, upd_n (by decide), upd_n (by decide), upd_s]
  · rw [pk_uLn (by decide), pk_uLs, upd_n (by decide), upd_s]
  · rw [pk_uLs, upd_s]
/-! what is legal -/
def oth (col : Nat → Int32) (v1 v3 : Int32) : Nat → Nat
  | 0 => 0
  | i + 1 => oth col v1 v3 i + (if ¬ nI i = v1 ∧ col i = v3 then 1 else 0)
def bsy (col teach : Nat → Int32) (v1 v2 v3 : Int32) : Nat → Bool
  | 0 => false
  | i + 1 => bsy col teach v1 v2 v3 i || decide (¬ nI i = v1 ∧ col i = v3 ∧ teach i = v2)
def obs (r : Nat) (barred : Bool) (o : Nat) (busy : Bool) : Int32 := if busy = true then 1 else if barred = true then 2 else if o < r then 0 else 3
theorem oth_le (col : Nat → Int32) (v1 v3 : Int32) : ∀ i, oth col v1 v3 i ≤ i
  | 0 => Nat.le_refl 0
  | i + 1 => by
    have := oth_le col v1 v3 i
    rw [oth]; split <;> omega
theorem oth_congr {col mcol : Nat → Int32} {v1 v3 : Int32} : ∀ {z : Nat}, (∀ i, i < z → (col i = v3 ↔ mcol i = v3)) → oth col v1 v3 z = oth mcol v1 v3 z
  | 0, _ => rfl
  | z + 1, h => by
    rw [oth, oth, oth_congr (fun i hi => h i (by omega))]
    have := h z (by omega)
    simp only [this]
theorem bsy_congr {col mcol teach mteach : Nat → Int32} {v1 v2 v3 : Int32} : ∀ {z : Nat}, (∀ i, i < z → (col i = v3 ↔ mcol i = v3) ∧ teach i = mteach i) → bsy col teach v1 v2 v3 z = bsy mcol mteach v1 v2 v3 z
  | 0, _ => rfl
  | z + 1, h => by
    rw [bsy, bsy, bsy_congr (fun i hi => h i (by omega))]
    obtain ⟨a, b⟩ := h z (by omega)
    simp only [a, b]
def fl (b : Bool) : Int32 := if b = true then 1 else 0
theorem fl_0 (b : Bool) : (fl b = 0) = (b = false) := by cases b <;> simp [fl]
theorem obstacle_eq {r z t c : Nat} (hr : r ≤ 9) (hz : z ≤ 16) (ht : t < 10) (hc : c < 32) (bars teach col : Nat → Int32) (v1 : Int32) :
    m_X0_obstacle (nI r) (nI z) bars teach col v1 (nI t) (nI c) = some (obs r (bt (bars t) c) (oth col v1 (nI c) z) (bsy col teach v1 (nI t) (nI c) z)) := by
  unfold m_X0_obstacle
  refine seq3 (z := z) (fun i => nI (oth col v1 (nI c) i)) (fun i => fl (bsy col teach v1 (nI t) (nI c) i)) (fun i => nI i) (by omega) (fun rec => ?_) (fun rec i hi => ?_)
  · have hle := oth_le col v1 (nI c) z
    have i10 : inb (nI t) 10 = true := inb_nI ht (by decide)
    have cl : (nI t).toNatClampNeg = t := nI_clamp (by omega)
    unfold m_X0_obstacle_9 m_X0_obstacle_67 obs
    simp only [Int32.le_refl, ↓reduceIte, fl_0, i10, gd_tt, cl, hasBit_eq hc, bk1, nI_leI (show r < 2 ^ 31 by omega) (show oth col v1 (nI c) z < 2 ^ 31 by omega)]
    cases bsy col teach v1 (nI t) (nI c) z
    · cases bt (bars t) c
      · simp only [Bool.false_eq_true, ↓reduceIte]
        by_cases h : r ≤ oth col v1 (nI c) z
        · rw [if_pos h, if_neg (by omega)]
        · rw [if_neg h, if_pos (by omega)]
      · simp
    · simp
  · have i16 : inb (nI i) 16 = true := inb_nI (by omega) (by decide)
    have cl : (nI i).toNatClampNeg = i := nI_clamp (by omega)
    unfold m_X0_obstacle_9
    simp only [nI_ge hi (show z < 2 ^ 31 by omega), ↓reduceIte, i16, gd_tt, cl, lt_t, oth, bsy, nI_1, fl_0]
    by_cases a : nI i = v1
    · simp only [if_pos a, a, not_true_eq_false, false_and, ↓reduceIte, Nat.add_zero, decide_false, Bool.or_false]
    · by_cases b : col i = nI c
      · cases hb : bsy col teach v1 (nI t) (nI c) i
        · by_cases d : teach i = nI t
          · simp only [if_neg a, a, b, d, ↓reduceIte, not_false_eq_true, and_self, decide_true, Bool.or_true, nI_add, fl]
          · simp only [if_neg a, a, b, d, ↓reduceIte, not_false_eq_true, and_self, and_false, decide_false, Bool.or_false, nI_add, fl, Bool.false_eq_true]
        · simp only [if_neg a, a, b, ↓reduceIte, not_false_eq_true, and_self, Bool.true_or, nI_add, fl, Bool.true_eq_false]
      · simp only [if_neg a, a, b, ↓reduceIte, not_false_eq_true, false_and, and_false, decide_false, Bool.or_false, Nat.add_zero]
theorem whyNot_eq {r z t c j : Nat} (hr : r ≤ 9) (hz : z ≤ 17) (ht : t < 10) (hc : c < 32) (hj : j < 17) (bars teach col : Nat → Int32) (htj : teach j = nI t) :
    m_X6_whyNot (nI r) (nI z) teach col bars (nI j) (nI c) = some (obs r (bt (bars t) c) (oth col (nI j) (nI c) z) (bsy col teach (nI j) (nI t) (nI c) z)) := by
  unfold m_X6_whyNot
  have j17 : inb (nI j) 17 = true := inb_nI hj (by decide)
  have clj : (nI j).toNatClampNeg = j := nI_clamp (by omega)
  refine seq3 (z := z) (fun i => nI (oth col (nI j) (nI c) i)) (fun i => fl (bsy col teach (nI j) (nI t) (nI c) i)) (fun i => nI i) (by omega) (fun rec => ?_) (fun rec i hi => ?_)
  · have hle := oth_le col (nI j) (nI c) z
    have i10 : inb (nI t) 10 = true := inb_nI ht (by decide)
    have cl : (nI t).toNatClampNeg = t := nI_clamp (by omega)
    unfold m_X6_whyNot_8 m_X6_whyNot_74 obs
    simp only [Int32.le_refl, ↓reduceIte, fl_0, j17, clj, htj, i10, gd_tt, cl, has_eq hc, bk1, nI_ltI (show oth col (nI j) (nI c) z < 2 ^ 31 by omega) (show r < 2 ^ 31 by omega)]
    cases bsy col teach (nI j) (nI t) (nI c) z
    · cases bt (bars t) c
      · simp only [Bool.false_eq_true, ↓reduceIte]
        by_cases h : oth col (nI j) (nI c) z < r
        · rw [if_pos h, if_pos h]
        · rw [if_neg h, if_neg h]
      · simp
    · simp
  · have i17 : inb (nI i) 17 = true := inb_nI (by omega) (by decide)
    have cl : (nI i).toNatClampNeg = i := nI_clamp (by omega)
    unfold m_X6_whyNot_8
    simp only [nI_ge hi (show z < 2 ^ 31 by omega), ↓reduceIte, i17, j17, clj, htj, gd_tt, cl, lt_t, oth, bsy, nI_1, fl_0]
    by_cases a : nI i = nI j
    · simp only [if_pos a, a, not_true_eq_false, false_and, ↓reduceIte, Nat.add_zero, decide_false, Bool.or_false]
    · by_cases b : col i = nI c
      · cases hb : bsy col teach (nI j) (nI t) (nI c) i
        · by_cases d : teach i = nI t
          · simp only [if_neg a, a, b, d, ↓reduceIte, not_false_eq_true, and_self, decide_true, Bool.or_true, nI_add, fl]
          · simp only [if_neg a, a, b, d, ↓reduceIte, not_false_eq_true, and_self, and_false, decide_false, Bool.or_false, nI_add, fl, Bool.false_eq_true]
        · simp only [if_neg a, a, b, ↓reduceIte, not_false_eq_true, and_self, Bool.true_or, nI_add, fl, Bool.true_eq_false]
      · simp only [if_neg a, a, b, ↓reduceIte, not_false_eq_true, false_and, and_false, decide_false, Bool.or_false, Nat.add_zero]
/-- the class's obstacle of section j in column c -/
def obsX (r z : Nat) (bars teach col : Nat → Int32) (j t c : Nat) : Int32 := obs r (bt (bars t) c) (oth col (nI j) (nI c) z) (bsy col teach (nI j) (nI t) (nI c) z)
theorem obsX_congr {n r z : Nat} {bars mbars subj teach seats col msubj mteach mseats mcol : Nat → Int32} (hb : ∀ t : Nat, t < 10 → bars t = mbars t) (h : RSec n z subj teach seats col msubj mteach mseats mcol) {j t c : Nat} (ht : t < 10) (hc : c < 2 ^ 31) : obsX r z bars teach col j t c = obsX r z mbars mteach mcol j t c := by
  unfold obsX
  rw [hb t ht, oth_congr (fun i hi => h.colI hi hc), bsy_congr (fun i hi => ⟨h.colI hi hc, (h i hi).2.2.1⟩)]
theorem sim_why : Sim_why := by
  intro tc told ts tg cc rc sz bars subj teach seats col cw rs rk rch mt row tp tape mc mr mm mbars msubj mteach mseats mcol mp mk mch mth v1 v2 hR
  have hR0 := hR
  obtain ⟨hrow, htext, ⟨rfl, rfl, rfl, n, r, z, ⟨hn1, hn6, rfl⟩, ⟨hr1, hr9, rfl⟩, ⟨hz, rfl⟩, hbars, hsec, hcw, hroom⟩, hroll⟩ := hR
  have hz' : z < 2 ^ 31 := by omega
  have hn' : n < 2 ^ 31 := by omega
  unfold m_X5_why m_X6_why
  by_cases h : 0 ≤ v1.toInt ∧ v1.toInt < z
  · obtain ⟨j, hj, rfl⟩ := rng_of h hz'
    by_cases h2 : 0 ≤ v2.toInt ∧ v2.toInt < n
    · obtain ⟨c, hc, rfl⟩ := rng_of h2 hn'
      obtain ⟨q1, q2, q3, ⟨t, ht, q4⟩, q5, q6, q7⟩ := hsec j hj
      have i16 : inb (nI j) 16 = true := inb_nI (by omega) (by decide)
      have cl : (nI j).toNatClampNeg = j := nI_clamp (by omega)
      simp only [X0_has_eq hz', X6_isSection_eq hz', X0_hasColumn_eq hn', X6_isColumn_eq hn', h, h2, and_self, bk1, ↓reduceIte, e10, i16, gd_tt, cl, q3, q4, obstacle_eq hr9 hz ht (show c < 32 by omega), whyNot_eq hr9 (show z ≤ 17 by omega) ht (show c < 32 by omega) (show j < 17 by omega) mbars mteach mcol q4]
      have e := obsX_congr (r := r) (j := j) hbars hsec ht (show c < 2 ^ 31 by omega)
      unfold obsX at e
      exact ⟨_, _, by rw [e], rfl, hR0⟩
    · simp only [X0_has_eq hz', X6_isSection_eq hz', X0_hasColumn_eq hn', X6_isColumn_eq hn', h, h2, and_self, bk1, ↓reduceIte, e10]
      exact ⟨_, _, rfl, rfl, hR0⟩
  · simp only [X0_has_eq hz', X6_isSection_eq hz', h, bk1, ↓reduceIte]
    exact ⟨_, _, rfl, rfl, hR0⟩
theorem lawful_eq {n r z t : Nat} (hn : n ≤ 6) (hr : r ≤ 9) (hz : z ≤ 16) (ht : t < 10) (bars teach col : Nat → Int32) (v1 : Int32) :
    m_X0_lawfulColumns (nI n) (nI r) (nI z) bars teach col v1 (nI t) = some (msk (fun c => decide (obs r (bt (bars t) c) (oth col v1 (nI c) z) (bsy col teach v1 (nI t) (nI c) z) = 0)) n) := by
  unfold m_X0_lawfulColumns
  refine mask_loop0 (E := fun x => some x) (by omega) (fun rec acc => ?_) (fun rec c hc acc => ?_)
  · unfold m_X0_lawfulColumns_5; rw [if_pos (Int32.le_refl _)]
  · unfold m_X0_lawfulColumns_5
    simp only [nI_ge hc (show n < 2 ^ 31 by omega), ↓reduceIte, obstacle_eq hr hz ht (show c < 32 by omega), bk1, lt_t]
    by_cases h : obs r (bt (bars t) c) (oth col v1 (nI c) z) (bsy col teach v1 (nI t) (nI c) z) = 0
    · simp only [h, decide_true, ↓reduceIte]
    · simp only [h, decide_false, Bool.false_eq_true, ↓reduceIte]
theorem isLegal_eq {r z t c j : Nat} (hr : r ≤ 9) (hz : z ≤ 17) (ht : t < 10) (hc : c < 32) (hj : j < 17) (bars teach col : Nat → Int32) (htj : teach j = nI t) :
    m_X6_isLegal (nI r) (nI z) teach col bars (nI j) (nI c) = some (if obsX r z bars teach col j t c = 0 then 1 else 0) := by
  unfold m_X6_isLegal
  rw [whyNot_eq hr hz ht hc hj bars teach col htj, bk1]
  unfold obsX
  split <;> rfl
theorem legals_eq {n r z t j : Nat} (hn : n ≤ 6) (hr : r ≤ 9) (hz : z ≤ 17) (ht : t < 10) (hj : j < 17) (bars teach col : Nat → Int32) (htj : teach j = nI t) :
    m_X6_legals (nI n) (nI r) (nI z) teach col bars (nI j) = some (msk (fun c => decide (obsX r z bars teach col j t c = 0)) n) := by
  unfold m_X6_legals
  refine mask_loop0 (E := fun x => some x) (by omega) (fun rec acc => ?_) (fun rec c hc acc => ?_)
  · unfold m_X6_legals_4; rw [if_pos (Int32.le_refl _)]
  · unfold m_X6_legals_4
    simp only [nI_ge hc (show n < 2 ^ 31 by omega), ↓reduceIte, isLegal_eq hr hz ht (show c < 32 by omega) hj bars teach col htj, bk1, lt_t]
    by_cases h : obsX r z bars teach col j t c = 0
    · simp only [h, decide_true, ↓reduceIte, e10]
    · simp only [h, decide_false, Bool.false_eq_true, ↓reduceIte]
theorem sim_legal : Sim_legal := by
  intro tc told ts tg cc rc sz bars subj teach seats col cw rs rk rch mt row tp tape mc mr mm mbars msubj mteach mseats mcol mp mk mch mth v1 hR
  have hR0 := hR
  obtain ⟨hrow, htext, ⟨rfl, rfl, rfl, n, r, z, ⟨hn1, hn6, rfl⟩, ⟨hr1, hr9, rfl⟩, ⟨hz, rfl⟩, hbars, hsec, hcw, hroom⟩, hroll⟩ := hR
  have hz' : z < 2 ^ 31 := by omega
  unfold m_X5_legal m_X6_legal
  by_cases h : 0 ≤ v1.toInt ∧ v1.toInt < z
  · obtain ⟨j, hj, rfl⟩ := rng_of h hz'
    obtain ⟨q1, q2, q3, ⟨t, ht, q4⟩, q5, q6, q7⟩ := hsec j hj
    have i16 : inb (nI j) 16 = true := inb_nI (by omega) (by decide)
    have cl : (nI j).toNatClampNeg = j := nI_clamp (by omega)
    have e : msk (fun c => decide (obs r (bt (bars t) c) (oth col (nI j) (nI c) z) (bsy col teach (nI j) (nI t) (nI c) z) = 0)) n = msk (fun c => decide (obsX r z mbars mteach mcol j t c = 0)) n := by
      refine msk_congr (fun c hc => ?_)
      have := obsX_congr (r := r) (j := j) hbars hsec ht (show c < 2 ^ 31 by omega)
      rw [← this]; rfl
    simp only [X0_has_eq hz', X6_isSection_eq hz', h, and_self, bk1, ↓reduceIte, e10, i16, gd_tt, cl, q3, q4, lawful_eq hn6 hr9 hz ht, legals_eq hn6 hr9 (show z ≤ 17 by omega) ht (show j < 17 by omega) mbars mteach mcol q4, e, bitCount_eq, bits_eq, tell1_eq, notes1_eq, bk2]
    exact ⟨_, _, _, _, _, _, rfl, rfl, RRow_1 _ _ _, htext, ⟨rfl, rfl, rfl, n, r, z, ⟨hn1, hn6, rfl⟩, ⟨hr1, hr9, rfl⟩, ⟨hz, rfl⟩, hbars, hsec, hcw, hroom⟩, hroll⟩
  · simp only [X0_has_eq hz', X6_isSection_eq hz', h, bk1, ↓reduceIte]
    exact ⟨_, _, _, _, _, _, rfl, rfl, hR0⟩
