/-! one more section, one less -/
theorem RSec.add {n z : Nat} {subj teach seats col msubj mteach mseats mcol : Nat → Int32} (h : RSec n z subj teach seats col msubj mteach mseats mcol) {a t s : Nat} (ha : a < 10) (ht : t < 10) (hs1 : 1 ≤ s) (hs : s ≤ 30) {v mv : Int32} (hv : okMv n v mv) :
    RSec n (z + 1) (upd subj z (nI a)) (upd teach z (nI t)) (upd seats z (nI s)) (upd col z v) (upd msubj z (nI a)) (upd mteach z (nI t)) (upd mseats z (nI s)) (upd mcol z mv) := fun i hi => by
  by_cases e : i = z
  · subst e
    simp only [upd_s]
    exact ⟨trivial, ⟨a, ha, rfl⟩, trivial, ⟨t, ht, rfl⟩, trivial, ⟨s, hs1, hs, rfl⟩, hv⟩
  · simp only [upd_n e]
    exact h i (by omega)
theorem RCw_add {n z a : Nat} (hn : n ≤ 6) (hz : z < 16) (ha : a < 10) {subj col cw : Nat → Int32} (hok : okSC n z subj col) (h : RCw z subj col cw) {v : Int32} (hv : v = -1 ∨ ∃ c : Nat, c < n ∧ v = nI c) :
    RCw (z + 1) (upd subj z (nI a)) (upd col z v) (upd cw a (cwW (z + 1) (upd subj z (nI a)) (upd col z v) a)) := by
  have hok' : okSC n (z + 1) (upd subj z (nI a)) (upd col z v) := fun i hi => by
    by_cases e : i = z
    · subst e; rw [upd_s, upd_s]; exact ⟨⟨a, ha, rfl⟩, hv⟩
    · rw [upd_n e, upd_n e]; exact hok i (by omega)
  refine RCw_note hn (by omega) hok' (fun s hs hsa c hc => ?_)
  rw [h s hs c hc]
  constructor
  · rintro ⟨i, hi, h1, h2⟩
    have e : i ≠ z := by omega
    exact ⟨i, by omega, by rw [upd_n e]; exact h1, by rw [upd_n e]; exact h2⟩
  · rintro ⟨i, hi, h1, h2⟩
    by_cases e : i = z
    · subst e
      rw [upd_s] at h1
      exact absurd (nI_inj (by omega) (by omega) h1).symm hsa
    · rw [upd_n e] at h1 h2
      exact ⟨i, by omega, h1, h2⟩
theorem inCol_add {col : Nat → Int32} {d z : Nat} (v : Int32) : inCol (upd col z v) d (z + 1) = inCol col d z + (if v = nI d then 1 else 0) := by
  rw [inCol, upd_s, inCol_congr (mcol := col) (fun i hi => by rw [upd_n (by omega)])]
theorem add_eq {z a : Nat} (hz : z < 16) (ha : a < 10) (subj teach seats col cw : Nat → Int32) (v2 v3 v4 : Int32) :
    m_X0_add (nI z) subj teach seats col cw (nI a) v2 v3 v4 = some (nI (z + 1), upd subj z (nI a), upd teach z v2, upd seats z v3, upd col z v4, upd cw a (cwW (z + 1) (upd subj z (nI a)) (upd col z v4) a)) := by
  have g : ¬ (16 : Int32) ≤ nI z := nI_ge (a := z) (b := 16) hz (by decide)
  have i16 : inb (nI z) 16 = true := inb_nI hz (by decide)
  have cl : (nI z).toNatClampNeg = z := nI_clamp (by omega)
  unfold m_X0_add
  simp only [g, ↓reduceIte, i16, gd_tt, cl, lt_t, nI_1, note_eq (show z + 1 ≤ 16 by omega) ha, bk1]
theorem sim_opens : Sim_opens := by
  intro tc told ts tg cc rc sz bars subj teach seats col cw rs rk rch mt row tp tape mc mr mm mbars msubj mteach mseats mcol mp mk mch mth v1 v2 v3 hR
  have hR0 := hR
  obtain ⟨hrow, htext, ⟨rfl, rfl, rfl, n, r, z, ⟨hn1, hn6, rfl⟩, ⟨hr1, hr9, rfl⟩, ⟨hz, rfl⟩, hbars, hsec, hcw, hroom⟩, hroll⟩ := hR
  unfold m_X5_opens m_X6_opens
  by_cases h1 : 0 ≤ v1.toInt ∧ v1.toInt < (10 : Nat)
  · by_cases h2 : 0 ≤ v2.toInt ∧ v2.toInt < (10 : Nat)
    · by_cases h3 : 1 ≤ v3.toInt ∧ v3.toInt ≤ 30
      · obtain ⟨a, ha, rfl⟩ := rng_of h1 (by decide)
        obtain ⟨t, ht, rfl⟩ := rng_of h2 (by decide)
        obtain ⟨s, hs1, hs2, rfl⟩ := seats_of h3
        simp only [X5_isSubject_eq, X6_isSubject_eq, X5_isTeacher_eq, X6_isTeacher_eq, X5_areSeats_eq, in_seats, h1, h2, h3, and_self, bk1, ↓reduceIte, e10]
        by_cases hz16 : z < 16
        · have g1 : nI z < 16 := nI_lt (b := 16) hz16 (by decide)
          have g2 : ¬ nI z = 16 := by rw [show (16 : Int32) = nI 16 from rfl, nI_eq (by omega) (by omega)]; omega
          have i17 : inb (nI z) 17 = true := inb_nI (by omega) (by decide)
          have cl : (nI z).toNatClampNeg = z := nI_clamp (by omega)
          simp only [g1, g2, ↓reduceIte, i17, gd_tt, cl, lt_t, add_eq hz16 ha, bk6, nI_1, nI_pred]
          have hv : okMv n (-1) (-2) := Or.inl ⟨rfl, rfl⟩
          refine ⟨_, _, _, _, _, _, _, _, _, _, _, _, _, rfl, rfl, hrow, htext, ⟨rfl, rfl, rfl, n, r, z + 1, ⟨hn1, hn6, rfl⟩, ⟨hr1, hr9, rfl⟩, ⟨by omega, rfl⟩, hbars, hsec.add ha ht hs1 hs2 hv, RCw_add hn6 hz16 ha hsec.ok hcw hv.cls, fun d hd => ?_⟩, hroll⟩
          rw [inCol_add, if_neg (fun q => nI_nm1 (by omega) q.symm)]
          exact hroom d hd
        · have e16 : z = 16 := by omega
          subst e16
          have g1 : ¬ nI 16 < 16 := by decide
          have g2 : nI 16 = 16 := rfl
          simp only [if_neg g1, if_pos g2]
          exact ⟨_, _, _, _, _, _, _, _, _, _, _, _, _, rfl, rfl, hR0⟩
      · simp only [X5_isSubject_eq, X6_isSubject_eq, X5_isTeacher_eq, X6_isTeacher_eq, X5_areSeats_eq, in_seats, h1, h2, h3, and_self, bk1, ↓reduceIte, e10]
        exact ⟨_, _, _, _, _, _, _, _, _, _, _, _, _, rfl, rfl, hR0⟩
    · simp only [X5_isSubject_eq, X6_isSubject_eq, X5_isTeacher_eq, X6_isTeacher_eq, h1, h2, and_self, bk1, ↓reduceIte, e10]
      exact ⟨_, _, _, _, _, _, _, _, _, _, _, _, _, rfl, rfl, hR0⟩
  · simp only [X5_isSubject_eq, X6_isSubject_eq, h1, bk1, ↓reduceIte]
    exact ⟨_, _, _, _, _, _, _, _, _, _, _, _, _, rfl, rfl, hR0⟩
/-- from j on, what lay one further, up to i -/
def shF (f : Nat → Int32) (j i : Nat) : Nat → Int32 := fun q => if j ≤ q ∧ q < i then f (q + 1) else f q
theorem shF_0 (f : Nat → Int32) (j : Nat) : shF f j j = f := by
  funext q
  unfold shF
  rw [if_neg (by omega)]
theorem shF_s (f : Nat → Int32) {j i : Nat} (h : j ≤ i) : upd (shF f j i) i (shF f j i (i + 1)) = shF f j (i + 1) := by
  funext q
  by_cases e : q = i
  · subst e
    rw [upd_s]
    unfold shF
    rw [if_neg (by omega), if_pos (by omega)]
  · rw [upd_n e]
    unfold shF
    by_cases h2 : j ≤ q ∧ q < i
    · rw [if_pos h2, if_pos (by omega)]
    · rw [if_neg h2, if_neg (by omega)]
theorem shF_lo (f : Nat → Int32) {j i q : Nat} (h : q < j) : shF f j i q = f q := by unfold shF; rw [if_neg (by omega)]
theorem shF_hi (f : Nat → Int32) {j i q : Nat} (h : j ≤ q) (h2 : q < i) : shF f j i q = f (q + 1) := by unfold shF; rw [if_pos ⟨h, h2⟩]
theorem inCol_mono (col : Nat → Int32) (d z : Nat) : inCol col d z ≤ inCol col d (z + 1) := by rw [inCol]; omega
theorem inCol_sh {col : Nat → Int32} {j m d : Nat} : ∀ q, (q ≤ j → inCol (shF col j m) d q = inCol col d q) ∧ (j ≤ q → q ≤ m → inCol (shF col j m) d q ≤ inCol col d (q + 1))
  | 0 => ⟨fun _ => rfl, fun _ _ => Nat.zero_le _⟩
  | q + 1 => by
    obtain ⟨h1, h2⟩ := inCol_sh (col := col) (j := j) (m := m) (d := d) q
    have a1 : q + 1 ≤ j → inCol (shF col j m) d (q + 1) = inCol col d (q + 1) := fun hq => by
      rw [inCol, inCol, h1 (by omega), shF_lo col (by omega)]
    refine ⟨a1, fun hj hm => ?_⟩
    by_cases e : j = q + 1
    · rw [a1 (by omega)]; exact inCol_mono col d (q + 1)
    · have := h2 (by omega) (by omega)
      rw [inCol, inCol, shF_hi col (by omega) (by omega)]
      omega
theorem sim_closes : Sim_closes := by
  intro tc told ts tg cc rc sz bars subj teach seats col cw rs rk rch mt row tp tape mc mr mm mbars msubj mteach mseats mcol mp mk mch mth v1 hR
  have hR0 := hR
  obtain ⟨hrow, htext, ⟨rfl, rfl, rfl, n, r, z, ⟨hn1, hn6, rfl⟩, ⟨hr1, hr9, rfl⟩, ⟨hz, rfl⟩, hbars, hsec, hcw, hroom⟩, hroll⟩ := hR
  have hz' : z < 2 ^ 31 := by omega
  unfold m_X5_closes m_X6_closes
  by_cases h : 0 ≤ v1.toInt ∧ v1.toInt < z
  · obtain ⟨j, hj, rfl⟩ := rng_of h hz'
    obtain ⟨m, rfl⟩ : ∃ m, z = m + 1 := ⟨z - 1, by omega⟩
    obtain ⟨q1, ⟨a, ha, q2⟩, -⟩ := hsec j hj
    have i16 : inb (nI j) 16 = true := inb_nI (by omega) (by decide)
    have cl : (nI j).toNatClampNeg = j := nI_clamp (by omega)
    have eX : m_X0_remove (nI (m + 1)) subj teach seats col cw (nI j) = some (nI m, shF subj j m, shF teach j m, shF seats j m, shF col j m, upd cw a (cwW m (shF subj j m) (shF col j m) a)) := by
      unfold m_X0_remove
      simp only [i16, gd_tt, cl, lt_t, nI_pred, q1.trans q2]
      have := seq5 (b := m_X0_remove_19 (nI m) cw (nI a)) (z := m - j) (E := some (nI m, shF subj j m, shF teach j m, shF seats j m, shF col j m, upd cw a (cwW m (shF subj j m) (shF col j m) a))) (fun i => nI (j + i)) (fun i => shF subj j (j + i)) (fun i => shF teach j (j + i)) (fun i => shF seats j (j + i)) (fun i => shF col j (j + i)) (by omega) (fun rec => ?_) (fun rec i hi => ?_)
      · simp only [Nat.add_zero, shF_0] at this; exact this
      · unfold m_X0_remove_19 m_X0_remove_89
        rw [show j + (m - j) = m by omega, if_pos (Int32.le_refl _), note_eq (by omega) ha, bk1]
      · rw [← Nat.add_assoc]
        generalize hq : j + i = q
        have hji : j ≤ q := by omega
        have hqm : q < m := by omega
        have i1 : inb (nI q) 16 = true := inb_nI (by omega) (by decide)
        have i2 : inb (nI (q + 1)) 16 = true := inb_nI (by omega) (by decide)
        have c1 : (nI q).toNatClampNeg = q := nI_clamp (by omega)
        have c2 : (nI (q + 1)).toNatClampNeg = q + 1 := nI_clamp (by omega)
        unfold m_X0_remove_19
        simp only [nI_ge hqm (show m < 2 ^ 31 by omega), ↓reduceIte, nI_1, i1, i2, c1, c2, gd_tt, lt_t, shF_s _ hji]
    have eM : it5 (m_X6_closes_27 0 (nI m)) 1100 (nI j) msubj mteach mseats mcol = some (nI m, 0, nI m, shF msubj j m, shF mteach j m, shF mseats j m, shF mcol j m) := by
      have := seq5 (b := m_X6_closes_27 0 (nI m)) (z := m - j) (E := some (nI m, 0, nI m, shF msubj j m, shF mteach j m, shF mseats j m, shF mcol j m)) (fun i => nI (j + i)) (fun i => shF msubj j (j + i)) (fun i => shF mteach j (j + i)) (fun i => shF mseats j (j + i)) (fun i => shF mcol j (j + i)) (by omega) (fun rec => ?_) (fun rec i hi => ?_)
      · simp only [Nat.add_zero, shF_0] at this; exact this
      · unfold m_X6_closes_27
        rw [show j + (m - j) = m by omega, if_pos (Int32.le_refl _)]
      · rw [← Nat.add_assoc]
        generalize hq : j + i = q
        have hji : j ≤ q := by omega
        have hqm : q < m := by omega
        have i1 : inb (nI q) 17 = true := inb_nI (by omega) (by decide)
        have i2 : inb (nI (q + 1)) 17 = true := inb_nI (by omega) (by decide)
        have c1 : (nI q).toNatClampNeg = q := nI_clamp (by omega)
        have c2 : (nI (q + 1)).toNatClampNeg = q + 1 := nI_clamp (by omega)
        unfold m_X6_closes_27
        simp only [nI_ge hqm (show m < 2 ^ 31 by omega), ↓reduceIte, nI_1, i1, i2, c1, c2, gd_tt, lt_t, shF_s _ hji]
    simp only [X0_has_eq hz', X6_isSection_eq hz', h, and_self, bk1, ↓reduceIte, e10, eX, bk6, lt_t, nI_pred, eM]
    have hsec' : RSec n m (shF subj j m) (shF teach j m) (shF seats j m) (shF col j m) (shF msubj j m) (shF mteach j m) (shF mseats j m) (shF mcol j m) := fun i hi => by
      by_cases e : i < j
      · simp only [shF_lo _ e]; exact hsec i (by omega)
      · simp only [shF_hi _ (show j ≤ i by omega) hi]; exact hsec (i + 1) (by omega)
    have hcw' : RCw m (shF subj j m) (shF col j m) (upd cw a (cwW m (shF subj j m) (shF col j m) a)) := by
      refine RCw_note hn6 (by omega) hsec'.ok (fun s hs hsa c hc => ?_)
      rw [hcw s hs c hc]
      constructor
      · rintro ⟨i, hi, h1, h2⟩
        have hij : i ≠ j := by
          rintro rfl
          rw [q1, q2] at h1
          exact hsa (nI_inj (by omega) (by omega) h1).symm
        by_cases e : i < j
        · exact ⟨i, by omega, by rw [shF_lo _ e]; exact h1, by rw [shF_lo _ e]; exact h2⟩
        · obtain ⟨p, rfl⟩ : ∃ p, i = p + 1 := ⟨i - 1, by omega⟩
          exact ⟨p, by omega, by rw [shF_hi _ (by omega) (by omega)]; exact h1, by rw [shF_hi _ (by omega) (by omega)]; exact h2⟩
      · rintro ⟨i, hi, h1, h2⟩
        by_cases e : i < j
        · rw [shF_lo _ e] at h1 h2; exact ⟨i, by omega, h1, h2⟩
        · rw [shF_hi _ (by omega) hi] at h1 h2; exact ⟨i + 1, by omega, h1, h2⟩
    exact ⟨_, _, _, _, _, _, _, _, _, _, _, _, _, rfl, rfl, hrow, htext, ⟨rfl, rfl, rfl, n, r, m, ⟨hn1, hn6, rfl⟩, ⟨hr1, hr9, rfl⟩, ⟨by omega, rfl⟩, hbars, hsec', hcw', fun d hd => Nat.le_trans ((inCol_sh m).2 (by omega) (Nat.le_refl m)) (hroom d hd)⟩, hroll⟩
  · simp only [X0_has_eq hz', X6_isSection_eq hz', h, bk1, ↓reduceIte]
    exact ⟨_, _, _, _, _, _, _, _, _, _, _, _, _, rfl, rfl, hR0⟩
