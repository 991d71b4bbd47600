/-! who fits -/
def fitS (cw ch : Nat → Int32) (k : Nat) : Int32 := msk (fun p => wy cw (bl (ch p)) 0) k
theorem fittingAnew_eq {k : Nat} (hk : k ≤ 24) (cw ch : Nat → Int32) (now subs : Int32) : m_X5_fittingAnew cw (nI k) ch now subs = some (msk (fun p => if ch p &&& subs = 0 then bt now p else wy cw (bl (ch p)) 0) k) := by
  unfold m_X5_fittingAnew
  refine mask_loop0 (E := fun x => some x) (by omega) (fun rec acc => ?_) (fun rec p hp acc => ?_)
  · unfold m_X5_fittingAnew_5; rw [if_pos (Int32.le_refl _)]
  · have i24 : inb (nI p) 24 = true := inb_nI (by omega) (by decide)
    have cl : (nI p).toNatClampNeg = p := nI_clamp (by omega)
    unfold m_X5_fittingAnew_5 m_X5_fittingAnew_54
    simp only [nI_ge hp (show k < 2 ^ 31 by omega), ↓reduceIte, i24, gd_tt, cl, lt_t, hasWayX_eq, hasBit_eq (show p < 32 by omega), bk1, fl_0]
    by_cases h : ch p &&& subs = 0
    · simp only [h, ↓reduceIte]
      cases bt now p <;> simp
    · simp only [h, ↓reduceIte]
      cases wy cw (bl (ch p)) 0 <;> simp
/-- what the roll holds -/
def okRoll (k : Nat) (ch mch : Nat → Int32) : Prop := ∀ p : Nat, p < k → ch p = mch p ∧ (∃ b : Nat, 1 ≤ b ∧ b < 1024 ∧ mch p = nI b) ∧ pop (mch p) ≤ 6
theorem and1023 : ∀ b, b < 1024 → nI b &&& 1023 = nI b := by
  intro b hb
  rw [show (1023 : Int32) = nI 1023 from rfl, p_land, show (1023 : Nat) = 2 ^ 10 - 1 from rfl, Nat.and_two_pow_sub_one_eq_mod, Nat.mod_eq_of_lt hb]
theorem fittingX_eq {k : Nat} (hk : k ≤ 24) {cw ch mch : Nat → Int32} (hr : okRoll k ch mch) : m_X5_fitting cw (nI k) ch = some (fitS cw ch k) := by
  unfold m_X5_fitting
  rw [fittingAnew_eq hk, bk1]
  congr 1
  refine msk_congr (fun p hp => ?_)
  obtain ⟨e, ⟨b, h1, h2, e2⟩, -⟩ := hr p hp
  rw [if_neg]
  rw [e, e2, and1023 b h2, nI_zero (by omega)]
  omega
theorem blN_len (b : Nat) : (blN b).length ≤ pop (nI b) := by
  unfold blN pop
  rw [← List.countP_eq_length_filter]
  have h2 : List.range 32 = List.range 10 ++ (List.range 22).map (fun x => 10 + x) := by rw [← List.range_add]
  rw [h2, List.countP_append]
  have : (List.range 10).countP (fun s => b.testBit s) = (List.range 10).countP (fun i => bt (nI b) i) := by
    refine List.countP_congr (fun i hi => ?_)
    have : i < 10 := List.mem_range.mp hi
    rw [p_nbit]
    have h : i < 32 := by omega
    simp [h]
  omega
theorem fittingM_eq {z n k : Nat} (hz : z ≤ 17) (hn : n ≤ 6) (hk : k ≤ 24) {subj col ch mch : Nat → Int32} (hs : ∀ i, i < z → ∃ a : Nat, a < 10 ∧ subj i = nI a) (hc : ∀ i, i < z → col i = -2 ∨ ∃ c : Nat, c < n ∧ col i = nI c) (hr : okRoll k ch mch) (o : Nat → Int32) :
    m_X6_fitting (nI z) (nI k) subj col mch o = some (fitS (loN subj col (loZ o 10) z) mch k, loN subj col (loZ o 10) z) := by
  unfold m_X6_fitting
  rw [laysOpen_eq hz hs, bk1]
  refine mask_loop0 (E := fun x => some (x, loN subj col (loZ o 10) z)) (by omega) (fun rec acc => ?_) (fun rec p hp acc => ?_)
  · unfold m_X6_fitting_8; rw [if_pos (Int32.le_refl _)]
  · have i24 : inb (nI p) 24 = true := inb_nI (by omega) (by decide)
    have cl : (nI p).toNatClampNeg = p := nI_clamp (by omega)
    obtain ⟨-, ⟨b, h1, h2, e2⟩, h3⟩ := hr p hp
    have hl : (blN b).length < 8 := by have := blN_len b; rw [e2] at h3; omega
    unfold m_X6_fitting_8
    simp only [nI_ge hp (show k < 2 ^ 31 by omega), ↓reduceIte, i24, gd_tt, cl, lt_t, e2, bl_nI]
    rw [show (0 : Int32) = nI 0 from rfl, hasWayM_eq (loN_small hn hs hc o) 8 b 0 h2 (by decide) hl, bk1]
    cases wy (loN subj col (loZ o 10) z) (blN b) 0
    · simp only [fl, Bool.false_eq_true, ↓reduceIte, nI_0]
    · simp only [fl, ↓reduceIte, nI_0, e10]
theorem bl_lt {ch : Int32} {s : Nat} (h : s ∈ bl ch) : s < 10 := List.mem_range.mp (List.mem_filter.mp h).1
theorem wy_eq {cw cv : Nat → Int32} (h : ∀ s, s < 10 → cw s = cv s) (ch : Int32) (u : Nat) : wy cw (bl ch) u = wy cv (bl ch) u := wy_congr (fun s hs c _ => by rw [h s (bl_lt hs)])
theorem fitS_congr {cw cv ch mch : Nat → Int32} {k : Nat} (h : ∀ s, s < 10 → cw s = cv s) (hr : okRoll k ch mch) : fitS cw ch k = fitS cv mch k :=
  msk_congr (fun p hp => by rw [(hr p hp).1, wy_eq h])
theorem RSec.sub {n z : Nat} {subj teach seats col msubj mteach mseats mcol : Nat → Int32} (h : RSec n z subj teach seats col msubj mteach mseats mcol) : ∀ i, i < z → ∃ a : Nat, a < 10 ∧ msubj i = nI a := fun i hi => (h i hi).2.1
theorem RSec.mcols {n z : Nat} {subj teach seats col msubj mteach mseats mcol : Nat → Int32} (h : RSec n z subj teach seats col msubj mteach mseats mcol) : ∀ i, i < z → mcol i = -2 ∨ ∃ c : Nat, c < n ∧ mcol i = nI c := fun i hi => by
  rcases (h i hi).2.2.2.2.2.2 with ⟨_, a⟩ | ⟨c, hc, _, a⟩
  · exact Or.inl a
  · exact Or.inr ⟨c, hc, a⟩
theorem RSec.cols {n z : Nat} {subj teach seats col msubj mteach mseats mcol : Nat → Int32} (h : RSec n z subj teach seats col msubj mteach mseats mcol) : ∀ i, i < z → col i = -1 ∨ ∃ c : Nat, c < n ∧ col i = nI c := fun i hi => by
  rcases (h i hi).2.2.2.2.2.2 with ⟨a, _⟩ | ⟨c, hc, a, _⟩
  · exact Or.inl a
  · exact Or.inr ⟨c, hc, a⟩
theorem cw_open {n z : Nat} (hn : n ≤ 6) {subj teach seats col cw msubj mteach mseats mcol : Nat → Int32} (h : RSec n z subj teach seats col msubj mteach mseats mcol) (hcw : RCw z subj col cw) (o : Nat → Int32) : ∀ s, s < 10 → cw s = loN msubj mcol (loZ o 10) z s := by
  intro s hs
  refine b_ext (fun c hc => ?_)
  have a := hcw s hs c hc
  have b := loN_bit hn h.sub h.mcols o z (Nat.le_refl z) s hs c hc
  have e : (∃ i : Nat, i < z ∧ subj i = nI s ∧ col i = nI c) ↔ ∃ i : Nat, i < z ∧ msubj i = nI s ∧ mcol i = nI c := by
    constructor
    · rintro ⟨i, hi, h1, h2⟩; exact ⟨i, hi, by rw [← (h i hi).1]; exact h1, (h.colI hi (by omega)).mp h2⟩
    · rintro ⟨i, hi, h1, h2⟩; exact ⟨i, hi, by rw [(h i hi).1]; exact h1, (h.colI hi (by omega)).mpr h2⟩
  have f := a.trans (e.trans b.symm)
  cases e1 : bt (cw s) c
  · cases e2 : bt (loN msubj mcol (loZ o 10) z s) c
    · rfl
    · rw [f.mpr e2] at e1; cases e1
  · exact (f.mp e1).symm
/-- both sides' fitting -/
theorem fit_rel {n z k : Nat} (hn : n ≤ 6) (hz : z ≤ 16) (hk : k ≤ 24) {subj teach seats col cw msubj mteach mseats mcol ch mch : Nat → Int32} (h : RSec n z subj teach seats col msubj mteach mseats mcol) (hcw : RCw z subj col cw) (hr : okRoll k ch mch) (o : Nat → Int32) :
    m_X5_fitting cw (nI k) ch = some (fitS cw ch k) ∧ m_X6_fitting (nI z) (nI k) msubj mcol mch o = some (fitS cw ch k, loN msubj mcol (loZ o 10) z) := by
  refine ⟨fittingX_eq hk hr, ?_⟩
  rw [fittingM_eq (by omega) hn hk h.sub h.mcols hr, ← fitS_congr (cw_open hn h hcw o) hr]
theorem sim_fits : Sim_fits := by
  intro tc told ts tg cc rc sz bars subj teach seats col cw rs rk rch mt row tp tape mc mr mm mbars msubj mteach mseats mcol mp mk mch mth mopen hR
  obtain ⟨hrow, htext, ⟨rfl, rfl, rfl, n, r, z, ⟨hn1, hn6, rfl⟩, ⟨hr1, hr9, rfl⟩, ⟨hz, rfl⟩, hbars, hsec, hcw, hroom⟩, ⟨rfl, rfl, k, hk, rfl, hch⟩⟩ := hR
  obtain ⟨e1, e2⟩ := fit_rel hn6 hz hk hsec hcw hch mopen
  unfold m_X5_fits m_X6_fits
  simp only [e1, e2, bk1, bk2, tell1_eq, notes1_eq, bitCount_eq, bits_eq]
  exact ⟨_, _, _, _, _, _, _, rfl, rfl, RRow_1 _ _ _, htext, ⟨rfl, rfl, rfl, n, r, z, ⟨hn1, hn6, rfl⟩, ⟨hr1, hr9, rfl⟩, ⟨hz, rfl⟩, hbars, hsec, hcw, hroom⟩, ⟨rfl, rfl, k, hk, rfl, hch⟩⟩
/-- one pupil -/
theorem doesFit_eq {n z k j : Nat} (hn : n ≤ 6) (hz : z ≤ 16) (hj : j < k) (hk : k ≤ 24) {subj teach seats col cw msubj mteach mseats mcol ch mch : Nat → Int32} (h : RSec n z subj teach seats col msubj mteach mseats mcol) (hcw : RCw z subj col cw) (hr : okRoll k ch mch) (o : Nat → Int32) :
    m_X6_doesFit (nI z) msubj mcol mch o (nI j) = some (fl (wy cw (bl (mch j)) 0), loN msubj mcol (loZ o 10) z) := by
  unfold m_X6_doesFit
  obtain ⟨-, ⟨b, h1, h2, e2⟩, h3⟩ := hr j hj
  have hl : (blN b).length < 8 := by have := blN_len b; rw [e2] at h3; omega
  rw [laysOpen_eq (by omega) h.sub, bk1, gd_t (inb_nI (by omega) (by decide)), nI_clamp (by omega), e2, show (0 : Int32) = nI 0 from rfl, hasWayM_eq (loN_small hn h.sub h.mcols o) 8 b 0 h2 (by decide) hl, bk1, isb_fl, wy_eq (cw_open hn h hcw o), bl_nI]
  rfl
theorem flag_fl (b : Bool) : m_X6_flag (fl b) = some (fl b) := by cases b <;> rfl
theorem sim_pupil : Sim_pupil := by
  intro tc told ts tg cc rc sz bars subj teach seats col cw rs rk rch mt row tp tape mc mr mm mbars msubj mteach mseats mcol mp mk mch mth mopen v1 hR
  have hR0 := hR
  obtain ⟨hrow, htext, ⟨rfl, rfl, rfl, n, r, z, ⟨hn1, hn6, rfl⟩, ⟨hr1, hr9, rfl⟩, ⟨hz, rfl⟩, hbars, hsec, hcw, hroom⟩, ⟨rfl, rfl, k, hk, rfl, hch⟩⟩ := hR
  have hk' : k < 2 ^ 31 := by omega
  unfold m_X5_pupil m_X6_pupil
  by_cases h : 0 ≤ v1.toInt ∧ v1.toInt < k
  · obtain ⟨j, hj, rfl⟩ := rng_of h hk'
    have i24 : inb (nI j) 24 = true := inb_nI (by omega) (by decide)
    have cl : (nI j).toNatClampNeg = j := nI_clamp (by omega)
    simp only [X1_has_eq hk', X6_isPupil_eq hk', h, and_self, bk1, bk2, ↓reduceIte, e10, i24, gd_tt, cl, lt_t, (hch j hj).1, hasWayX_eq, doesFit_eq hn6 hz hj hk hsec hcw hch mopen, flag_fl, hasBit_eq (show j < 32 by omega), has_eq (show j < 32 by omega)]
    cases hw : wy cw (bl (mch j)) 0 <;> cases hb : bt rk j <;>
      · simp only [fl, Bool.false_eq_true, ↓reduceIte, e10, m_X5_pupil_40, m_X5_pupil_59, hasBit_eq (show j < 32 by omega), hb, m_X6_flag, bk1, bk2, tell2_eq, notes2_eq, i24, gd_tt, cl, (hch j hj).1]
        exact ⟨_, _, _, _, _, _, _, rfl, rfl, RRow_2 _ _ _ _, htext, ⟨rfl, rfl, rfl, n, r, z, ⟨hn1, hn6, rfl⟩, ⟨hr1, hr9, rfl⟩, ⟨hz, rfl⟩, hbars, hsec, hcw, hroom⟩, ⟨rfl, rfl, k, hk, rfl, hch⟩⟩
  · simp only [X1_has_eq hk', X6_isPupil_eq hk', h, bk1, ↓reduceIte]
    exact ⟨_, _, _, _, _, _, _, rfl, rfl, hR0⟩
