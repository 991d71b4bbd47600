/-! two sections change columns -/
def swp (f : Nat → Int32) (i j : Nat) : Nat → Int32 := upd (upd f i (f j)) j (f i)
theorem swp_i {f : Nat → Int32} {i j : Nat} (h : i ≠ j) : swp f i j i = f j := by unfold swp; rw [upd_n h, upd_s]
theorem swp_j {f : Nat → Int32} {i j : Nat} : swp f i j j = f i := by unfold swp; rw [upd_s]
theorem swp_o {f : Nat → Int32} {i j q : Nat} (h : q ≠ i) (h2 : q ≠ j) : swp f i j q = f q := by unfold swp; rw [upd_n h2, upd_n h]
theorem swp_comm {f : Nat → Int32} {i j : Nat} (h : i ≠ j) : swp f i j = swp f j i := by
  funext q
  by_cases e1 : q = i
  · subst e1; rw [swp_i h, swp_j]
  · by_cases e2 : q = j
    · subst e2; rw [swp_j, swp_i (fun e => h e.symm)]
    · rw [swp_o e1 e2, swp_o e2 e1]
theorem swp_swp {f : Nat → Int32} {i j : Nat} (h : i ≠ j) : swp (swp f i j) i j = f := by
  funext q
  by_cases e1 : q = i
  · subst e1; rw [swp_i h, swp_j]
  · by_cases e2 : q = j
    · subst e2; rw [swp_j, swp_i h]
    · rw [swp_o e1 e2, swp_o e1 e2]
def rtB (r z : Nat) (bars teach col : Nat → Int32) (i t : Nat) : Bool := decide (col i = -1) || decide (obsX r z bars teach col i t (col i).toNatClampNeg = 0)
theorem mayReplace_eq {n r z t i j : Nat} (hn : n ≤ 6) (hr : r ≤ 9) (hz : z ≤ 16) (ht : t < 10) (hi : i < 16) (hj : j < 16) (hij : i ≠ j) (bars : Nat → Int32) {teach col : Nat → Int32} (hti : teach i = nI t) (hcj : col j = -1 ∨ ∃ c : Nat, c < n ∧ col j = nI c) (hne : ¬ col i = col j) :
    m_X0_mayReplace (nI r) (nI z) bars teach col (nI i) (nI j) = some (fl (rtB r z bars teach (swp col i j) i t), col) := by
  have ii : inb (nI i) 16 = true := inb_nI hi (by decide)
  have ij : inb (nI j) 16 = true := inb_nI hj (by decide)
  have ci : (nI i).toNatClampNeg = i := nI_clamp (by omega)
  have cj : (nI j).toNatClampNeg = j := nI_clamp (by omega)
  unfold m_X0_mayReplace m_X0_mayReplace_41 rtB
  simp only [ii, ij, ci, cj, gd_tt, lt_t, swp_i hij]
  rcases hcj with e | ⟨c, hc, e⟩
  · simp only [e, ↓reduceIte, decide_true, Bool.true_or, fl]
  · have hne1 : ¬ nI c = -1 := nI_nm1 (by omega)
    have cc : (nI c).toNatClampNeg = c := nI_clamp (by omega)
    have e1 : oth (upd col j (-1)) (nI i) (nI c) z = oth (swp col i j) (nI i) (nI c) z := oth_congr2 (fun q hq hqi => by
      have hqi : q ≠ i := fun h => hqi (by rw [h])
      by_cases e2 : q = j
      · subst e2
        rw [upd_s, swp_j]
        rw [e] at hne
        exact ⟨fun h => absurd h.symm hne1, fun h => absurd h hne⟩
      · rw [upd_n e2, swp_o hqi e2])
    have e2 : bsy (upd col j (-1)) teach (nI i) (nI t) (nI c) z = bsy (swp col i j) teach (nI i) (nI t) (nI c) z := bsy_congr2 (fun q hq hqi => by
      have hqi : q ≠ i := fun h => hqi (by rw [h])
      by_cases e2 : q = j
      · subst e2
        rw [upd_s, swp_j]
        rw [e] at hne
        exact ⟨⟨fun h => absurd h.symm hne1, fun h => absurd h hne⟩, rfl⟩
      · rw [upd_n e2, swp_o hqi e2]
        exact ⟨Iff.rfl, rfl⟩)
    have eb : upd (upd col j (-1)) j (nI c) = col := upd_back' e.symm
    simp only [e, hne1, ↓reduceIte, hti, obstacle_eq hr hz ht (show c < 32 by omega), bk1, cc, e1, e2, eb, decide_false, Bool.false_or]
    unfold obsX
    by_cases h : obs r (bt (bars t) c) (oth (swp col i j) (nI i) (nI c) z) (bsy (swp col i j) teach (nI i) (nI t) (nI c) z) = 0
    · simp only [h, ↓reduceIte, decide_true, fl]; rfl
    · simp only [h, ↓reduceIte, decide_false, fl, Bool.false_eq_true]; rfl
theorem mayTrade_eq {n r z t u i j : Nat} (hn : n ≤ 6) (hr : r ≤ 9) (hz : z ≤ 16) (ht : t < 10) (hu : u < 10) (hi : i < 16) (hj : j < 16) (hij : i ≠ j) (bars : Nat → Int32) {teach col : Nat → Int32} (hti : teach i = nI t) (htj : teach j = nI u) (hci : col i = -1 ∨ ∃ c : Nat, c < n ∧ col i = nI c) (hcj : col j = -1 ∨ ∃ c : Nat, c < n ∧ col j = nI c) (hne : ¬ col i = col j) :
    m_X0_mayTrade (nI r) (nI z) bars teach col (nI i) (nI j) = some (fl (rtB r z bars teach (swp col i j) i t && rtB r z bars teach (swp col i j) j u), col) := by
  unfold m_X0_mayTrade
  rw [mayReplace_eq hn hr hz ht hi hj hij bars hti hcj hne, bk2, mayReplace_eq hn hr hz hu hj hi (fun e => hij e.symm) bars htj hci (fun e => hne e.symm), bk2, swp_comm (fun e => hij e.symm)]
  simp only [fl_0]
  cases rtB r z bars teach (swp col i j) i t <;> cases rtB r z bars teach (swp col i j) j u <;> simp [fl]
theorem changes_eq {i j : Nat} (hi : i < 17) (hj : j < 17) (mcol : Nat → Int32) : m_X6_changes mcol (nI i) (nI j) = some (swp mcol i j) := by
  have ii : inb (nI i) 17 = true := inb_nI hi (by decide)
  have ij : inb (nI j) 17 = true := inb_nI hj (by decide)
  have ci : (nI i).toNatClampNeg = i := nI_clamp (by omega)
  have cj : (nI j).toNatClampNeg = j := nI_clamp (by omega)
  unfold m_X6_changes swp
  simp only [ii, ij, ci, cj, gd_tt, lt_t]
theorem isRight_eq {n r z t i : Nat} (hn : n ≤ 6) (hr : r ≤ 9) (hz : z ≤ 16) (ht : t < 10) (hi : i < z) {bars mbars subj teach seats col msubj mteach mseats mcol : Nat → Int32} (hb : ∀ t : Nat, t < 10 → bars t = mbars t) (h : RSec n z subj teach seats col msubj mteach mseats mcol) (hti : teach i = nI t) :
    m_X6_isRight (nI r) (nI z) mteach mcol mbars (nI i) = some (fl (rtB r z bars teach col i t)) := by
  have ii : inb (nI i) 17 = true := inb_nI (by omega) (by decide)
  have ci : (nI i).toNatClampNeg = i := nI_clamp (by omega)
  have hmt : mteach i = nI t := by rw [← (h i hi).2.2.1]; exact hti
  unfold m_X6_isRight rtB
  simp only [ii, ci, gd_tt]
  rcases (h i hi).2.2.2.2.2.2 with ⟨a, b⟩ | ⟨c, hc, a, b⟩
  · simp only [a, b, ↓reduceIte, decide_true, Bool.true_or, fl]
  · have cc : (nI c).toNatClampNeg = c := nI_clamp (by omega)
    simp only [a, b, nI_nm1 (show c < 2 ^ 31 by omega), nI_nm2 (show c < 2 ^ 31 by omega), ↓reduceIte, cc, isLegal_eq hr (show z ≤ 17 by omega) ht (show c < 32 by omega) (show i < 17 by omega) mbars mteach mcol hmt, ← obsX_congr (r := r) (j := i) hb h ht (show c < 2 ^ 31 by omega), bk1, decide_false, Bool.false_or]
    by_cases h0 : obsX r z bars teach col i t c = 0
    · simp only [h0, ↓reduceIte, decide_true, fl, e10]
    · simp only [h0, ↓reduceIte, decide_false, fl, Bool.false_eq_true]
theorem RSec.swp {n z i j : Nat} {subj teach seats col msubj mteach mseats mcol : Nat → Int32} (h : RSec n z subj teach seats col msubj mteach mseats mcol) (hi : i < z) (hj : j < z) : RSec n z subj teach seats (swp col i j) msubj mteach mseats (swp mcol i j) := by
  have h1 : okMv n (col j) (mcol j) := (h j hj).2.2.2.2.2.2
  have h2 : okMv n (col i) (mcol i) := (h i hi).2.2.2.2.2.2
  exact (h.mv (j := i) h1).mv (j := j) h2
theorem swap_eq {n r z t u i j : Nat} (hn : n ≤ 6) (hr : r ≤ 9) (hz : z ≤ 16) (ht : t < 10) (hu : u < 10) (hi : i < z) (hj : j < z) (hij : i ≠ j) {bars mbars subj teach seats col msubj mteach mseats mcol : Nat → Int32} (hb : ∀ t : Nat, t < 10 → bars t = mbars t) (h : RSec n z subj teach seats col msubj mteach mseats mcol) (hti : teach i = nI t) (htj : teach j = nI u) :
    m_X6_swap (nI r) (nI z) mteach mcol mbars (nI i) (nI j) = some (fl (rtB r z bars teach (swp col i j) i t && rtB r z bars teach (swp col i j) j u), if (rtB r z bars teach (swp col i j) i t && rtB r z bars teach (swp col i j) j u) = true then swp mcol i j else mcol) := by
  unfold m_X6_swap m_X6_swap_24
  simp only [changes_eq (show i < 17 by omega) (show j < 17 by omega), bk1, isRight_eq hn hr hz ht hi hb (h.swp hi hj) hti, isRight_eq hn hr hz hu hj hb (h.swp hi hj) htj, swp_swp hij, fl_0]
  cases rtB r z bars teach (swp col i j) i t <;> cases rtB r z bars teach (swp col i j) j u <;> simp [fl]
/-- columnsWith is told by the sections -/
theorem cw_ext {z : Nat} {subj col cw cv : Nat → Int32} (h : RCw z subj col cw) (h2 : RCw z subj col cv) (h10 : ∀ s, ¬ s < 10 → cw s = cv s) : cw = cv := by
  funext s
  by_cases hs : s < 10
  · exact b_ext (fun c hc => b_iff ((h s hs c hc).trans (h2 s hs c hc).symm))
  · exact h10 s hs
theorem trade_eq {n z i j a b : Nat} (hn : n ≤ 6) (hz : z ≤ 16) (hi : i < 16) (hj : j < 16) (ha : a < 10) (hb : b < 10) {subj col cw : Nat → Int32} (hok : okSC n z subj col) (hiz : i < z) (hjz : j < z) (hsi : subj i = nI a) (hsj : subj j = nI b) (h : RCw z subj col cw) :
    ∃ cw2, m_X0_trade (nI z) subj col cw (nI i) (nI j) = some (swp col i j, cw2) ∧ RCw z subj (swp col i j) cw2 ∧ ∀ s, s ≠ a → s ≠ b → cw2 s = cw s := by
  have ii : inb (nI i) 16 = true := inb_nI hi (by decide)
  have ij : inb (nI j) 16 = true := inb_nI hj (by decide)
  have ci : (nI i).toNatClampNeg = i := nI_clamp (by omega)
  have cj : (nI j).toNatClampNeg = j := nI_clamp (by omega)
  refine ⟨upd (upd cw a (cwW z subj (upd col i (col j)) a)) b (cwW z subj (swp col i j) b), ?_, ?_, fun s h1 h2 => by rw [upd_n h2, upd_n h1]⟩
  · unfold m_X0_trade
    simp only [ii, ij, ci, cj, gd_tt, lt_t, place_eq hz hi ha hsi, place_eq hz hj hb hsj, bk2]
    rfl
  · exact RCw_place hn hz hb (okSC_upd hok (hok j hjz).2) hsj (RCw_place hn hz ha hok hsi h (hok j hjz).2) (hok i hiz).2
theorem rt_rooms {n r z i j t u : Nat} (hn : n ≤ 6) (hz : z ≤ 16) (hi : i < z) (hj : j < z) (hij : i ≠ j) {bars teach subj col : Nat → Int32} (hok : okSC n z subj col) (hroom : ∀ c : Nat, c < n → inCol col c z ≤ r) (h1 : rtB r z bars teach (swp col i j) i t = true) (h2 : rtB r z bars teach (swp col i j) j u = true) : ∀ d : Nat, d < n → inCol (swp col i j) d z ≤ r := by
  have key : ∀ (p v d : Nat), p < z → d < n → swp col i j p = nI d → rtB r z bars teach (swp col i j) p v = true → inCol (swp col i j) d z ≤ r := by
    intro p v d hp hd e hrt
    unfold rtB at hrt
    rw [e, nI_clamp (by omega)] at hrt
    simp only [Bool.or_eq_true, decide_eq_true_eq, nI_nm1 (show d < 2 ^ 31 by omega), false_or] at hrt
    have := (obs_0.mp hrt).2.2
    rw [oth_inCol (j := p) (by omega) z (by omega), if_pos ⟨hp, e⟩]; omega
  intro d hd
  by_cases e1 : col j = nI d
  · exact key i t d hi hd (by rw [swp_i hij]; exact e1) h1
  · by_cases e2 : col i = nI d
    · exact key j u d hj hd (by rw [swp_j]; exact e2) h2
    · exact Nat.le_trans (inCol_off (by omega) (by omega) e2) (Nat.le_trans (inCol_off (by omega) (by omega) e1) (hroom d hd))
theorem RSec.colEq {n z i j : Nat} (hn : n ≤ 6) {subj teach seats col msubj mteach mseats mcol : Nat → Int32} (h : RSec n z subj teach seats col msubj mteach mseats mcol) (hi : i < z) (hj : j < z) : (col i = col j) ↔ (mcol i = mcol j) := by
  rcases (h j hj).2.2.2.2.2.2 with ⟨a1, a2⟩ | ⟨c, hc, a1, a2⟩
  · rw [a1, a2]; exact h.outI hn hi
  · rw [a1, a2]; exact h.colI hi (by omega)
theorem sim_swaps : Sim_swaps := by
  intro tc told ts tg cc rc sz bars subj teach seats col cw rs rk rch mt row tp tape mc mr mm mbars msubj mteach mseats mcol mp mk mch mth mopen v1 v2 hR
  have hR0 := hR
  obtain ⟨hrow, htext, ⟨rfl, rfl, rfl, n, r, z, ⟨hn1, hn6, rfl⟩, ⟨hr1, hr9, rfl⟩, ⟨hz, rfl⟩, hbars, hsec, hcw, hroom⟩, ⟨rfl, rfl, k, hk, rfl, hch⟩⟩ := hR
  have hz' : z < 2 ^ 31 := by omega
  unfold m_X5_swaps m_X6_swaps
  by_cases h : 0 ≤ v1.toInt ∧ v1.toInt < z
  · by_cases h2 : 0 ≤ v2.toInt ∧ v2.toInt < z
    · obtain ⟨i, hi, rfl⟩ := rng_of h hz'
      obtain ⟨j, hj, rfl⟩ := rng_of h2 hz'
      obtain ⟨p1, ⟨a, ha, p2⟩, p3, ⟨t, ht, p4⟩, -⟩ := hsec i hi
      obtain ⟨q1, ⟨b, hb, q2⟩, q3, ⟨u, hu, q4⟩, -⟩ := hsec j hj
      have ii : inb (nI i) 16 = true := inb_nI (by omega) (by decide)
      have ij : inb (nI j) 16 = true := inb_nI (by omega) (by decide)
      have ii7 : inb (nI i) 17 = true := inb_nI (by omega) (by decide)
      have ij7 : inb (nI j) 17 = true := inb_nI (by omega) (by decide)
      have ci : (nI i).toNatClampNeg = i := nI_clamp (by omega)
      have cj : (nI j).toNatClampNeg = j := nI_clamp (by omega)
      have hE := hsec.colEq hn6 hi hj
      simp only [X0_has_eq hz', X6_isSection_eq hz', h, h2, and_self, bk1, ↓reduceIte, e10, ii, ij, ii7, ij7, ci, cj, gd_tt, ← hE]
      by_cases h3 : col i = col j
      · rw [if_pos h3, if_pos h3]
        exact ⟨_, _, _, _, _, _, rfl, rfl, hR0⟩
      · have hij : i ≠ j := fun e => h3 (by rw [e])
        simp only [if_neg h3, mayTrade_eq hn6 hr9 hz ht hu (show i < 16 by omega) (show j < 16 by omega) hij bars (p3.trans p4) (q3.trans q4) (hsec.cols i hi) (hsec.cols j hj) h3, swap_eq hn6 hr9 hz ht hu hi hj hij hbars hsec (p3.trans p4) (q3.trans q4), bk2]
        cases e1 : rtB r z bars teach (swp col i j) i t
        · simp only [Bool.false_and, fl, Bool.false_eq_true, ↓reduceIte]
          exact ⟨_, _, _, _, _, _, rfl, rfl, hR0⟩
        · cases e2 : rtB r z bars teach (swp col i j) j u
          · simp only [Bool.and_false, fl, Bool.false_eq_true, ↓reduceIte]
            exact ⟨_, _, _, _, _, _, rfl, rfl, hR0⟩
          · obtain ⟨cw2, t1, t2, -⟩ := trade_eq hn6 hz (show i < 16 by omega) (show j < 16 by omega) ha hb hsec.ok hi hj (p1.trans p2) (q1.trans q2) hcw
            obtain ⟨f1, f2⟩ := fit_rel hn6 hz hk (hsec.swp hi hj) t2 hch mopen
            simp only [Bool.and_self, fl, ↓reduceIte, e10, t1, bk2, f1, f2, bk1, bitCount_eq, bits_eq]
            exact ⟨_, _, _, _, _, _, rfl, rfl, hrow, htext, ⟨rfl, rfl, rfl, n, r, z, ⟨hn1, hn6, rfl⟩, ⟨hr1, hr9, rfl⟩, ⟨hz, rfl⟩, hbars, hsec.swp hi hj, t2, rt_rooms hn6 hz hi hj hij hsec.ok hroom e1 e2⟩, ⟨rfl, rfl, k, hk, rfl, hch⟩⟩
    · simp only [X0_has_eq hz', X6_isSection_eq hz', h, h2, and_self, bk1, ↓reduceIte, e10]
      exact ⟨_, _, _, _, _, _, rfl, rfl, hR0⟩
  · simp only [X0_has_eq hz', X6_isSection_eq hz', h, bk1, ↓reduceIte]
    exact ⟨_, _, _, _, _, _, rfl, rfl, hR0⟩
