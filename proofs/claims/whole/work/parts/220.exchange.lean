/-! exchange -/
theorem traded_eq {n z k i j : Nat} (hn : n ≤ 6) (hz : z ≤ 16) (hk : k ≤ 24) (hi : i < z) (hj : j < z) (hij : i ≠ j) {subj col cw ch : Nat → Int32} (hok : okSC n z subj col) (h : RCw z subj col cw) :
    m_X5_fittingTraded (nI z) subj col cw (nI k) ch (fitC z subj col ch k) (nI i) (nI j) = some (fitC z subj (swp col i j) ch k, col, cw) := by
  obtain ⟨⟨a, ha, hsi⟩, hci⟩ := hok i hi
  obtain ⟨⟨b, hb, hsj⟩, hcj⟩ := hok j hj
  have ii : inb (nI i) 16 = true := inb_nI (by omega) (by decide)
  have ij : inb (nI j) 16 = true := inb_nI (by omega) (by decide)
  have ci : (nI i).toNatClampNeg = i := nI_clamp (by omega)
  have cj : (nI j).toNatClampNeg = j := nI_clamp (by omega)
  have hok2 : okSC n z subj (swp col i j) := okSC_upd (okSC_upd hok hcj) hci
  obtain ⟨cw2, t1, t2, t3⟩ := trade_eq hn hz (show i < 16 by omega) (show j < 16 by omega) ha hb hok hi hj hsi hsj h
  obtain ⟨cw3, u1, u2, u3⟩ := trade_eq hn hz (show i < 16 by omega) (show j < 16 by omega) ha hb hok2 hi hj hsi hsj t2
  rw [swp_swp hij] at u1 u2
  have e : cw3 = cw := cw_ext u2 h (fun s hs => by rw [u3 s (by omega) (by omega), t3 s (by omega) (by omega)])
  subst e
  unfold m_X5_fittingTraded
  rw [← fit_C hn hz hok h]
  simp only [t1, bk2, ii, ij, ci, cj, gd_tt, hsi, hsj]
  rw [anew_eq hk (fun s hs hb' => by
    rw [b_or, p_bit (by omega) (by omega), p_bit (by omega) (by omega)] at hb'
    simp only [Bool.or_eq_false_iff, decide_eq_false_iff_not] at hb'
    exact t3 s hb'.1 hb'.2), bk1, u1, bk2, fit_C hn hz hok2 t2]
def exOk (r z : Nat) (bars teach col : Nat → Int32) (i j : Nat) : Bool := decide (¬ col i = -1 ∧ ¬ col j = -1 ∧ ¬ col i = col j) && (rtB r z bars teach (swp col i j) i (teach i).toNatClampNeg && rtB r z bars teach (swp col i j) j (teach j).toNatClampNeg)
def fE (ok : Nat → Nat → Bool) (T : Nat → Nat → Int32) (O : Nat → Nat → (Nat → Int32) → (Nat → Int32)) (kept now : Int32) (z i : Nat) (s : Nat × Int32 × (Nat → Int32)) : Nat × Int32 × (Nat → Int32) := run (fun q => gB ok T O kept now i (i + 1 + q)) (z - (i + 1)) s
theorem inE_ok {z : Nat} {ok : Nat → Nat → Bool} {T : Nat → Nat → Int32} {O : Nat → Nat → (Nat → Int32) → (Nat → Int32)} {kept now : Int32} {i : Nat} (hi : i < z) {s : Nat × Int32 × (Nat → Int32)} (h : okB z z ok T s) {q : Nat} (hq : q ≤ z - (i + 1)) : okB z z ok T (run (fun q => gB ok T O kept now i (i + 1 + q)) q s) :=
  run_inv (fun p s hp hs => gB_ok hi (by omega) hs) h
theorem outE_ok {z : Nat} {ok : Nat → Nat → Bool} {T : Nat → Nat → Int32} {O : Nat → Nat → (Nat → Int32) → (Nat → Int32)} {kept now : Int32} {s : Nat × Int32 × (Nat → Int32)} (h : okB z z ok T s) {i : Nat} (hi : i ≤ z) : okB z z ok T (run (fE ok T O kept now z) i s) :=
  run_inv (fun i s hi hs => inE_ok (by omega) hs (Nat.le_refl _)) h
theorem exch_X {n r z k : Nat} (hn : n ≤ 6) (hr : r ≤ 9) (hz : z ≤ 16) (hk : k ≤ 24) {subj teach col cw ch : Nat → Int32} (hok : okSC n z subj col) (hcw : RCw z subj col cw) (hte : ∀ i, i < z → ∃ t : Nat, t < 10 ∧ teach i = nI t) (bars : Nat → Int32) (kept : Int32) (O : Nat → Nat → (Nat → Int32) → (Nat → Int32)) (o : Nat → Int32) {ok : Nat → Nat → Bool} (hO : ok = exOk r z bars teach col) {T : Nat → Nat → Int32} (hT : ∀ i j, T i j = fitC z subj (swp col i j) ch k) {now : Int32} (hnow : now = fitC z subj col ch k) (tc : Int32) (told : Nat → Int64) :
    it5 (m_X5_exchange_16 tc (nI r) (nI z) bars subj teach (nI k) kept ch told now) 1100 (nI (pop now)) (-2) 0 col cw = m_X5_exchange_131 tc col cw told (nI (run (fE ok T O kept now z) z (pop now, -2, o)).1) (run (fE ok T O kept now z) z (pop now, -2, o)).2.1 := by
  have hI0 : okB z z ok T (pop now, -2, o) := ⟨pop_le _, Or.inl rfl⟩
  refine seq5 (z := z) (fun i => nI (run (fE ok T O kept now z) i (pop now, -2, o)).1) (fun i => (run (fE ok T O kept now z) i (pop now, -2, o)).2.1) (fun i => nI i) (fun _ => col) (fun _ => cw) (by omega) (fun rec => ?_) (fun rec i hi => ?_)
  · unfold m_X5_exchange_16; rw [if_pos (Int32.le_refl _)]
  · have hIi : okB z z ok T (run (fE ok T O kept now z) i (pop now, -2, o)) := outE_ok hI0 (by omega)
    unfold m_X5_exchange_16
    rw [if_neg (nI_ge hi (by omega)), run, lt_t, nI_1]
    generalize run (fE ok T O kept now z) i (pop now, -2, o) = s at hIi
    unfold fE
    refine seq5 (z := z - (i + 1)) (fun q => nI (run (fun q => gB ok T O kept now i (i + 1 + q)) q s).1) (fun q => (run (fun q => gB ok T O kept now i (i + 1 + q)) q s).2.1) (fun q => nI (i + 1 + q)) (fun _ => col) (fun _ => cw) (by omega) (fun rec2 => ?_) (fun rec2 q hq => ?_)
    · unfold m_X5_exchange_34
      rw [show i + 1 + (z - (i + 1)) = z by omega, if_pos (Int32.le_refl _), lt_t, nI_1]
    · have hIq := inE_ok (O := O) (kept := kept) (now := now) hi hIi (show q ≤ z - (i + 1) by omega)
      rw [run]
      generalize hj' : i + 1 + q = j
      have hj : j < z := by omega
      have hij : i ≠ j := by omega
      rw [show i + 1 + (q + 1) = j + 1 by omega]
      generalize run (fun q => gB ok T O kept now i (i + 1 + q)) q s = y at hIq
      obtain ⟨t, ht, ti⟩ := hte i hi
      obtain ⟨u, hu, tj⟩ := hte j hj
      have hct : (teach i).toNatClampNeg = t := by rw [ti, nI_clamp (by omega)]
      have hcu : (teach j).toNatClampNeg = u := by rw [tj, nI_clamp (by omega)]
      have ii : inb (nI i) 16 = true := inb_nI (by omega) (by decide)
      have ij : inb (nI j) 16 = true := inb_nI (by omega) (by decide)
      have ci : (nI i).toNatClampNeg = i := nI_clamp (by omega)
      have cj : (nI j).toNatClampNeg = j := nI_clamp (by omega)
      unfold m_X5_exchange_34 m_X0_areApart
      simp only [nI_ge hj (show z < 2 ^ 31 by omega), ↓reduceIte, ii, ij, ci, cj, gd_tt, bk1, lt_t, nI_1, gB, hO, exOk, hct, hcu]
      by_cases h1 : col i = -1
      · simp only [h1, ↓reduceIte, bk1, not_true_eq_false, false_and, decide_false, Bool.false_and, Bool.false_eq_true]
      · by_cases h2 : col j = -1
        · simp only [h1, h2, ↓reduceIte, bk1, not_true_eq_false, false_and, and_false, decide_false, Bool.false_and, Bool.false_eq_true]
        · by_cases h3 : col i = col j
          · simp only [if_neg h1, if_neg h2, if_pos h3, bk1, ↓reduceIte]
            rw [if_neg]
            simp [h3]
          · have hd : decide (¬ col i = -1 ∧ ¬ col j = -1 ∧ ¬ col i = col j) = true := decide_eq_true ⟨h1, h2, h3⟩
            rw [if_neg h1, if_neg h2, if_neg h3, bk1, if_neg (by decide), mayTrade_eq hn hr hz ht hu (show i < 16 by omega) (show j < 16 by omega) hij bars ti tj (hok i hi).2 (hok j hj).2 h3, bk2, hd, Bool.true_and, hnow, traded_eq hn hz hk hi hj hij hok hcw, bk3, heldX, bk1, bitCount_eq, hT]
            cases rtB r z bars teach (swp col i j) i t && rtB r z bars teach (swp col i j) j u
            · rw [if_pos (by decide)]; rfl
            · rw [if_neg (show ¬ fl true = 0 by decide), if_pos rfl]
              simp only [bk1, fl_0]
              by_cases h4 : fitC z subj col ch k &&& (fitC z subj (swp col i j) ch k ^^^ (-1)) &&& kept = 0
              · have hle : nI (pop (fitC z subj (swp col i j) ch k)) ≤ nI y.1 ↔ pop (fitC z subj (swp col i j) ch k) ≤ y.1 := nI_leI (by have := pop_le (fitC z subj (swp col i j) ch k); omega) (by have := hIq.1; omega)
                by_cases h5 : y.1 < pop (fitC z subj (swp col i j) ch k)
                · simp only [h4, h5, decide_true, and_self, ↓reduceIte, Bool.true_eq_false, if_neg (show ¬ nI (pop (fitC z subj (swp col i j) ch k)) ≤ nI y.1 by rw [hle]; omega)]
                · simp only [h4, h5, decide_true, and_false, ↓reduceIte, Bool.true_eq_false, if_pos (show nI (pop (fitC z subj (swp col i j) ch k)) ≤ nI y.1 by rw [hle]; omega)]
              · simp only [h4, decide_false, false_and, ↓reduceIte]
theorem exch_M {n r z k : Nat} (hn : n ≤ 6) (hr : r ≤ 9) (hz : z ≤ 16) (hk : k ≤ 24) {bars mbars subj teach seats col msubj mteach mseats mcol ch mch : Nat → Int32} (hb : ∀ t : Nat, t < 10 → bars t = mbars t) (h : RSec n z subj teach seats col msubj mteach mseats mcol) (hr2 : okRoll k ch mch) (kept : Int32) {O : Nat → Nat → (Nat → Int32) → (Nat → Int32)} (hOp : ∀ i j o, O i j o = loN msubj (swp mcol i j) (loZ o 10) z) (o : Nat → Int32) {ok : Nat → Nat → Bool} (hO : ok = exOk r z bars teach col) {T : Nat → Nat → Int32} (hT : ∀ i j, T i j = fitC z subj (swp col i j) ch k) {now : Int32} (mt : Int32) (row : Nat → Int32) :
    it5 (m_X6_exchange_21 0 mt (nI r) (nI z) (nI k) kept row msubj mteach mbars mch now) 1100 (-2) (nI (pop now)) 0 mcol o = m_X6_exchange_163 0 mt row mcol (run (fE ok T O kept now z) z (pop now, -2, o)).2.2 (run (fE ok T O kept now z) z (pop now, -2, o)).2.1 (nI (run (fE ok T O kept now z) z (pop now, -2, o)).1) := by
  have hI0 : okB z z ok T (pop now, -2, o) := ⟨pop_le _, Or.inl rfl⟩
  refine seq5 (z := z) (fun i => (run (fE ok T O kept now z) i (pop now, -2, o)).2.1) (fun i => nI (run (fE ok T O kept now z) i (pop now, -2, o)).1) (fun i => nI i) (fun _ => mcol) (fun i => (run (fE ok T O kept now z) i (pop now, -2, o)).2.2) (by omega) (fun rec => ?_) (fun rec i hi => ?_)
  · unfold m_X6_exchange_21; rw [if_pos (Int32.le_refl _)]
  · have hIi : okB z z ok T (run (fE ok T O kept now z) i (pop now, -2, o)) := outE_ok hI0 (by omega)
    unfold m_X6_exchange_21
    rw [if_neg (nI_ge hi (by omega)), run, lt_t, nI_1]
    generalize run (fE ok T O kept now z) i (pop now, -2, o) = s at hIi
    unfold fE
    refine seq5 (z := z - (i + 1)) (fun q => (run (fun q => gB ok T O kept now i (i + 1 + q)) q s).2.1) (fun q => nI (run (fun q => gB ok T O kept now i (i + 1 + q)) q s).1) (fun q => nI (i + 1 + q)) (fun _ => mcol) (fun q => (run (fun q => gB ok T O kept now i (i + 1 + q)) q s).2.2) (by omega) (fun rec2 => ?_) (fun rec2 q hq => ?_)
    · unfold m_X6_exchange_36
      rw [show i + 1 + (z - (i + 1)) = z by omega, if_pos (Int32.le_refl _), lt_t, nI_1]
    · have hIq := inE_ok (O := O) (kept := kept) (now := now) hi hIi (show q ≤ z - (i + 1) by omega)
      rw [run]
      generalize hj' : i + 1 + q = j
      have hj : j < z := by omega
      have hij : i ≠ j := by omega
      rw [show i + 1 + (q + 1) = j + 1 by omega]
      generalize run (fun q => gB ok T O kept now i (i + 1 + q)) q s = y at hIq
      obtain ⟨-, -, p3, ⟨t, ht, p4⟩, -⟩ := h i hi
      obtain ⟨-, -, q3, ⟨u, hu, q4⟩, -⟩ := h j hj
      have hct : (teach i).toNatClampNeg = t := by rw [p3, p4, nI_clamp (by omega)]
      have hcu : (teach j).toNatClampNeg = u := by rw [q3, q4, nI_clamp (by omega)]
      have ii : inb (nI i) 17 = true := inb_nI (by omega) (by decide)
      have ij : inb (nI j) 17 = true := inb_nI (by omega) (by decide)
      have ci : (nI i).toNatClampNeg = i := nI_clamp (by omega)
      have cj : (nI j).toNatClampNeg = j := nI_clamp (by omega)
      unfold m_X6_exchange_36
      simp only [nI_ge hj (show z < 2 ^ 31 by omega), ↓reduceIte, ii, ij, ci, cj, gd_tt, bk1, lt_t, nI_1, gB, hO, exOk, hct, hcu, ← h.outI hn hi, ← h.outI hn hj, ← h.colEq hn hi hj]
      by_cases h1 : col i = -1
      · simp only [h1, ↓reduceIte, not_true_eq_false, false_and, decide_false, Bool.false_and, Bool.false_eq_true]
      · by_cases h2 : col j = -1
        · simp only [h1, h2, ↓reduceIte, not_true_eq_false, false_and, and_false, decide_false, Bool.false_and, Bool.false_eq_true]
        · by_cases h3 : col i = col j
          · simp only [if_neg h1, if_neg h2, if_pos h3]
            rw [if_neg]
            simp [h3]
          · have hd : decide (¬ col i = -1 ∧ ¬ col j = -1 ∧ ¬ col i = col j) = true := decide_eq_true ⟨h1, h2, h3⟩
            rw [if_neg h1, if_neg h2, if_neg h3, swap_eq hn hr hz ht hu hi hj hij hb h (p3.trans p4) (q3.trans q4), bk2, hd, Bool.true_and, hT]
            cases rtB r z bars teach (swp col i j) i t && rtB r z bars teach (swp col i j) j u
            · rw [if_pos (by decide)]; rfl
            · rw [if_neg (show ¬ fl true = 0 by decide), if_pos rfl, if_pos rfl, fitM hn hz hk (h.swp hi hj) hr2, bk2, changes_eq (by omega) (by omega), bk1, swp_swp hij, heldM, bk1, bits_eq, ← hOp]
              simp only [bk1, fl_0]
              by_cases h4 : now &&& (fitC z subj (swp col i j) ch k ^^^ (-1)) &&& kept = 0
              · have hle : nI y.1 < nI (pop (fitC z subj (swp col i j) ch k)) ↔ y.1 < pop (fitC z subj (swp col i j) ch k) := nI_ltI (by have := hIq.1; omega) (by have := pop_le (fitC z subj (swp col i j) ch k); omega)
                by_cases h5 : y.1 < pop (fitC z subj (swp col i j) ch k)
                · simp only [h4, h5, decide_true, and_self, ↓reduceIte, Bool.true_eq_false, if_pos (hle.mpr h5)]
                · simp only [h4, h5, decide_true, and_false, ↓reduceIte, Bool.true_eq_false, if_neg (fun e => h5 (hle.mp e))]
              · simp only [h4, decide_false, false_and, ↓reduceIte]
theorem sim_exchange : Sim_exchange := by
  intro tc told ts tg cc rc sz bars subj teach seats col cw rs rk rch mt row tp tape mc mr mm mbars msubj mteach mseats mcol mp mk mch mth mopen hR
  have hR0 := hR
  obtain ⟨hrow, htext, ⟨rfl, rfl, rfl, n, r, z, ⟨hn1, hn6, rfl⟩, ⟨hr1, hr9, rfl⟩, ⟨hz, rfl⟩, hbars, hsec, hcw, hroom⟩, ⟨rfl, rfl, k, hk, rfl, hch⟩⟩ := hR
  unfold m_X5_exchange m_X6_exchange
  rw [fitX hn6 hz hk hsec.ok hcw hch, bk1, bitCount_eq, bk1, fitM hn6 hz hk hsec hch, bk2, bits_eq, bk1]
  generalize loN msubj mcol (loZ mopen 10) z = o1
  have hte : ∀ i, i < z → ∃ t : Nat, t < 10 ∧ teach i = nI t := fun i hi => by obtain ⟨-, -, q3, ⟨t, ht, q4⟩, -⟩ := hsec i hi; exact ⟨t, ht, q3.trans q4⟩
  rw [exch_X hn6 hr9 hz hk hsec.ok hcw hte bars rk (fun i j o => loN msubj (swp mcol i j) (loZ o 10) z) o1 rfl (T := fun i j => fitC z subj (swp col i j) rch k) (fun i j => rfl) rfl,
    exch_M hn6 hr9 hz hk hbars hsec hch rk (O := fun i j o => loN msubj (swp mcol i j) (loZ o 10) z) (fun i j o => rfl) o1 rfl (T := fun i j => fitC z subj (swp col i j) rch k) (fun i j => rfl)]
  have hok := outE_ok (z := z) (ok := exOk r z bars teach col) (T := fun i j => fitC z subj (swp col i j) rch k) (O := fun i j o => loN msubj (swp mcol i j) (loZ o 10) z) (kept := rk) (now := fitC z subj col rch k) (s := (pop (fitC z subj col rch k), -2, o1)) ⟨pop_le _, Or.inl rfl⟩ (Nat.le_refl z)
  generalize run (fE (exOk r z bars teach col) (fun i j => fitC z subj (swp col i j) rch k) (fun i j o => loN msubj (swp mcol i j) (loZ o 10) z) rk (fitC z subj col rch k) z) z (pop (fitC z subj col rch k), -2, o1) = S at hok
  unfold m_X5_exchange_131 m_X6_exchange_163
  rcases hok.2 with e | ⟨i, j, hi, hj, -, e, -⟩
  · rw [e, if_pos rfl, if_pos (by decide)]
    exact ⟨_, _, _, _, _, _, _, _, _, _, rfl, rfl, hR0⟩
  · rw [e, if_neg (nI_nm2 (by omega)), if_neg (nI_neg (by omega))]
    simp only [tell1_eq, notes1_eq, bk2]
    exact ⟨_, _, _, _, _, _, _, _, _, _, rfl, rfl, RRow_1 _ _ _, hR0.2⟩
