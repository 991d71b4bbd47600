/-! who would fit -/
theorem cwW_bit17 {n z : Nat} (hn : n ≤ 6) (hz : z ≤ 17) {subj col : Nat → Int32} (h : okSC n z subj col) (a : Nat) {c : Nat} (hc : c < 32) : bt (cwW z subj col a) c = true ↔ ∃ i, i < z ∧ subj i = nI a ∧ col i = nI c := by
  unfold cwW
  rw [sjF_bit hc z (fun i hi hp => by
    rcases (h i hi).2 with e | ⟨d, hd, e⟩
    · exact absurd e (of_decide_eq_true hp).2.2
    · exact ⟨d, by omega, e⟩)]
  constructor
  · rintro ⟨i, hi, h1, h2⟩; exact ⟨i, hi, (of_decide_eq_true h1).2.1, h2⟩
  · rintro ⟨i, hi, h1, h2⟩; exact ⟨i, hi, decide_eq_true ⟨nI_nm1 (by omega), h1, by rw [h2]; exact nI_nm1 (by omega)⟩, h2⟩
/-- who fits, told by sections and choices alone -/
def fitC (z : Nat) (subj col ch : Nat → Int32) (k : Nat) : Int32 := fitS (fun s => cwW z subj col s) ch k
theorem fitS_cw {cw cv ch : Nat → Int32} {k : Nat} (h : ∀ s, s < 10 → cw s = cv s) : fitS cw ch k = fitS cv ch k := msk_congr (fun p _ => wy_eq h _ _)
theorem fit_C {n z k : Nat} (hn : n ≤ 6) (hz : z ≤ 16) {subj col cw ch : Nat → Int32} (hok : okSC n z subj col) (h : RCw z subj col cw) : fitS cw ch k = fitC z subj col ch k :=
  fitS_cw (fun s hs => (cwW_eq hn hz hok h hs).symm)
theorem fitX {n z k : Nat} (hn : n ≤ 6) (hz : z ≤ 16) (hk : k ≤ 24) {subj col cw ch mch : Nat → Int32} (hok : okSC n z subj col) (h : RCw z subj col cw) (hr : okRoll k ch mch) : m_X5_fitting cw (nI k) ch = some (fitC z subj col ch k) := by
  rw [fittingX_eq hk hr, fit_C hn hz hok h]
theorem RCw_C {n z : Nat} (hn : n ≤ 6) (hz : z ≤ 16) {subj col : Nat → Int32} (hok : okSC n z subj col) : RCw z subj col (fun s => cwW z subj col s) := fun s _ _ hc => cwW_bit hn hz hok s hc
theorem fitM {n z k : Nat} (hn : n ≤ 6) (hz : z ≤ 16) (hk : k ≤ 24) {subj teach seats col msubj mteach mseats mcol ch mch : Nat → Int32} (h : RSec n z subj teach seats col msubj mteach mseats mcol) (hr : okRoll k ch mch) (o : Nat → Int32) :
    m_X6_fitting (nI z) (nI k) msubj mcol mch o = some (fitC z subj col ch k, loN msubj mcol (loZ o 10) z) := (fit_rel hn hz hk h (RCw_C hn hz h.ok) hr o).2
theorem anew_eq {k : Nat} (hk : k ≤ 24) {cw cv ch : Nat → Int32} {subs : Int32} (h : ∀ s, s < 10 → bt subs s = false → cv s = cw s) : m_X5_fittingAnew cv (nI k) ch (fitS cw ch k) subs = some (fitS cv ch k) := by
  rw [fittingAnew_eq hk]
  congr 1
  refine msk_congr (fun p hp => ?_)
  by_cases e : ch p &&& subs = 0
  · rw [if_pos e]
    unfold fitS
    rw [msk_bt _ k (by omega)]
    simp only [hp, decide_true, Bool.true_and]
    refine wy_congr (fun s hs c _ => ?_)
    have h10 := bl_lt hs
    have hb : bt (ch p) s = true := (List.mem_filter.mp hs).2
    have hz : bt (ch p &&& subs) s = false := by rw [e, b_0]
    rw [b_and, hb, Bool.true_and] at hz
    rw [h s h10 hz]
  · rw [if_neg e]
theorem moved_eq {n z k j : Nat} (hn : n ≤ 6) (hz : z ≤ 16) (hk : k ≤ 24) (hj : j < z) {subj col cw ch : Nat → Int32} (hok : okSC n z subj col) (h : RCw z subj col cw) {v : Int32} (hv : v = -1 ∨ ∃ c : Nat, c < n ∧ v = nI c) :
    m_X5_fittingMoved (nI z) subj col cw (nI k) ch (fitC z subj col ch k) (nI j) v = some (fitC z subj (upd col j v) ch k, col, cw) := by
  obtain ⟨⟨a, ha, hs⟩, hcj⟩ := hok j hj
  have i16 : inb (nI j) 16 = true := inb_nI (by omega) (by decide)
  have cl : (nI j).toNatClampNeg = j := nI_clamp (by omega)
  have hcw' := RCw_place hn hz ha hok hs h hv
  unfold m_X5_fittingMoved
  rw [← fit_C hn hz hok h]
  simp only [i16, cl, gd_tt, lt_t, hs, place_eq hz (show j < 16 by omega) ha hs, bk2]
  rw [anew_eq hk (fun s hs' hb => by
    rw [p_bit (by omega) (by omega)] at hb
    exact upd_n (of_decide_eq_false hb)), bk1]
  simp only [upd_back, fit_C hn hz (okSC_upd hok hv) hcw']
  rw [upd_back' (cwW_eq hn hz hok h ha)]
theorem by_eq {n z k j : Nat} (hn : n ≤ 6) (hz : z ≤ 16) (hk : k ≤ 24) (hj : j < z) {subj teach seats col msubj mteach mseats mcol ch mch : Nat → Int32} (h : RSec n z subj teach seats col msubj mteach mseats mcol) (hr : okRoll k ch mch) {v mv : Int32} (hv : okMv n v mv) (o : Nat → Int32) :
    m_X6_fittingBy (nI z) (nI k) msubj mcol mch o (nI j) mv = some (fitC z subj (upd col j v) ch k, mcol, loN msubj (upd mcol j mv) (loZ o 10) z) := by
  have i17 : inb (nI j) 17 = true := inb_nI (by omega) (by decide)
  have cl : (nI j).toNatClampNeg = j := nI_clamp (by omega)
  unfold m_X6_fittingBy
  simp only [i17, cl, gd_tt, lt_t, fitM hn hz hk (h.mv (j := j) hv) hr, bk2, upd_back]
theorem heldX (kept now t : Int32) : m_X5_isHeld kept now t = some (fl (decide (now &&& (t ^^^ (-1)) &&& kept = 0))) := by
  unfold m_X5_isHeld
  by_cases h : now &&& (t ^^^ (-1)) &&& kept = 0
  · simp only [h, ↓reduceIte, decide_true, fl]
  · simp only [h, ↓reduceIte, decide_false, fl, Bool.false_eq_true]
theorem held_sw (kept now t : Int32) : kept &&& now &&& (t ^^^ (-1)) = now &&& (t ^^^ (-1)) &&& kept :=
  b_ext (fun i _ => by simp only [b_and]; cases bt kept i <;> simp)
theorem heldM (kept now t : Int32) : m_X6_isHeld kept now t = some (fl (decide (now &&& (t ^^^ (-1)) &&& kept = 0))) := by
  unfold m_X6_isHeld
  rw [held_sw]
  by_cases h : now &&& (t ^^^ (-1)) &&& kept = 0
  · simp only [h, ↓reduceIte, decide_true, fl]
  · simp only [h, ↓reduceIte, decide_false, fl, Bool.false_eq_true]
theorem sim_gain : Sim_gain := by
  intro tc told ts tg cc rc sz bars subj teach seats col cw rs rk rch mt row tp tape mc mr mm mbars msubj mteach mseats mcol mp mk mch mth mopen v1 v2 hR
  have hR0 := hR
  obtain ⟨hrow, htext, ⟨rfl, rfl, rfl, n, r, z, ⟨hn1, hn6, rfl⟩, ⟨hr1, hr9, rfl⟩, ⟨hz, rfl⟩, hbars, hsec, hcw, hroom⟩, ⟨rfl, rfl, k, hk, rfl, hch⟩⟩ := hR
  have hz' : z < 2 ^ 31 := by omega
  have hn' : n < 2 ^ 31 := by omega
  unfold m_X5_gain m_X6_gain
  by_cases h : 0 ≤ v1.toInt ∧ v1.toInt < z
  · by_cases h2 : 0 ≤ v2.toInt ∧ v2.toInt < n
    · obtain ⟨j, hj, rfl⟩ := rng_of h hz'
      obtain ⟨c, hc, rfl⟩ := rng_of h2 hn'
      obtain ⟨q1, ⟨a, ha, q2⟩, q3, ⟨t, ht, q4⟩, q5, q6, q7⟩ := hsec j hj
      have i16 : inb (nI j) 16 = true := inb_nI (by omega) (by decide)
      have i17 : inb (nI j) 17 = true := inb_nI (by omega) (by decide)
      have cl : (nI j).toNatClampNeg = j := nI_clamp (by omega)
      have hcI : (col j = nI c) ↔ (mcol j = nI c) := hsec.colI hj (by omega)
      simp only [X0_has_eq hz', X6_isSection_eq hz', X0_hasColumn_eq hn', X6_isColumn_eq hn', h, h2, and_self, bk1, ↓reduceIte, e10, i16, i17, gd_tt, cl, mayMove_eq hr9 hz ht (show c < 32 by omega) (show j < 16 by omega) bars col (q3.trans q4), isLegal_eq hr9 (show z ≤ 17 by omega) ht (show c < 32 by omega) (show j < 17 by omega) mbars mteach mcol q4, ← obsX_congr (r := r) (j := j) hbars hsec ht (show c < 2 ^ 31 by omega), ← hcI]
      by_cases h3 : col j = nI c
      · simp only [h3, not_true_eq_false, false_and, ↓reduceIte]
        exact ⟨_, _, _, _, _, _, _, _, _, _, rfl, rfl, hR0⟩
      · by_cases h4 : obsX r z bars teach col j t c = 0
        · have hv : okMv n (nI c) (nI c) := Or.inr ⟨c, hc, rfl, rfl⟩
          simp only [h3, h4, ↓reduceIte, not_false_eq_true, and_self, e10, fitX hn6 hz hk hsec.ok hcw hch, fitM hn6 hz hk hsec hch, moved_eq hn6 hz hk hj hsec.ok hcw hv.cls, by_eq hn6 hz hk hj hsec hch hv, bk1, bk2, bk3, bitCount_eq, bits_eq, tell2_eq, notes2_eq]
          exact ⟨_, _, _, _, _, _, _, _, _, _, rfl, rfl, RRow_2 _ _ _ _, hR0.2⟩
        · simp only [h3, h4, ↓reduceIte, not_false_eq_true, and_false]
          exact ⟨_, _, _, _, _, _, _, _, _, _, rfl, rfl, hR0⟩
    · simp only [X0_has_eq hz', X6_isSection_eq hz', X0_hasColumn_eq hn', X6_isColumn_eq hn', h, h2, and_self, bk1, ↓reduceIte, e10]
      exact ⟨_, _, _, _, _, _, _, _, _, _, rfl, rfl, hR0⟩
  · simp only [X0_has_eq hz', X6_isSection_eq hz', h, bk1, ↓reduceIte]
    exact ⟨_, _, _, _, _, _, _, _, _, _, rfl, rfl, hR0⟩
/-! the best move -/
/-- may section j go to column c? -/
def mvOk (r z : Nat) (bars teach col : Nat → Int32) (j c : Nat) : Bool := decide (¬ col j = nI c ∧ obsX r z bars teach col j (teach j).toNatClampNeg c = 0)
def gB (ok : Nat → Nat → Bool) (T : Nat → Nat → Int32) (O : Nat → Nat → (Nat → Int32) → (Nat → Int32)) (kept now : Int32) (j c : Nat) (s : Nat × Int32 × (Nat → Int32)) : Nat × Int32 × (Nat → Int32) :=
  if ok j c = true then (if (now &&& (T j c ^^^ (-1)) &&& kept = 0) ∧ s.1 < pop (T j c) then (pop (T j c), (100 : Int32) * nI j + nI c, O j c s.2.2) else (s.1, s.2.1, O j c s.2.2)) else s
def okB (n z : Nat) (ok : Nat → Nat → Bool) (T : Nat → Nat → Int32) (s : Nat × Int32 × (Nat → Int32)) : Prop := s.1 ≤ 32 ∧ (s.2.1 = -2 ∨ ∃ j c, j < z ∧ c < n ∧ ok j c = true ∧ s.2.1 = nI (100 * j + c) ∧ s.1 = pop (T j c))
theorem gB_ok {n z : Nat} {ok : Nat → Nat → Bool} {T : Nat → Nat → Int32} {O : Nat → Nat → (Nat → Int32) → (Nat → Int32)} {kept now : Int32} {j c : Nat} (hj : j < z) (hc : c < n) {s : Nat × Int32 × (Nat → Int32)} (h : okB n z ok T s) : okB n z ok T (gB ok T O kept now j c s) := by
  unfold gB
  split
  · rename_i h1
    split
    · refine ⟨pop_le _, Or.inr ⟨j, c, hj, hc, h1, ?_, rfl⟩⟩
      show (100 : Int32) * nI j + nI c = _
      rw [show (100 : Int32) = nI 100 from rfl, pk_mul, nI_add]
    · exact h
  · exact h
theorem inB_ok {n z : Nat} {ok : Nat → Nat → Bool} {T : Nat → Nat → Int32} {O : Nat → Nat → (Nat → Int32) → (Nat → Int32)} {kept now : Int32} {j : Nat} (hj : j < z) {s : Nat × Int32 × (Nat → Int32)} (h : okB n z ok T s) {c : Nat} (hc : c ≤ n) : okB n z ok T (run (gB ok T O kept now j) c s) :=
  run_inv (fun i s hi hs => gB_ok hj (by omega) hs) h
theorem outB_ok {n z : Nat} {ok : Nat → Nat → Bool} {T : Nat → Nat → Int32} {O : Nat → Nat → (Nat → Int32) → (Nat → Int32)} {kept now : Int32} {s : Nat × Int32 × (Nat → Int32)} (h : okB n z ok T s) {j : Nat} (hj : j ≤ z) : okB n z ok T (run (fun j s => run (gB ok T O kept now j) n s) j s) :=
  run_inv (fun i s hi hs => inB_ok (by omega) hs (Nat.le_refl n)) h
theorem bestX {n r z k : Nat} (hn : n ≤ 6) (hr : r ≤ 9) (hz : z ≤ 16) (hk : k ≤ 24) {subj teach col cw ch : Nat → Int32} (hok : okSC n z subj col) (hcw : RCw z subj col cw) (hte : ∀ i, i < z → ∃ t : Nat, t < 10 ∧ teach i = nI t) (bars : Nat → Int32) (kept : Int32) (O : Nat → Nat → (Nat → Int32) → (Nat → Int32)) (o : Nat → Int32) :
    m_X5_bestMove (nI n) (nI r) (nI z) bars subj teach col cw (nI k) kept ch (fitC z subj col ch k) = some ((run (fun j s => run (gB (fun j c => mvOk r z bars teach col j c) (fun j c => fitC z subj (upd col j (nI c)) ch k) O kept (fitC z subj col ch k) j) n s) z (pop (fitC z subj col ch k), -2, o)).2.1, col, cw) := by
  unfold m_X5_bestMove
  rw [bitCount_eq, bk1]
  generalize hS : run (fun j s => run (gB (fun j c => mvOk r z bars teach col j c) (fun j c => fitC z subj (upd col j (nI c)) ch k) O kept (fitC z subj col ch k) j) n s) = F
  have hF : ∀ j s, F (j + 1) s = run (gB (fun j c => mvOk r z bars teach col j c) (fun j c => fitC z subj (upd col j (nI c)) ch k) O kept (fitC z subj col ch k) j) n (F j s) := fun j s => by rw [← hS, run]
  have hF0 : ∀ s, F 0 s = s := fun s => by rw [← hS, run]
  have hI0 : okB n z (fun j c => mvOk r z bars teach col j c) (fun j c => fitC z subj (upd col j (nI c)) ch k) (pop (fitC z subj col ch k), -2, o) := ⟨pop_le _, Or.inl rfl⟩
  have hI : ∀ j, j ≤ z → okB n z (fun j c => mvOk r z bars teach col j c) (fun j c => fitC z subj (upd col j (nI c)) ch k) (F j (pop (fitC z subj col ch k), -2, o)) := fun j hj => by rw [← hS]; exact outB_ok hI0 hj
  have := seq5 (b := m_X5_bestMove_11 (nI n) (nI r) (nI z) bars subj teach (nI k) kept ch (fitC z subj col ch k)) (z := z) (E := some ((F z (pop (fitC z subj col ch k), -2, o)).2.1, col, cw)) (fun j => nI (F j (pop (fitC z subj col ch k), -2, o)).1) (fun j => (F j (pop (fitC z subj col ch k), -2, o)).2.1) (fun j => nI j) (fun _ => col) (fun _ => cw) (by omega) (fun rec => ?_) (fun rec j hj => ?_)
  · simp only [hF0] at this; exact this
  · unfold m_X5_bestMove_11; rw [if_pos (Int32.le_refl _)]
  · unfold m_X5_bestMove_11
    rw [if_neg (nI_ge hj (by omega)), hF]
    have hIj := hI j (by omega)
    generalize F j (pop (fitC z subj col ch k), -2, o) = s at hIj
    obtain ⟨t, ht, hte1⟩ := hte j hj
    have hct : (teach j).toNatClampNeg = t := by rw [hte1, nI_clamp (by omega)]
    refine seq5 (z := n) (fun c => nI (run (gB (fun j c => mvOk r z bars teach col j c) (fun j c => fitC z subj (upd col j (nI c)) ch k) O kept (fitC z subj col ch k) j) c s).1) (fun c => (run (gB (fun j c => mvOk r z bars teach col j c) (fun j c => fitC z subj (upd col j (nI c)) ch k) O kept (fitC z subj col ch k) j) c s).2.1) (fun c => nI c) (fun _ => col) (fun _ => cw) (by omega) (fun rec2 => ?_) (fun rec2 c hc => ?_)
    · unfold m_X5_bestMove_26; rw [if_pos (Int32.le_refl _), lt_t, nI_1]
    · have hIc := inB_ok (O := O) (kept := kept) (now := fitC z subj col ch k) hj hIj (show c ≤ n by omega)
      unfold m_X5_bestMove_26
      rw [run]
      generalize run (gB (fun j c => mvOk r z bars teach col j c) (fun j c => fitC z subj (upd col j (nI c)) ch k) O kept (fitC z subj col ch k) j) c s = q at hIc
      have hv : okMv n (nI c) (nI c) := Or.inr ⟨c, hc, rfl, rfl⟩
      simp only [nI_ge hc (show n < 2 ^ 31 by omega), ↓reduceIte, mayMove_eq hr hz ht (show c < 32 by omega) (show j < 16 by omega) bars col hte1, bk1, lt_t, nI_1, gB, mvOk, hct, moved_eq hn hz hk hj hok hcw hv.cls, bk3, heldX, bitCount_eq, fl_0]
      by_cases h1 : ¬ col j = nI c ∧ obsX r z bars teach col j t c = 0
      · simp only [h1, not_false_eq_true, and_self, ↓reduceIte, e10, decide_true]
        by_cases h2 : fitC z subj col ch k &&& (fitC z subj (upd col j (nI c)) ch k ^^^ (-1)) &&& kept = 0
        · have hle : nI (pop (fitC z subj (upd col j (nI c)) ch k)) ≤ nI q.1 ↔ pop (fitC z subj (upd col j (nI c)) ch k) ≤ q.1 := nI_leI (by have := pop_le (fitC z subj (upd col j (nI c)) ch k); omega) (by have := hIc.1; omega)
          by_cases h3 : q.1 < pop (fitC z subj (upd col j (nI c)) ch k)
          · simp only [h2, h3, decide_true, and_self, ↓reduceIte, Bool.true_eq_false, if_neg (show ¬ nI (pop (fitC z subj (upd col j (nI c)) ch k)) ≤ nI q.1 by rw [hle]; omega)]
          · simp only [h2, h3, decide_true, and_false, ↓reduceIte, Bool.true_eq_false, if_pos (show nI (pop (fitC z subj (upd col j (nI c)) ch k)) ≤ nI q.1 by rw [hle]; omega)]
        · simp only [h2, decide_false, false_and, ↓reduceIte]
      · simp only [h1, ↓reduceIte, decide_false, Bool.false_eq_true]
theorem bestM {n r z k : Nat} (hn : n ≤ 6) (hr : r ≤ 9) (hz : z ≤ 16) (hk : k ≤ 24) {bars mbars subj teach seats col msubj mteach mseats mcol ch mch : Nat → Int32} (hb : ∀ t : Nat, t < 10 → bars t = mbars t) (h : RSec n z subj teach seats col msubj mteach mseats mcol) (hr2 : okRoll k ch mch) (kept bthen : Int32) (o : Nat → Int32) :
    ∃ O o1, m_X6_bestMove (nI n) (nI r) (nI z) (nI k) kept bthen msubj mteach mcol mbars mch o = some ((run (fun j s => run (gB (fun j c => mvOk r z bars teach col j c) (fun j c => fitC z subj (upd col j (nI c)) ch k) O kept (fitC z subj col ch k) j) n s) z (pop (fitC z subj col ch k), -2, o1)).2.1, nI (run (fun j s => run (gB (fun j c => mvOk r z bars teach col j c) (fun j c => fitC z subj (upd col j (nI c)) ch k) O kept (fitC z subj col ch k) j) n s) z (pop (fitC z subj col ch k), -2, o1)).1, mcol, (run (fun j s => run (gB (fun j c => mvOk r z bars teach col j c) (fun j c => fitC z subj (upd col j (nI c)) ch k) O kept (fitC z subj col ch k) j) n s) z (pop (fitC z subj col ch k), -2, o1)).2.2) := by
  refine ⟨fun j c o => loN msubj (upd mcol j (nI c)) (loZ o 10) z, loN msubj mcol (loZ o 10) z, ?_⟩
  unfold m_X6_bestMove
  rw [fitM hn hz hk h hr2, bk2, bits_eq, bk1]
  generalize loN msubj mcol (loZ o 10) z = o1
  generalize hO : (fun (j c : Nat) (o : Nat → Int32) => loN msubj (upd mcol j (nI c)) (loZ o 10) z) = O
  have hOi : ∀ j c o, loN msubj (upd mcol j (nI c)) (loZ o 10) z = O j c o := fun j c o => by rw [← hO]
  generalize hS : run (fun j s => run (gB (fun j c => mvOk r z bars teach col j c) (fun j c => fitC z subj (upd col j (nI c)) ch k) O kept (fitC z subj col ch k) j) n s) = F
  have hF : ∀ j s, F (j + 1) s = run (gB (fun j c => mvOk r z bars teach col j c) (fun j c => fitC z subj (upd col j (nI c)) ch k) O kept (fitC z subj col ch k) j) n (F j s) := fun j s => by rw [← hS, run]
  have hF0 : ∀ s, F 0 s = s := fun s => by rw [← hS, run]
  have hI0 : okB n z (fun j c => mvOk r z bars teach col j c) (fun j c => fitC z subj (upd col j (nI c)) ch k) (pop (fitC z subj col ch k), -2, o1) := ⟨pop_le _, Or.inl rfl⟩
  have hI : ∀ j, j ≤ z → okB n z (fun j c => mvOk r z bars teach col j c) (fun j c => fitC z subj (upd col j (nI c)) ch k) (F j (pop (fitC z subj col ch k), -2, o1)) := fun j hj => by rw [← hS]; exact outB_ok hI0 hj
  have := seq5 (b := m_X6_bestMove_18 (nI n) (nI r) (nI z) (nI k) kept msubj mteach mbars mch (fitC z subj col ch k)) (z := z) (E := some ((F z (pop (fitC z subj col ch k), -2, o1)).2.1, nI (F z (pop (fitC z subj col ch k), -2, o1)).1, mcol, (F z (pop (fitC z subj col ch k), -2, o1)).2.2)) (fun j => (F j (pop (fitC z subj col ch k), -2, o1)).2.1) (fun j => nI j) (fun j => nI (F j (pop (fitC z subj col ch k), -2, o1)).1) (fun _ => mcol) (fun j => (F j (pop (fitC z subj col ch k), -2, o1)).2.2) (by omega) (fun rec => ?_) (fun rec j hj => ?_)
  · simp only [hF0] at this; exact this
  · unfold m_X6_bestMove_18; rw [if_pos (Int32.le_refl _)]
  · unfold m_X6_bestMove_18
    rw [if_neg (nI_ge hj (by omega)), hF]
    have hIj := hI j (by omega)
    generalize F j (pop (fitC z subj col ch k), -2, o1) = s at hIj
    obtain ⟨q1, ⟨a, ha, q2⟩, q3, ⟨t, ht, q4⟩, -⟩ := h j hj
    have hct : (teach j).toNatClampNeg = t := by rw [q3, q4, nI_clamp (by omega)]
    have i17 : inb (nI j) 17 = true := inb_nI (by omega) (by decide)
    have cl : (nI j).toNatClampNeg = j := nI_clamp (by omega)
    refine seq5 (z := n) (fun c => (run (gB (fun j c => mvOk r z bars teach col j c) (fun j c => fitC z subj (upd col j (nI c)) ch k) O kept (fitC z subj col ch k) j) c s).2.1) (fun c => nI c) (fun c => nI (run (gB (fun j c => mvOk r z bars teach col j c) (fun j c => fitC z subj (upd col j (nI c)) ch k) O kept (fitC z subj col ch k) j) c s).1) (fun _ => mcol) (fun c => (run (gB (fun j c => mvOk r z bars teach col j c) (fun j c => fitC z subj (upd col j (nI c)) ch k) O kept (fitC z subj col ch k) j) c s).2.2) (by omega) (fun rec2 => ?_) (fun rec2 c hc => ?_)
    · unfold m_X6_bestMove_29; rw [if_pos (Int32.le_refl _), lt_t, nI_1]
    · have hIc := inB_ok (O := O) (kept := kept) (now := fitC z subj col ch k) hj hIj (show c ≤ n by omega)
      unfold m_X6_bestMove_29
      rw [run]
      generalize run (gB (fun j c => mvOk r z bars teach col j c) (fun j c => fitC z subj (upd col j (nI c)) ch k) O kept (fitC z subj col ch k) j) c s = q at hIc
      have hv : okMv n (nI c) (nI c) := Or.inr ⟨c, hc, rfl, rfl⟩
      have hcI : (col j = nI c) ↔ (mcol j = nI c) := h.colI hj (by omega)
      simp only [nI_ge hc (show n < 2 ^ 31 by omega), ↓reduceIte, i17, cl, gd_tt, isLegal_eq hr (show z ≤ 17 by omega) ht (show c < 32 by omega) (show j < 17 by omega) mbars mteach mcol q4, ← obsX_congr (r := r) (j := j) hb h ht (show c < 2 ^ 31 by omega), ← hcI, bk1, lt_t, nI_1, gB, mvOk, hct, by_eq hn hz hk hj h hr2 hv, hOi, bk3, heldM, bits_eq, fl_0]
      by_cases h0 : col j = nI c
      · simp only [h0, ↓reduceIte, not_true_eq_false, false_and, decide_false, Bool.false_eq_true]
      · by_cases h1 : obsX r z bars teach col j t c = 0
        · simp only [h0, h1, not_false_eq_true, and_self, ↓reduceIte, e10, decide_true]
          by_cases h2 : fitC z subj col ch k &&& (fitC z subj (upd col j (nI c)) ch k ^^^ (-1)) &&& kept = 0
          · have hle : nI q.1 < nI (pop (fitC z subj (upd col j (nI c)) ch k)) ↔ q.1 < pop (fitC z subj (upd col j (nI c)) ch k) := nI_ltI (by have := hIc.1; omega) (by have := pop_le (fitC z subj (upd col j (nI c)) ch k); omega)
            by_cases h3 : q.1 < pop (fitC z subj (upd col j (nI c)) ch k)
            · simp only [h2, h3, decide_true, and_self, ↓reduceIte, Bool.true_eq_false, if_pos (hle.mpr h3)]
            · simp only [h2, h3, decide_true, and_false, ↓reduceIte, Bool.true_eq_false, if_neg (fun e => h3 (hle.mp e))]
          · simp only [h2, decide_false, false_and, ↓reduceIte]
        · simp only [h0, h1, ↓reduceIte, not_false_eq_true, and_false, decide_false, Bool.false_eq_true]
/-- both, together -/
theorem best_rel {n r z k : Nat} (hn : n ≤ 6) (hr : r ≤ 9) (hz : z ≤ 16) (hk : k ≤ 24) {bars mbars subj teach seats col cw msubj mteach mseats mcol ch mch : Nat → Int32} (hb : ∀ t : Nat, t < 10 → bars t = mbars t) (h : RSec n z subj teach seats col msubj mteach mseats mcol) (hcw : RCw z subj col cw) (hr2 : okRoll k ch mch) (kept bthen : Int32) (o : Nat → Int32) :
    ∃ (f : Int32) (m : Nat) (o2 : Nat → Int32), m_X5_bestMove (nI n) (nI r) (nI z) bars subj teach col cw (nI k) kept ch (fitC z subj col ch k) = some (f, col, cw) ∧ m_X6_bestMove (nI n) (nI r) (nI z) (nI k) kept bthen msubj mteach mcol mbars mch o = some (f, nI m, mcol, o2) ∧
      (f = -2 ∨ ∃ j c, j < z ∧ c < n ∧ mvOk r z bars teach col j c = true ∧ f = nI (100 * j + c) ∧ m = pop (fitC z subj (upd col j (nI c)) ch k)) := by
  obtain ⟨O, o1, hM⟩ := bestM hn hr hz hk hb h hr2 kept bthen o
  have hX := bestX hn hr hz hk (ch := ch) h.ok hcw (fun i hi => by obtain ⟨-, -, q3, ⟨t, ht, q4⟩, -⟩ := h i hi; exact ⟨t, ht, q3.trans q4⟩) bars kept O o1
  refine ⟨_, _, _, hX, hM, ?_⟩
  have hI := outB_ok (n := n) (z := z) (ok := fun j c => mvOk r z bars teach col j c) (T := fun j c => fitC z subj (upd col j (nI c)) ch k) (O := O) (kept := kept) (now := fitC z subj col ch k) (s := (pop (fitC z subj col ch k), -2, o1)) ⟨pop_le _, Or.inl rfl⟩ (Nat.le_refl z)
  rcases hI.2 with e | ⟨j, c, hj, hc, h1, h2, h3⟩
  · exact Or.inl e
  · exact Or.inr ⟨j, c, hj, hc, h1, h2, h3⟩
