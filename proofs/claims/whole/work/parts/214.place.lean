/-! sections put elsewhere -/
/-- what the class holds of sections -/
def okSC (n z : Nat) (subj col : Nat → Int32) : Prop := ∀ i : Nat, i < z → (∃ a : Nat, a < 10 ∧ subj i = nI a) ∧ (col i = -1 ∨ ∃ c : Nat, c < n ∧ col i = nI c)
theorem RSec.ok {n z : Nat} {subj teach seats col msubj mteach mseats mcol : Nat → Int32} (h : RSec n z subj teach seats col msubj mteach mseats mcol) : okSC n z subj col := fun i hi => by
  obtain ⟨a, ha, e⟩ := h.sub i hi
  exact ⟨⟨a, ha, by rw [(h i hi).1]; exact e⟩, h.cols i hi⟩
def cwW (z : Nat) (subj col : Nat → Int32) (a : Nat) : Int32 := sjF col (fun i => decide (¬ nI i = -1 ∧ subj i = nI a ∧ ¬ col i = -1)) z
theorem cwW_bit {n z : Nat} (hn : n ≤ 6) (hz : z ≤ 16) {subj col : Nat → Int32} (h : okSC n z subj col) (a : Nat) {c : Nat} (hc : c < 32) : bt (cwW z subj col a) c = true ↔ ∃ i, i < z ∧ subj i = nI a ∧ col i = nI c := by
  unfold cwW
  rw [sjF_bit hc z (fun i hi hp => by
    rcases (h i hi).2 with e | ⟨d, hd, e⟩
    · exact absurd e (of_decide_eq_true hp).2.2
    · exact ⟨d, by omega, e⟩)]
  constructor
  · rintro ⟨i, hi, h1, h2⟩; exact ⟨i, hi, (of_decide_eq_true h1).2.1, h2⟩
  · rintro ⟨i, hi, h1, h2⟩; exact ⟨i, hi, decide_eq_true ⟨nI_nm1 (by omega), h1, by rw [h2]; exact nI_nm1 (by omega)⟩, h2⟩
theorem note_eq {z a : Nat} (hz : z ≤ 16) (ha : a < 10) (subj col cw : Nat → Int32) : m_X0_noteColumnsOf (nI z) subj col cw (nI a) = some (upd cw a (cwW z subj col a)) := by
  unfold m_X0_noteColumnsOf
  rw [columnsWithout_eq hz, bk1, gd_t (inb_nI ha (by decide)), nI_clamp (by omega)]
  rfl
theorem RCw_note {n z a : Nat} (hn : n ≤ 6) (hz : z ≤ 16) {subj col cw : Nat → Int32} (hok : okSC n z subj col) (h : ∀ s : Nat, s < 10 → s ≠ a → ∀ c : Nat, c < 32 → (bt (cw s) c = true ↔ ∃ i : Nat, i < z ∧ subj i = nI s ∧ col i = nI c)) : RCw z subj col (upd cw a (cwW z subj col a)) := by
  intro s hs c hc
  by_cases e : s = a
  · subst e; rw [upd_s]; exact cwW_bit hn hz hok s hc
  · rw [upd_n e]; exact h s hs e c hc
theorem cwW_eq {n z : Nat} (hn : n ≤ 6) (hz : z ≤ 16) {subj col cw : Nat → Int32} (hok : okSC n z subj col) (h : RCw z subj col cw) {a : Nat} (ha : a < 10) : cwW z subj col a = cw a :=
  b_ext (fun c hc => b_iff ((cwW_bit hn hz hok a hc).trans (h a ha c hc).symm))
theorem place_eq {z j a : Nat} (hz : z ≤ 16) (hj : j < 16) (ha : a < 10) {subj : Nat → Int32} (hs : subj j = nI a) (col cw : Nat → Int32) (v : Int32) : m_X0_place (nI z) subj col cw (nI j) v = some (upd col j v, upd cw a (cwW z subj (upd col j v) a)) := by
  have i16 : inb (nI j) 16 = true := inb_nI hj (by decide)
  have cl : (nI j).toNatClampNeg = j := nI_clamp (by omega)
  unfold m_X0_place
  simp only [i16, cl, gd_tt, hs, note_eq hz ha, bk1]
theorem okSC_upd {n z j : Nat} {subj col : Nat → Int32} (h : okSC n z subj col) {v : Int32} (hv : v = -1 ∨ ∃ c : Nat, c < n ∧ v = nI c) : okSC n z subj (upd col j v) := fun i hi => by
  refine ⟨(h i hi).1, ?_⟩
  by_cases e : i = j
  · subst e; rw [upd_s]; exact hv
  · rw [upd_n e]; exact (h i hi).2
theorem RCw_place {n z j a : Nat} (hn : n ≤ 6) (hz : z ≤ 16) (ha : a < 10) {subj col cw : Nat → Int32} (hok : okSC n z subj col) (hs : subj j = nI a) (h : RCw z subj col cw) {v : Int32} (hv : v = -1 ∨ ∃ c : Nat, c < n ∧ v = nI c) :
    RCw z subj (upd col j v) (upd cw a (cwW z subj (upd col j v) a)) := by
  refine RCw_note hn hz (okSC_upd hok hv) (fun s hs' hsa c hc => ?_)
  rw [h s hs' c hc]
  have hne : ∀ i, subj i = nI s → i ≠ j := by
    rintro i h1 rfl
    rw [hs] at h1
    exact hsa (nI_inj (by omega) (by omega) h1).symm
  constructor
  · rintro ⟨i, hi, h1, h2⟩; exact ⟨i, hi, h1, by rw [upd_n (hne i h1)]; exact h2⟩
  · rintro ⟨i, hi, h1, h2⟩; rw [upd_n (hne i h1)] at h2; exact ⟨i, hi, h1, h2⟩
theorem upd_back {f : Nat → Int32} {j : Nat} {v : Int32} : upd (upd f j v) j (f j) = f := by
  funext i
  by_cases e : i = j
  · subst e; rw [upd_s]
  · rw [upd_n e, upd_n e]
theorem upd_back' {f : Nat → Int32} {j : Nat} {v w : Int32} (h : w = f j) : upd (upd f j v) j w = f := by rw [h]; exact upd_back
theorem upd_self {f : Nat → Int32} {j : Nat} : upd f j (f j) = f := by
  funext i
  by_cases e : i = j
  · subst e; rw [upd_s]
  · rw [upd_n e]
/-- what a move may put: the class's word, the reference's word -/
def okMv (n : Nat) (v mv : Int32) : Prop := (v = -1 ∧ mv = -2) ∨ ∃ c : Nat, c < n ∧ v = nI c ∧ mv = nI c
theorem okMv.cls {n : Nat} {v mv : Int32} (h : okMv n v mv) : v = -1 ∨ ∃ c : Nat, c < n ∧ v = nI c := by
  rcases h with ⟨a, _⟩ | ⟨c, hc, a, _⟩
  · exact Or.inl a
  · exact Or.inr ⟨c, hc, a⟩
theorem RSec.mv {n z j : Nat} {subj teach seats col msubj mteach mseats mcol : Nat → Int32} (h : RSec n z subj teach seats col msubj mteach mseats mcol) {v mv : Int32} (hv : okMv n v mv) : RSec n z subj teach seats (upd col j v) msubj mteach mseats (upd mcol j mv) := fun i hi => by
  obtain ⟨q1, q2, q3, q4, q5, q6, q7⟩ := h i hi
  refine ⟨q1, q2, q3, q4, q5, q6, ?_⟩
  by_cases e : i = j
  · subst e; rw [upd_s, upd_s]; exact hv
  · rw [upd_n e, upd_n e]; exact q7
/-! how many are in a column -/
theorem oth_inCol {col : Nat → Int32} {j d : Nat} (hj : j < 2 ^ 31) : ∀ z, z < 2 ^ 31 → inCol col d z = oth col (nI j) (nI d) z + (if j < z ∧ col j = nI d then 1 else 0)
  | 0, _ => by rw [inCol, oth, if_neg (fun e => absurd e.1 (by omega))]
  | z + 1, hz => by
    rw [inCol, oth, oth_inCol hj z (by omega)]
    by_cases e : z = j
    · subst e
      by_cases h : col z = nI d
      · simp [h]
      · simp [h]
    · have hne : ¬ nI z = nI j := fun h => e (nI_inj (by omega) hj h)
      have hlt : (j < z + 1 ∧ col j = nI d) ↔ (j < z ∧ col j = nI d) := by
        constructor
        · rintro ⟨a, b⟩; exact ⟨by omega, b⟩
        · rintro ⟨a, b⟩; exact ⟨by omega, b⟩
      simp only [hlt, hne, not_false_eq_true, true_and]
      omega
theorem oth_congr2 {col mcol : Nat → Int32} {v1 v3 : Int32} : ∀ {z : Nat}, (∀ i, i < z → ¬ nI i = v1 → (col i = v3 ↔ mcol i = v3)) → oth col v1 v3 z = oth mcol v1 v3 z
  | 0, _ => rfl
  | z + 1, h => by
    rw [oth, oth, oth_congr2 (fun i hi => h i (by omega))]
    by_cases e : nI z = v1
    · rw [if_neg (fun q => q.1 e), if_neg (fun q => q.1 e)]
    · have := h z (by omega) e
      simp only [this]
theorem bsy_congr2 {col mcol teach mteach : Nat → Int32} {v1 v2 v3 : Int32} : ∀ {z : Nat}, (∀ i, i < z → ¬ nI i = v1 → (col i = v3 ↔ mcol i = v3) ∧ teach i = mteach i) → bsy col teach v1 v2 v3 z = bsy mcol mteach v1 v2 v3 z
  | 0, _ => rfl
  | z + 1, h => by
    rw [bsy, bsy, bsy_congr2 (fun i hi => h i (by omega))]
    by_cases e : nI z = v1
    · simp only [e, not_true_eq_false, false_and]
    · obtain ⟨a, b⟩ := h z (by omega) e
      simp only [a, b]
theorem inCol_upd {col : Nat → Int32} {j d z : Nat} (hj : j < 2 ^ 31) (hz : z < 2 ^ 31) (v : Int32) : inCol (upd col j v) d z = oth col (nI j) (nI d) z + (if j < z ∧ v = nI d then 1 else 0) := by
  rw [oth_inCol hj z hz, upd_s, oth_congr2 (mcol := col) (fun i hi hne => ?_)]
  rw [upd_n (fun e => hne (by rw [e]))]
theorem inCol_off {col : Nat → Int32} {j d z : Nat} (hj : j < 2 ^ 31) (hz : z < 2 ^ 31) {v : Int32} (hv : ¬ v = nI d) : inCol (upd col j v) d z ≤ inCol col d z := by
  rw [inCol_upd hj hz, if_neg (fun e => hv e.2), oth_inCol hj z hz]; omega
theorem obs_0 {r o : Nat} {b y : Bool} : obs r b o y = 0 ↔ y = false ∧ b = false ∧ o < r := by
  unfold obs
  cases y <;> cases b <;> simp
/-- rooms are enough after a lawful move -/
theorem rooms_mv {n r z j t c : Nat} (hz : z ≤ 16) (hj : j < z) {bars teach col : Nat → Int32} (hroom : ∀ c : Nat, c < n → inCol col c z ≤ r) (hn : n ≤ 6) (hc : c < n) (ho : obsX r z bars teach col j t c = 0) : ∀ d : Nat, d < n → inCol (upd col j (nI c)) d z ≤ r := by
  intro d hd
  by_cases e : c = d
  · subst e
    have := (obs_0.mp ho).2.2
    rw [inCol_upd (by omega) (by omega), if_pos ⟨hj, rfl⟩]; omega
  · exact Nat.le_trans (inCol_off (by omega) (by omega) (fun q => e (nI_inj (by omega) (by omega) q))) (hroom d hd)
theorem rooms_out {n r z j : Nat} (hz : z ≤ 16) (hj : j < z) {col : Nat → Int32} (hroom : ∀ c : Nat, c < n → inCol col c z ≤ r) (hn : n ≤ 6) : ∀ d : Nat, d < n → inCol (upd col j (-1)) d z ≤ r := fun d hd =>
  Nat.le_trans (inCol_off (by omega) (by omega) (fun q => nI_nm1 (by omega) q.symm)) (hroom d hd)
theorem mayMove_eq {r z t c j : Nat} (hr : r ≤ 9) (hz : z ≤ 16) (ht : t < 10) (hc : c < 32) (hj : j < 16) (bars : Nat → Int32) {teach : Nat → Int32} (col : Nat → Int32) (htj : teach j = nI t) :
    m_X0_mayMove (nI r) (nI z) bars teach col (nI j) (nI c) = some (if ¬ col j = nI c ∧ obsX r z bars teach col j t c = 0 then 1 else 0) := by
  have i16 : inb (nI j) 16 = true := inb_nI hj (by decide)
  have cl : (nI j).toNatClampNeg = j := nI_clamp (by omega)
  unfold m_X0_mayMove
  simp only [i16, cl, gd_tt, htj, obstacle_eq hr hz ht hc, bk1]
  unfold obsX
  by_cases h : col j = nI c
  · simp only [h, ↓reduceIte, not_true_eq_false, false_and]
  · by_cases h2 : obs r (bt (bars t) c) (oth col (nI j) (nI c) z) (bsy col teach (nI j) (nI t) (nI c) z) = 0
    · simp only [h, h2, ↓reduceIte, not_false_eq_true, and_self]
    · simp only [h, h2, ↓reduceIte, not_false_eq_true, and_false]
theorem sim_puts : Sim_puts := by
  intro tc told ts tg cc rc sz bars subj teach seats col cw rs rk rch mt row tp tape mc mr mm mbars msubj mteach mseats mcol mp mk mch mth mopen v1 v2 hR
  have hR0 := hR
  obtain ⟨hrow, htext, ⟨rfl, rfl, rfl, n, r, z, ⟨hn1, hn6, rfl⟩, ⟨hr1, hr9, rfl⟩, ⟨hz, rfl⟩, hbars, hsec, hcw, hroom⟩, ⟨rfl, rfl, k, hk, rfl, hch⟩⟩ := hR
  have hz' : z < 2 ^ 31 := by omega
  have hn' : n < 2 ^ 31 := by omega
  unfold m_X5_puts m_X6_puts
  by_cases h : 0 ≤ v1.toInt ∧ v1.toInt < z
  · by_cases h2 : 0 ≤ v2.toInt ∧ v2.toInt < n
    · obtain ⟨j, hj, rfl⟩ := rng_of h hz'
      obtain ⟨c, hc, rfl⟩ := rng_of h2 hn'
      obtain ⟨q1, ⟨a, ha, q2⟩, q3, ⟨t, ht, q4⟩, q5, q6, q7⟩ := hsec j hj
      have i16 : inb (nI j) 16 = true := inb_nI (by omega) (by decide)
      have i17 : inb (nI j) 17 = true := inb_nI (by omega) (by decide)
      have cl : (nI j).toNatClampNeg = j := nI_clamp (by omega)
      have hcI : (col j = nI c) ↔ (mcol j = nI c) := hsec.colI hj (by omega)
      simp only [X0_has_eq hz', X6_isSection_eq hz', X0_hasColumn_eq hn', X6_isColumn_eq hn', h, h2, and_self, bk1, ↓reduceIte, e10, i16, i17, gd_tt, cl, mayMove_eq hr9 hz ht (show c < 32 by omega) (show j < 16 by omega) bars col (q3.trans q4), isLegal_eq hr9 (show z ≤ 17 by omega) ht (show c < 32 by omega) (show j < 17 by omega) mbars mteach mcol q4, ← obsX_congr (r := r) (j := j) hbars hsec ht (show c < 2 ^ 31 by omega), ← hcI, place_eq hz (show j < 16 by omega) ha (q1.trans q2), bk2]
      by_cases h3 : col j = nI c
      · rw [if_pos h3, if_pos h3]
        exact ⟨_, _, _, _, _, _, rfl, rfl, hR0⟩
      · by_cases h4 : obsX r z bars teach col j t c = 0
        · have hv : okMv n (nI c) (nI c) := Or.inr ⟨c, hc, rfl, rfl⟩
          have hsec' := hsec.mv (j := j) hv
          have hcw' := RCw_place hn6 hz ha hsec.ok (q1.trans q2) hcw hv.cls
          obtain ⟨e1, e2⟩ := fit_rel hn6 hz hk hsec' hcw' hch mopen
          simp only [h3, h4, ↓reduceIte, not_false_eq_true, and_self, e10, e1, e2, bk1, bk2, bitCount_eq, bits_eq]
          exact ⟨_, _, _, _, _, _, rfl, rfl, hrow, htext, ⟨rfl, rfl, rfl, n, r, z, ⟨hn1, hn6, rfl⟩, ⟨hr1, hr9, rfl⟩, ⟨hz, rfl⟩, hbars, hsec', hcw', rooms_mv hz hj hroom hn6 hc h4⟩, ⟨rfl, rfl, k, hk, rfl, hch⟩⟩
        · simp only [h3, h4, ↓reduceIte, not_false_eq_true, and_false]
          exact ⟨_, _, _, _, _, _, rfl, rfl, hR0⟩
    · simp only [X0_has_eq hz', X6_isSection_eq hz', X0_hasColumn_eq hn', X6_isColumn_eq hn', h, h2, and_self, bk1, ↓reduceIte, e10]
      exact ⟨_, _, _, _, _, _, rfl, rfl, hR0⟩
  · simp only [X0_has_eq hz', X6_isSection_eq hz', h, bk1, ↓reduceIte]
    exact ⟨_, _, _, _, _, _, rfl, rfl, hR0⟩
theorem sim_takes : Sim_takes := by
  intro tc told ts tg cc rc sz bars subj teach seats col cw rs rk rch mt row tp tape mc mr mm mbars msubj mteach mseats mcol mp mk mch mth mopen v1 hR
  have hR0 := hR
  obtain ⟨hrow, htext, ⟨rfl, rfl, rfl, n, r, z, ⟨hn1, hn6, rfl⟩, ⟨hr1, hr9, rfl⟩, ⟨hz, rfl⟩, hbars, hsec, hcw, hroom⟩, ⟨rfl, rfl, k, hk, rfl, hch⟩⟩ := hR
  have hz' : z < 2 ^ 31 := by omega
  unfold m_X5_takes m_X6_takes
  by_cases h : 0 ≤ v1.toInt ∧ v1.toInt < z
  · obtain ⟨j, hj, rfl⟩ := rng_of h hz'
    obtain ⟨q1, ⟨a, ha, q2⟩, q3, ⟨t, ht, q4⟩, q5, q6, q7⟩ := hsec j hj
    have i16 : inb (nI j) 16 = true := inb_nI (by omega) (by decide)
    have i17 : inb (nI j) 17 = true := inb_nI (by omega) (by decide)
    have cl : (nI j).toNatClampNeg = j := nI_clamp (by omega)
    have hcI : (col j = -1) ↔ (mcol j = -2) := hsec.outI hn6 hj
    simp only [X0_has_eq hz', X6_isSection_eq hz', h, and_self, bk1, ↓reduceIte, e10, i16, i17, gd_tt, cl, ← hcI, place_eq hz (show j < 16 by omega) ha (q1.trans q2), bk2]
    by_cases h3 : col j = -1
    · rw [if_pos h3, if_pos h3]
      exact ⟨_, _, _, _, _, _, rfl, rfl, hR0⟩
    · have hv : okMv n (-1) (-2) := Or.inl ⟨rfl, rfl⟩
      have hsec' := hsec.mv (j := j) hv
      have hcw' := RCw_place hn6 hz ha hsec.ok (q1.trans q2) hcw hv.cls
      obtain ⟨e1, e2⟩ := fit_rel hn6 hz hk hsec' hcw' hch mopen
      simp only [h3, ↓reduceIte, e1, e2, bk1, bk2, bitCount_eq, bits_eq]
      exact ⟨_, _, _, _, _, _, rfl, rfl, hrow, htext, ⟨rfl, rfl, rfl, n, r, z, ⟨hn1, hn6, rfl⟩, ⟨hr1, hr9, rfl⟩, ⟨hz, rfl⟩, hbars, hsec', hcw', rooms_out hz hj hroom hn6⟩, ⟨rfl, rfl, k, hk, rfl, hch⟩⟩
  · simp only [X0_has_eq hz', X6_isSection_eq hz', h, bk1, ↓reduceIte]
    exact ⟨_, _, _, _, _, _, rfl, rfl, hR0⟩
