def curG (z k : Nat) (subj ch : Nat → Int32) (x now kept : Int32) (col : Nat → Int32) : Bool := wy (fun s => cwW z subj col s) (bl x) 0 && decide (now &&& (fitC z subj col ch k ^^^ (-1)) &&& kept = 0)
/-- a move that cures -/
def curP (r z k : Nat) (bars subj teach ch : Nat → Int32) (x now kept : Int32) (col : Nat → Int32) (j c : Nat) : Bool := mvOk r z bars teach col j c && curG z k subj ch x now kept (upd col j (nI c))
theorem last_step {n r z k j c : Nat} (hn : n ≤ 6) (hr : r ≤ 9) (hz : z ≤ 16) (hk : k ≤ 24) (hj : j < z) (hc : c < n) {bars subj teach col cw ch : Nat → Int32} (hok : okSC n z subj col) (hcw : RCw z subj col cw) (hte : ∀ i, i < z → ∃ t : Nat, t < 10 ∧ teach i = nI t) {x now kept H : Int32} {cw0 : Nat → Int32} (hnow : now = fitS cw0 ch k) (hH : ∀ c, c < n → bt H c = wy (fun s => cwW z subj (upd col j (nI c)) s) (bl x) 0)
    (rec2 rec : Int32 → (Nat → Int32) → (Nat → Int32) → Option (Int32 × (Nat → Int32) × (Nat → Int32))) :
    m_X5_lastMove_27 (nI n) (nI r) (nI z) bars subj teach (nI k) ch (now &&& kept) (nI j) H rec2 rec (nI c) col cw = if curP r z k bars subj teach ch x now kept col j c = true then some (nI (100 * j + c), col, cw) else rec (nI (c + 1)) col cw := by
  obtain ⟨⟨a, ha, hs⟩, hcj⟩ := hok j hj
  obtain ⟨t, ht, hte1⟩ := hte j hj
  have hct : (teach j).toNatClampNeg = t := by rw [hte1, nI_clamp (by omega)]
  have i16 : inb (nI j) 16 = true := inb_nI (by omega) (by decide)
  have cl : (nI j).toNatClampNeg = j := nI_clamp (by omega)
  have hv : nI c = -1 ∨ ∃ d : Nat, d < n ∧ nI c = nI d := Or.inr ⟨c, hc, rfl⟩
  have hcw' := RCw_place hn hz ha hok hs hcw hv
  have hfc : fitS (upd cw a (cwW z subj (upd col j (nI c)) a)) ch k = fitC z subj (upd col j (nI c)) ch k := fit_C hn hz (okSC_upd hok hv) hcw'
  have hal : decide (∀ p, p < k → bt (now &&& kept) p = true → wy (upd cw a (cwW z subj (upd col j (nI c)) a)) (bl (ch p)) 0 = true) = decide (now &&& (fitC z subj (upd col j (nI c)) ch k ^^^ (-1)) &&& kept = 0) := by
    refine decide_eq_decide.mpr ?_
    rw [hnow, ← hfc]
    exact held_iff hk
  have e100 : (100 : Int32) * nI j + nI c = nI (100 * j + c) := by rw [show (100 : Int32) = nI 100 from rfl, pk_mul, nI_add]
  unfold m_X5_lastMove_27 curP curG mvOk
  simp only [nI_ge hc (show n < 2 ^ 31 by omega), ↓reduceIte, hasBit_eq (show c < 32 by omega), hH c hc, bk1, mayMove_eq hr hz ht (show c < 32 by omega) (show j < 16 by omega) bars col hte1, i16, gd_tt, cl, lt_t, place_eq hz (show j < 16 by omega) ha hs, bk2, allFit_eq hk, hal, nI_1, hct, fl_0, upd_back, e100]
  rw [upd_back' (cwW_eq hn hz hok hcw ha)]
  cases wy (fun s => cwW z subj (upd col j (nI c)) s) (bl x) 0
  · simp only [Bool.false_eq_true, ↓reduceIte, Bool.false_and, Bool.and_false]
  · by_cases h1 : ¬ col j = nI c ∧ obsX r z bars teach col j t c = 0
    · by_cases h2 : now &&& (fitC z subj (upd col j (nI c)) ch k ^^^ (-1)) &&& kept = 0
      · simp only [h1, h2, not_false_eq_true, and_self, ↓reduceIte, e10, decide_true, Bool.and_self, Bool.true_eq_false]
      · simp only [h1, h2, not_false_eq_true, and_self, ↓reduceIte, e10, decide_true, decide_false, Bool.and_false, Bool.false_eq_true]
    · simp only [h1, ↓reduceIte, e10, decide_false, Bool.false_and, Bool.false_eq_true]
theorem last_none {n r z k : Nat} (hn : n ≤ 6) (hr : r ≤ 9) (hz : z ≤ 16) (hk : k ≤ 24) {bars subj teach col cw ch : Nat → Int32} (hok : okSC n z subj col) (hcw : RCw z subj col cw) (hte : ∀ i, i < z → ∃ t : Nat, t < 10 ∧ teach i = nI t) {x now kept : Int32} {cw0 : Nat → Int32} (hnow : now = fitS cw0 ch k) (h : ∀ j, j < z → ∀ c, c < n → ¬ curP r z k bars subj teach ch x now kept col j c = true) :
    m_X5_lastMove (nI n) (nI r) (nI z) bars subj teach col cw (nI k) ch x (now &&& kept) = some (-2, col, cw) := by
  unfold m_X5_lastMove
  refine seq3 (z := z) (fun j => nI j) (fun _ => col) (fun _ => cw) (by omega) (fun rec => ?_) (fun rec j hj => ?_)
  · unfold m_X5_lastMove_2; rw [if_pos (Int32.le_refl _)]
  · obtain ⟨H, e1, e2⟩ := helpful_eq (b := 0) hn hz hj hok hcw x
    unfold m_X5_lastMove_2
    rw [if_neg (nI_ge hj (by omega)), e1, bk1]
    refine seq3 (z := n) (fun c => nI c) (fun _ => col) (fun _ => cw) (by omega) (fun rec2 => ?_) (fun rec2 c hc => ?_)
    · unfold m_X5_lastMove_27; rw [if_pos (Int32.le_refl _), lt_t, nI_1]
    · rw [last_step hn hr hz hk hj hc hok hcw hte hnow e2, if_neg (h j hj c hc)]
theorem last_some {n r z k j c : Nat} (hn : n ≤ 6) (hr : r ≤ 9) (hz : z ≤ 16) (hk : k ≤ 24) {bars subj teach col cw ch : Nat → Int32} (hok : okSC n z subj col) (hcw : RCw z subj col cw) (hte : ∀ i, i < z → ∃ t : Nat, t < 10 ∧ teach i = nI t) {x now kept : Int32} {cw0 : Nat → Int32} (hnow : now = fitS cw0 ch k) (hj : j < z) (hc : c < n) (hp : curP r z k bars subj teach ch x now kept col j c = true) (hc' : ∀ c', c' < c → ¬ curP r z k bars subj teach ch x now kept col j c' = true) (hj' : ∀ j', j' < j → ∀ c', c' < n → ¬ curP r z k bars subj teach ch x now kept col j' c' = true) :
    m_X5_lastMove (nI n) (nI r) (nI z) bars subj teach col cw (nI k) ch x (now &&& kept) = some (nI (100 * j + c), col, cw) := by
  unfold m_X5_lastMove
  refine seq3 (z := j) (fun j => nI j) (fun _ => col) (fun _ => cw) (by omega) (fun rec => ?_) (fun rec i hi => ?_)
  · obtain ⟨H, e1, e2⟩ := helpful_eq (b := 0) hn hz hj hok hcw x
    unfold m_X5_lastMove_2
    rw [if_neg (nI_ge hj (by omega)), e1, bk1]
    refine seq3 (z := c) (fun c => nI c) (fun _ => col) (fun _ => cw) (by omega) (fun rec2 => ?_) (fun rec2 d hd => ?_)
    · rw [last_step hn hr hz hk hj hc hok hcw hte hnow e2, if_pos hp]
    · rw [last_step hn hr hz hk hj (show d < n by omega) hok hcw hte hnow e2, if_neg (hc' d hd)]
  · obtain ⟨H, e1, e2⟩ := helpful_eq (b := 0) hn hz (show i < z by omega) hok hcw x
    unfold m_X5_lastMove_2
    rw [if_neg (nI_ge (show i < z by omega) (by omega)), e1, bk1]
    refine seq3 (z := n) (fun c => nI c) (fun _ => col) (fun _ => cw) (by omega) (fun rec2 => ?_) (fun rec2 c hc => ?_)
    · unfold m_X5_lastMove_27; rw [if_pos (Int32.le_refl _), lt_t, nI_1]
    · rw [last_step hn hr hz hk (show i < z by omega) hc hok hcw hte hnow e2, if_neg (hj' i hi c hc)]
def anyP (P : Nat → Nat → Bool) (n z : Nat) : Bool := (List.range z).any (fun j => (List.range n).any (fun c => P j c))
theorem anyP_t {P : Nat → Nat → Bool} {n z j c : Nat} (hj : j < z) (hc : c < n) (h : P j c = true) : anyP P n z = true :=
  List.any_eq_true.mpr ⟨j, List.mem_range.mpr hj, List.any_eq_true.mpr ⟨c, List.mem_range.mpr hc, h⟩⟩
theorem anyP_f {P : Nat → Nat → Bool} {n z : Nat} (h : ∀ j, j < z → ∀ c, c < n → ¬ P j c = true) : anyP P n z = false := by
  cases e : anyP P n z
  · rfl
  · obtain ⟨j, hj, h2⟩ := List.any_eq_true.mp e
    obtain ⟨c, hc, h3⟩ := List.any_eq_true.mp h2
    exact absurd h3 (h j (List.mem_range.mp hj) c (List.mem_range.mp hc))
/-- two moves that cure -/
def curQ (n r z k : Nat) (bars subj teach ch : Nat → Int32) (x now kept : Int32) (col : Nat → Int32) (j c : Nat) : Bool := mvOk r z bars teach col j c && anyP (curP r z k bars subj teach ch x now kept (upd col j (nI c))) n z
theorem two_step {n r z k j c : Nat} (hn : n ≤ 6) (hr : r ≤ 9) (hz : z ≤ 16) (hk : k ≤ 24) (hj : j < z) (hc : c < n) {bars subj teach col cw ch : Nat → Int32} (hok : okSC n z subj col) (hcw : RCw z subj col cw) (hte : ∀ i, i < z → ∃ t : Nat, t < 10 ∧ teach i = nI t) {x now kept : Int32} {cw0 : Nat → Int32} (hnow : now = fitS cw0 ch k) (tc : Int32) (told : Nat → Int64)
    (rec2 rec : Int32 → (Nat → Int32) → (Nat → Int32) → Option (Int32 × Int32 × (Nat → Int32) × (Nat → Int32) × (Nat → Int64))) :
    (curQ n r z k bars subj teach ch x now kept col j c = false → m_X5_tellTwoMoves_16 tc (nI n) (nI r) (nI z) bars subj teach (nI k) ch told x (now &&& kept) (nI j) rec2 rec (nI c) col cw = rec (nI (c + 1)) col cw) ∧
    (∀ j2 c2, mvOk r z bars teach col j c = true → j2 < z → c2 < n → curP r z k bars subj teach ch x now kept (upd col j (nI c)) j2 c2 = true → (∀ c', c' < c2 → ¬ curP r z k bars subj teach ch x now kept (upd col j (nI c)) j2 c' = true) → (∀ j', j' < j2 → ∀ c', c' < n → ¬ curP r z k bars subj teach ch x now kept (upd col j (nI c)) j' c' = true) →
      m_X5_tellTwoMoves_16 tc (nI n) (nI r) (nI z) bars subj teach (nI k) ch told x (now &&& kept) (nI j) rec2 rec (nI c) col cw = m_X5_tellTwoMoves_87 tc col cw told (nI j) (nI c) (nI (100 * j2 + c2))) := by
  obtain ⟨⟨a, ha, hs⟩, hcj⟩ := hok j hj
  obtain ⟨t, ht, hte1⟩ := hte j hj
  have hct : (teach j).toNatClampNeg = t := by rw [hte1, nI_clamp (by omega)]
  have i16 : inb (nI j) 16 = true := inb_nI (by omega) (by decide)
  have cl : (nI j).toNatClampNeg = j := nI_clamp (by omega)
  have hv : nI c = -1 ∨ ∃ d : Nat, d < n ∧ nI c = nI d := Or.inr ⟨c, hc, rfl⟩
  have hcw' := RCw_place hn hz ha hok hs hcw hv
  have hok' := okSC_upd (j := j) hok hv
  have hmm := mayMove_eq hr hz ht (show c < 32 by omega) (show j < 16 by omega) bars col hte1
  constructor
  · intro hq
    unfold m_X5_tellTwoMoves_16
    rw [if_neg (nI_ge hc (by omega)), hmm, bk1]
    by_cases h1 : ¬ col j = nI c ∧ obsX r z bars teach col j t c = 0
    · have hmv : mvOk r z bars teach col j c = true := decide_eq_true (by rw [hct]; exact h1)
      have hno : anyP (curP r z k bars subj teach ch x now kept (upd col j (nI c))) n z = false := by
        unfold curQ at hq
        rw [hmv, Bool.true_and] at hq
        exact hq
      have hl := last_none hn hr hz hk (bars := bars) (x := x) (kept := kept) hok' hcw' hte hnow (fun j2 hj2 c2 hc2 hp => by rw [anyP_t hj2 hc2 hp] at hno; cases hno)
      rw [if_pos h1, if_neg (by decide), i16, gd_tt, lt_t, cl, place_eq hz (by omega) ha hs, bk2, hl, bk3, place_eq hz (by omega) ha hs, bk2, if_pos rfl, lt_t, nI_1, upd_back, upd_back' (cwW_eq hn hz hok hcw ha)]
    · rw [if_neg h1, if_pos rfl, lt_t, nI_1]
  · intro j2 c2 hmv hj2 hc2 hp hc' hj'
    have h1 : ¬ col j = nI c ∧ obsX r z bars teach col j t c = 0 := by
      have := of_decide_eq_true hmv
      rw [hct] at this
      exact this
    have hl := last_some hn hr hz hk (bars := bars) (x := x) (kept := kept) hok' hcw' hte hnow hj2 hc2 hp hc' hj'
    unfold m_X5_tellTwoMoves_16
    rw [if_neg (nI_ge hc (by omega)), hmm, bk1, if_pos h1, if_neg (by decide), i16, gd_tt, lt_t, cl, place_eq hz (by omega) ha hs, bk2, hl, bk3, place_eq hz (by omega) ha hs, bk2, if_neg (nI_nm2 (by omega)), upd_back, upd_back' (cwW_eq hn hz hok hcw ha)]
theorem two_none {n r z k : Nat} (hn : n ≤ 6) (hr : r ≤ 9) (hz : z ≤ 16) (hk : k ≤ 24) {bars subj teach col cw ch : Nat → Int32} (hok : okSC n z subj col) (hcw : RCw z subj col cw) (hte : ∀ i, i < z → ∃ t : Nat, t < 10 ∧ teach i = nI t) {x now kept : Int32} {cw0 : Nat → Int32} (hnow : now = fitS cw0 ch k) (tc : Int32) (told : Nat → Int64) (h : ∀ j, j < z → ∀ c, c < n → ¬ curQ n r z k bars subj teach ch x now kept col j c = true) :
    m_X5_tellTwoMoves tc (nI n) (nI r) (nI z) bars subj teach col cw (nI k) ch told x (now &&& kept) = some (0, tc, col, cw, told) := by
  unfold m_X5_tellTwoMoves
  refine seq3 (z := z) (fun j => nI j) (fun _ => col) (fun _ => cw) (by omega) (fun rec => ?_) (fun rec j hj => ?_)
  · unfold m_X5_tellTwoMoves_2; rw [if_pos (Int32.le_refl _)]
  · unfold m_X5_tellTwoMoves_2
    rw [if_neg (nI_ge hj (by omega))]
    refine seq3 (z := n) (fun c => nI c) (fun _ => col) (fun _ => cw) (by omega) (fun rec2 => ?_) (fun rec2 c hc => ?_)
    · unfold m_X5_tellTwoMoves_16; rw [if_pos (Int32.le_refl _), lt_t, nI_1]
    · exact (two_step hn hr hz hk hj hc hok hcw hte hnow tc told _ _).1 (by simpa using h j hj c hc)
theorem two_some {n r z k j c j2 c2 : Nat} (hn : n ≤ 6) (hr : r ≤ 9) (hz : z ≤ 16) (hk : k ≤ 24) {bars subj teach col cw ch : Nat → Int32} (hok : okSC n z subj col) (hcw : RCw z subj col cw) (hte : ∀ i, i < z → ∃ t : Nat, t < 10 ∧ teach i = nI t) {x now kept : Int32} {cw0 : Nat → Int32} (hnow : now = fitS cw0 ch k) (tc : Int32) (told : Nat → Int64) (hj : j < z) (hc : c < n) (hmv : mvOk r z bars teach col j c = true) (hc' : ∀ c', c' < c → ¬ curQ n r z k bars subj teach ch x now kept col j c' = true) (hj' : ∀ j', j' < j → ∀ c', c' < n → ¬ curQ n r z k bars subj teach ch x now kept col j' c' = true)
    (hj2 : j2 < z) (hc2 : c2 < n) (hp : curP r z k bars subj teach ch x now kept (upd col j (nI c)) j2 c2 = true) (hpc : ∀ c', c' < c2 → ¬ curP r z k bars subj teach ch x now kept (upd col j (nI c)) j2 c' = true) (hpj : ∀ j', j' < j2 → ∀ c', c' < n → ¬ curP r z k bars subj teach ch x now kept (upd col j (nI c)) j' c' = true) :
    m_X5_tellTwoMoves tc (nI n) (nI r) (nI z) bars subj teach col cw (nI k) ch told x (now &&& kept) = m_X5_tellTwoMoves_87 tc col cw told (nI j) (nI c) (nI (100 * j2 + c2)) := by
  unfold m_X5_tellTwoMoves
  refine seq3 (z := j) (fun j => nI j) (fun _ => col) (fun _ => cw) (by omega) (fun rec => ?_) (fun rec i hi => ?_)
  · unfold m_X5_tellTwoMoves_2
    rw [if_neg (nI_ge hj (by omega))]
    refine seq3 (z := c) (fun c => nI c) (fun _ => col) (fun _ => cw) (by omega) (fun rec2 => ?_) (fun rec2 d hd => ?_)
    · exact (two_step hn hr hz hk hj hc hok hcw hte hnow tc told _ _).2 j2 c2 hmv hj2 hc2 hp hpc hpj
    · exact (two_step hn hr hz hk hj (show d < n by omega) hok hcw hte hnow tc told _ _).1 (by simpa using hc' d hd)
  · unfold m_X5_tellTwoMoves_2
    rw [if_neg (nI_ge (show i < z by omega) (by omega))]
    refine seq3 (z := n) (fun c => nI c) (fun _ => col) (fun _ => cw) (by omega) (fun rec2 => ?_) (fun rec2 c hc => ?_)
    · unfold m_X5_tellTwoMoves_16; rw [if_pos (Int32.le_refl _), lt_t, nI_1]
    · exact (two_step hn hr hz hk (show i < z by omega) hc hok hcw hte hnow tc told _ _).1 (by simpa using hj' i hi c hc)
/-! the reference -/
theorem find4' {R : Type} {b : (Int32 → (Nat → Int32) → (Nat → Int32) → (Nat → Int32) → Option R) → Int32 → (Nat → Int32) → (Nat → Int32) → (Nat → Int32) → Option R} {m : Nat → Int32} {I : (Nat → Int32) → (Nat → Int32) → Prop} {Q : Option R → Prop} {z : Nat}
    (hexit : ∀ rec o cu, I o cu → Q (b rec (nI z) m o cu)) (hstep : ∀ rec i, i < z → ∀ o cu, I o cu → ∃ o' cu', I o' cu' ∧ b rec (nI i) m o cu = rec (nI (i + 1)) m o' cu') :
    ∀ (d i fuel : Nat) (o cu : Nat → Int32), i + d = z → d < fuel → I o cu → Q (it4 b fuel (nI i) m o cu)
  | 0, i, fuel + 1, o, cu, h, _, hI => by
    have : i = z := by omega
    subst this
    exact hexit _ o cu hI
  | d + 1, i, fuel + 1, o, cu, h, hf, hI => by
    show Q (b (it4 b fuel) (nI i) m o cu)
    obtain ⟨o', cu', h1, h2⟩ := hstep (it4 b fuel) i (by omega) o cu hI
    rw [h2]
    exact find4' hexit hstep d (i + 1) fuel o' cu' (by omega) (by omega) h1
theorem find4 {R : Type} {b : (Int32 → (Nat → Int32) → (Nat → Int32) → (Nat → Int32) → Option R) → Int32 → (Nat → Int32) → (Nat → Int32) → (Nat → Int32) → Option R} {m : Nat → Int32} {I : (Nat → Int32) → (Nat → Int32) → Prop} {Q : Option R → Prop} {z : Nat} (hz : z < 1100)
    (hexit : ∀ rec o cu, I o cu → Q (b rec (nI z) m o cu)) (hstep : ∀ rec i, i < z → ∀ o cu, I o cu → ∃ o' cu', I o' cu' ∧ b rec (nI i) m o cu = rec (nI (i + 1)) m o' cu') (o cu : Nat → Int32) (hI : I o cu) : Q (it4 b 1100 0 m o cu) :=
  find4' hexit hstep z 0 1100 o cu (by omega) hz hI
/-- one step of the reference's search at depth kk -/
theorem by_step {n r z k kk j c : Nat} (hn : n ≤ 6) (hr : r ≤ 9) (hz : z ≤ 16) (hkk : kk < 2) (hj : j < z) (hc : c < n) {bars mbars subj teach seats col msubj mteach mseats mcol mch : Nat → Int32} (hb : ∀ t : Nat, t < 10 → bars t = mbars t) (h : RSec n z subj teach seats col msubj mteach mseats mcol) (kept v1 v2 v4 : Int32) {G : Nat → Nat → Bool} {H : Nat → Nat → (Nat → Int32) → Prop}
    {self : Int32 → Int32 → Int32 → Int32 → Int32 → (Nat → Int32) → (Nat → Int32) → (Nat → Int32) → (Nat → Int32) → (Nat → Int32) → (Nat → Int32) → (Nat → Int32) → Int32 → Int32 → Int32 → Int32 → Option (Int32 × (Nat → Int32) × (Nat → Int32) × (Nat → Int32))}
    (hself : ∀ j c, j < z → c < n → ∀ o cu, ∃ o' cu', self (nI n) (nI r) (nI z) (nI k) kept msubj mteach (upd mcol j (nI c)) mbars mch o cu v1 v2 (nI (kk + 1)) v4 = some (fl (G j c), upd mcol j (nI c), o', cu') ∧ (∀ i, i ≤ kk → cu' i = cu i) ∧ (G j c = true → H j c cu'))
    (rec40 rec : Int32 → (Nat → Int32) → (Nat → Int32) → (Nat → Int32) → Option (Int32 × (Nat → Int32) × (Nat → Int32) × (Nat → Int32))) (o cu : Nat → Int32) :
    ((mvOk r z bars teach col j c && G j c) = false → ∃ o' cu', (∀ i, i < kk → cu' i = cu i) ∧ m_X6_curesBy_61 (nI n) (nI r) (nI z) (nI k) kept msubj mteach mbars mch v1 v2 (nI kk) v4 (nI j) (mcol j) self rec40 rec (nI c) mcol o cu = rec (nI (c + 1)) mcol o' cu') ∧
    ((mvOk r z bars teach col j c && G j c) = true → ∃ o' cu', (∀ i, i < kk → cu' i = cu i) ∧ cu' kk = nI (100 * j + c) ∧ H j c cu' ∧ m_X6_curesBy_61 (nI n) (nI r) (nI z) (nI k) kept msubj mteach mbars mch v1 v2 (nI kk) v4 (nI j) (mcol j) self rec40 rec (nI c) mcol o cu = some (1, mcol, o', cu')) := by
  obtain ⟨q1, q2, q3, ⟨t, ht, q4⟩, -⟩ := h j hj
  have hct : (teach j).toNatClampNeg = t := by rw [q3, q4, nI_clamp (by omega)]
  have i17 : inb (nI j) 17 = true := inb_nI (by omega) (by decide)
  have ik : inb (nI kk) 2 = true := inb_nI (by omega) (by decide)
  have cl : (nI j).toNatClampNeg = j := nI_clamp (by omega)
  have ck : (nI kk).toNatClampNeg = kk := nI_clamp (by omega)
  have hcI : (col j = nI c) ↔ (mcol j = nI c) := h.colI hj (by omega)
  have e100 : (100 : Int32) * nI j + nI c = nI (100 * j + c) := by rw [show (100 : Int32) = nI 100 from rfl, pk_mul, nI_add]
  obtain ⟨o', cu', s1, s2, s3⟩ := hself j c hj hc o (upd cu kk (nI (100 * j + c)))
  have hkeep : ∀ i, i < kk → cu' i = cu i := fun i hi => by rw [s2 i (by omega), upd_n (by omega)]
  have hbody : m_X6_curesBy_61 (nI n) (nI r) (nI z) (nI k) kept msubj mteach mbars mch v1 v2 (nI kk) v4 (nI j) (mcol j) self rec40 rec (nI c) mcol o cu =
      if mvOk r z bars teach col j c = true then (if G j c = true then some (1, mcol, o', cu') else rec (nI (c + 1)) mcol o' cu') else rec (nI (c + 1)) mcol o cu := by
    unfold m_X6_curesBy_61 mvOk
    simp only [nI_ge hc (show n < 2 ^ 31 by omega), ↓reduceIte, i17, ik, cl, ck, gd_tt, lt_t, upd_self, isLegal_eq hr (show z ≤ 17 by omega) ht (show c < 32 by omega) (show j < 17 by omega) mbars mteach mcol q4, ← obsX_congr (r := r) (j := j) hb h ht (show c < 2 ^ 31 by omega), ← hcI, bk1, nI_1, hct, e100, s1, bk4, upd_back, fl_0]
    by_cases h0 : col j = nI c
    · simp only [h0, ↓reduceIte, not_true_eq_false, false_and, decide_false, Bool.false_eq_true]
    · by_cases h1 : obsX r z bars teach col j t c = 0
      · simp only [h0, h1, ↓reduceIte, not_false_eq_true, and_self, decide_true, e10]
        cases G j c
        · simp only [↓reduceIte, Bool.false_eq_true]
        · simp only [↓reduceIte, Bool.true_eq_false]
      · simp only [h0, h1, ↓reduceIte, not_false_eq_true, and_false, decide_false, Bool.false_eq_true]
  constructor
  · intro hf
    rw [hbody]
    cases e1 : mvOk r z bars teach col j c
    · exact ⟨o, cu, fun i hi => rfl, by simp only [Bool.false_eq_true, ↓reduceIte]⟩
    · rw [e1, Bool.true_and] at hf
      exact ⟨o', cu', hkeep, by simp only [hf, Bool.false_eq_true, ↓reduceIte]⟩
  · intro ht'
    rw [Bool.and_eq_true] at ht'
    rw [hbody, if_pos ht'.1, if_pos ht'.2]
    exact ⟨o', cu', hkeep, by rw [s2 kk (Nat.le_refl _), upd_s], s3 ht'.2, rfl⟩
theorem by_none {n r z k kk : Nat} (hn : n ≤ 6) (hr : r ≤ 9) (hz : z ≤ 16) (hkk : kk < 2) {bars mbars subj teach seats col msubj mteach mseats mcol mch : Nat → Int32} (hb : ∀ t : Nat, t < 10 → bars t = mbars t) (h : RSec n z subj teach seats col msubj mteach mseats mcol) (kept v1 v2 v4 : Int32) {G : Nat → Nat → Bool} {H : Nat → Nat → (Nat → Int32) → Prop}
    {self : Int32 → Int32 → Int32 → Int32 → Int32 → (Nat → Int32) → (Nat → Int32) → (Nat → Int32) → (Nat → Int32) → (Nat → Int32) → (Nat → Int32) → (Nat → Int32) → Int32 → Int32 → Int32 → Int32 → Option (Int32 × (Nat → Int32) × (Nat → Int32) × (Nat → Int32))}
    (hself : ∀ j c, j < z → c < n → ∀ o cu, ∃ o' cu', self (nI n) (nI r) (nI z) (nI k) kept msubj mteach (upd mcol j (nI c)) mbars mch o cu v1 v2 (nI (kk + 1)) v4 = some (fl (G j c), upd mcol j (nI c), o', cu') ∧ (∀ i, i ≤ kk → cu' i = cu i) ∧ (G j c = true → H j c cu'))
    (o cu : Nat → Int32) (hno : ∀ j, j < z → ∀ c, c < n → ¬ (mvOk r z bars teach col j c && G j c) = true) :
    ∃ o' cu' : Nat → Int32, (∀ i, i < kk → cu' i = cu i) ∧ it4 (m_X6_curesBy_40 (nI n) (nI r) (nI z) (nI k) kept msubj mteach mbars mch v1 v2 (nI kk) v4 self) 1100 0 mcol o cu = some (0, mcol, o', cu') := by
  refine find4 (b := m_X6_curesBy_40 (nI n) (nI r) (nI z) (nI k) kept msubj mteach mbars mch v1 v2 (nI kk) v4 self) (m := mcol) (I := fun _ cu' => ∀ i, i < kk → cu' i = cu i) (Q := fun X => ∃ o' cu' : Nat → Int32, (∀ i, i < kk → cu' i = cu i) ∧ X = some (0, mcol, o', cu')) (z := z) (by omega) (fun rec o1 cu1 hI => ?_) (fun rec j hj o1 cu1 hI => ?_) o cu (fun i hi => rfl)
  · unfold m_X6_curesBy_40
    exact ⟨o1, cu1, hI, by rw [if_pos (Int32.le_refl _)]⟩
  · have i17 : inb (nI j) 17 = true := inb_nI (by omega) (by decide)
    have cl : (nI j).toNatClampNeg = j := nI_clamp (by omega)
    unfold m_X6_curesBy_40
    rw [if_neg (nI_ge hj (by omega)), i17, gd_tt, lt_t, cl]
    refine find4 (b := m_X6_curesBy_61 (nI n) (nI r) (nI z) (nI k) kept msubj mteach mbars mch v1 v2 (nI kk) v4 (nI j) (mcol j) self rec) (m := mcol) (I := fun _ cu' => ∀ i, i < kk → cu' i = cu i) (Q := fun X => ∃ o' cu' : Nat → Int32, (∀ i, i < kk → cu' i = cu i) ∧ X = rec (nI (j + 1)) mcol o' cu') (z := n) (by omega) (fun rec2 o2 cu2 hI2 => ?_) (fun rec2 c hc o2 cu2 hI2 => ?_) o1 cu1 hI
    · unfold m_X6_curesBy_61
      exact ⟨o2, cu2, hI2, by rw [if_pos (Int32.le_refl _), lt_t, nI_1]⟩
    · obtain ⟨o', cu', g1, g2⟩ := (by_step hn hr hz hkk hj hc hb h kept v1 v2 v4 hself rec rec2 o2 cu2).1 (by simpa using hno j hj c hc)
      exact ⟨o', cu', fun i hi => by rw [g1 i hi, hI2 i hi], g2⟩
theorem by_some {n r z k kk j c : Nat} (hn : n ≤ 6) (hr : r ≤ 9) (hz : z ≤ 16) (hkk : kk < 2) {bars mbars subj teach seats col msubj mteach mseats mcol mch : Nat → Int32} (hb : ∀ t : Nat, t < 10 → bars t = mbars t) (h : RSec n z subj teach seats col msubj mteach mseats mcol) (kept v1 v2 v4 : Int32) {G : Nat → Nat → Bool} {H : Nat → Nat → (Nat → Int32) → Prop}
    {self : Int32 → Int32 → Int32 → Int32 → Int32 → (Nat → Int32) → (Nat → Int32) → (Nat → Int32) → (Nat → Int32) → (Nat → Int32) → (Nat → Int32) → (Nat → Int32) → Int32 → Int32 → Int32 → Int32 → Option (Int32 × (Nat → Int32) × (Nat → Int32) × (Nat → Int32))}
    (hself : ∀ j c, j < z → c < n → ∀ o cu, ∃ o' cu', self (nI n) (nI r) (nI z) (nI k) kept msubj mteach (upd mcol j (nI c)) mbars mch o cu v1 v2 (nI (kk + 1)) v4 = some (fl (G j c), upd mcol j (nI c), o', cu') ∧ (∀ i, i ≤ kk → cu' i = cu i) ∧ (G j c = true → H j c cu'))
    (o cu : Nat → Int32) (hj : j < z) (hc : c < n) (hp : (mvOk r z bars teach col j c && G j c) = true) (hpc : ∀ c', c' < c → ¬ (mvOk r z bars teach col j c' && G j c') = true) (hpj : ∀ j', j' < j → ∀ c', c' < n → ¬ (mvOk r z bars teach col j' c' && G j' c') = true) :
    ∃ o' cu' : Nat → Int32, (∀ i, i < kk → cu' i = cu i) ∧ cu' kk = nI (100 * j + c) ∧ H j c cu' ∧ it4 (m_X6_curesBy_40 (nI n) (nI r) (nI z) (nI k) kept msubj mteach mbars mch v1 v2 (nI kk) v4 self) 1100 0 mcol o cu = some (1, mcol, o', cu') := by
  refine find4 (b := m_X6_curesBy_40 (nI n) (nI r) (nI z) (nI k) kept msubj mteach mbars mch v1 v2 (nI kk) v4 self) (m := mcol) (I := fun _ cu' => ∀ i, i < kk → cu' i = cu i) (Q := fun X => ∃ o' cu' : Nat → Int32, (∀ i, i < kk → cu' i = cu i) ∧ cu' kk = nI (100 * j + c) ∧ H j c cu' ∧ X = some (1, mcol, o', cu')) (z := j) (by omega) (fun rec o1 cu1 hI => ?_) (fun rec i hi o1 cu1 hI => ?_) o cu (fun i hi => rfl)
  · have i17 : inb (nI j) 17 = true := inb_nI (by omega) (by decide)
    have cl : (nI j).toNatClampNeg = j := nI_clamp (by omega)
    unfold m_X6_curesBy_40
    rw [if_neg (nI_ge hj (by omega)), i17, gd_tt, lt_t, cl]
    refine find4 (b := m_X6_curesBy_61 (nI n) (nI r) (nI z) (nI k) kept msubj mteach mbars mch v1 v2 (nI kk) v4 (nI j) (mcol j) self rec) (m := mcol) (I := fun _ cu' => ∀ i, i < kk → cu' i = cu i) (Q := fun X => ∃ o' cu' : Nat → Int32, (∀ i, i < kk → cu' i = cu i) ∧ cu' kk = nI (100 * j + c) ∧ H j c cu' ∧ X = some (1, mcol, o', cu')) (z := c) (by omega) (fun rec2 o2 cu2 hI2 => ?_) (fun rec2 d hd o2 cu2 hI2 => ?_) o1 cu1 hI
    · obtain ⟨o', cu', g1, g2, g3, g4⟩ := (by_step hn hr hz hkk hj hc hb h kept v1 v2 v4 hself rec rec2 o2 cu2).2 hp
      exact ⟨o', cu', fun i hi => by rw [g1 i hi, hI2 i hi], g2, g3, g4⟩
    · obtain ⟨o', cu', g1, g2⟩ := (by_step hn hr hz hkk hj (show d < n by omega) hb h kept v1 v2 v4 hself rec rec2 o2 cu2).1 (by simpa using hpc d hd)
      exact ⟨o', cu', fun i hi => by rw [g1 i hi, hI2 i hi], g2⟩
  · have i17 : inb (nI i) 17 = true := inb_nI (by omega) (by decide)
    have cl : (nI i).toNatClampNeg = i := nI_clamp (by omega)
    unfold m_X6_curesBy_40
    rw [if_neg (nI_ge (show i < z by omega) (by omega)), i17, gd_tt, lt_t, cl]
    refine find4 (b := m_X6_curesBy_61 (nI n) (nI r) (nI z) (nI k) kept msubj mteach mbars mch v1 v2 (nI kk) v4 (nI i) (mcol i) self rec) (m := mcol) (I := fun _ cu' => ∀ i, i < kk → cu' i = cu i) (Q := fun X => ∃ o' cu' : Nat → Int32, (∀ i, i < kk → cu' i = cu i) ∧ X = rec (nI (i + 1)) mcol o' cu') (z := n) (by omega) (fun rec2 o2 cu2 hI2 => ?_) (fun rec2 d hd o2 cu2 hI2 => ?_) o1 cu1 hI
    · unfold m_X6_curesBy_61
      exact ⟨o2, cu2, hI2, by rw [if_pos (Int32.le_refl _), lt_t, nI_1]⟩
    · obtain ⟨o', cu', g1, g2⟩ := (by_step hn hr hz hkk (show i < z by omega) hd hb h kept v1 v2 v4 hself rec rec2 o2 cu2).1 (by simpa using hpj i hi d hd)
      exact ⟨o', cu', fun i hi => by rw [g1 i hi, hI2 i hi], g2⟩
