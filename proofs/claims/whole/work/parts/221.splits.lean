/-! the best of some columns -/
def gL (ok : Nat → Bool) (P : Nat → Nat) (c : Nat) (s : Nat × Option Nat) : Nat × Option Nat := if ok c = true ∧ s.1 < P c + 1 then (P c + 1, some c) else s
def mostW (q : Nat) : Int32 := if q = 0 then -1 else nI (q - 1)
def fndW (d : Int32) (f : Option Nat) : Int32 := match f with
  | none => d
  | some c => nI c
theorem m1_lt (p : Nat) (hp : p < 2 ^ 31) : (-1 : Int32) < nI p := by
  rw [Int32.lt_iff_toInt_lt, nI_toInt hp, show (-1 : Int32).toInt = -1 from rfl]; omega
theorem mw_le {p q : Nat} (hp : p < 2 ^ 30) (hq : q < 2 ^ 30) : nI p ≤ mostW q ↔ p + 1 ≤ q := by
  unfold mostW
  by_cases e : q = 0
  · rw [if_pos e, Int32.le_iff_toInt_le, nI_toInt (by omega), show (-1 : Int32).toInt = -1 from rfl]; omega
  · rw [if_neg e, nI_leI (by omega) (by omega)]; omega
theorem mw_lt {p q : Nat} (hp : p < 2 ^ 30) (hq : q < 2 ^ 30) : mostW q < nI p ↔ q < p + 1 := by
  unfold mostW
  by_cases e : q = 0
  · rw [if_pos e]; exact ⟨fun _ => by omega, fun _ => m1_lt p (by omega)⟩
  · rw [if_neg e, nI_ltI (by omega) (by omega)]; omega
theorem mw_m1 {q : Nat} (hq : q < 2 ^ 30) : ¬ mostW q < -1 := by
  unfold mostW
  by_cases e : q = 0
  · rw [if_pos e]; decide
  · rw [if_neg e, Int32.lt_iff_toInt_lt, nI_toInt (by omega), show (-1 : Int32).toInt = -1 from rfl]; omega
theorem mw_s (p : Nat) : mostW (p + 1) = nI p := by unfold mostW; rw [if_neg (by omega)]; rfl
def okL (n : Nat) (ok : Nat → Bool) (P : Nat → Nat) (s : Nat × Option Nat) : Prop := s.1 ≤ 33 ∧ (s.2 = none ∨ ∃ c, c < n ∧ ok c = true ∧ s = (P c + 1, some c))
theorem gL_ok {n : Nat} {ok : Nat → Bool} {P : Nat → Nat} (hP : ∀ c, P c ≤ 32) {s : Nat × Option Nat} (h : okL n ok P s) {c : Nat} (hc : c ≤ n) : okL n ok P (run (gL ok P) c s) := by
  refine run_inv (fun i s hi hs => ?_) h
  unfold gL
  split
  · rename_i h1
    exact ⟨by have := hP i; show P i + 1 ≤ 33; omega, Or.inr ⟨i, by omega, h1.1, rfl⟩⟩
  · exact hs
theorem okL_0 {n : Nat} {ok : Nat → Bool} {P : Nat → Nat} : okL n ok P (0, none) := ⟨by decide, Or.inl rfl⟩
def opL (ok : Nat → Bool) (O : Nat → (Nat → Int32) → (Nat → Int32)) (o : Nat → Int32) : Nat → (Nat → Int32)
  | 0 => o
  | c + 1 => if ok c = true then O c (opL ok O o c) else opL ok O o c
/-! splits -/
theorem oth_chg {col mcol : Nat → Int32} {v1 w1 v3 : Int32} : ∀ {z : Nat}, (∀ i, i < z → ¬ nI i = v1 ∧ ¬ nI i = w1 ∧ (col i = v3 ↔ mcol i = v3)) → oth col v1 v3 z = oth mcol w1 v3 z
  | 0, _ => rfl
  | z + 1, h => by
    obtain ⟨h1, h2, h3⟩ := h z (by omega)
    rw [oth, oth, oth_chg (fun i hi => h i (by omega))]
    simp only [h1, h2, h3]
theorem bsy_chg {col mcol teach mteach : Nat → Int32} {v1 w1 v2 v3 : Int32} : ∀ {z : Nat}, (∀ i, i < z → ¬ nI i = v1 ∧ ¬ nI i = w1 ∧ (col i = v3 ↔ mcol i = v3) ∧ teach i = mteach i) → bsy col teach v1 v2 v3 z = bsy mcol mteach w1 v2 v3 z
  | 0, _ => rfl
  | z + 1, h => by
    obtain ⟨h1, h2, h3, h4⟩ := h z (by omega)
    rw [bsy, bsy, bsy_chg (fun i hi => h i (by omega))]
    simp only [h1, h2, h3, h4]
theorem RSec.at_z {n z : Nat} {subj teach seats col msubj mteach mseats mcol : Nat → Int32} (h : RSec n z subj teach seats col msubj mteach mseats mcol) (x y w : Int32) : RSec n z subj teach seats col (upd msubj z x) (upd mteach z y) mseats (upd mcol z w) := fun i hi => by
  have e : i ≠ z := by omega
  rw [upd_n e, upd_n e, upd_n e]
  exact h i hi
theorem split_obs {n r z t c : Nat} (hz : z ≤ 16) (ht : t < 10) (hc : c < 6) {bars mbars subj teach seats col msubj mteach mseats mcol : Nat → Int32} (hb : ∀ t : Nat, t < 10 → bars t = mbars t) (h : RSec n z subj teach seats col msubj mteach mseats mcol) :
    obsX r (z + 1) mbars (upd mteach z (nI t)) (upd mcol z (-2)) z t c = obs r (bt (bars t) c) (oth col (-1) (nI c) z) (bsy col teach (-1) (nI t) (nI c) z) := by
  unfold obsX
  have key : ∀ i, i < z → ¬ nI i = -1 ∧ ¬ nI i = nI z ∧ (col i = nI c ↔ upd mcol z (-2) i = nI c) ∧ teach i = upd mteach z (nI t) i := fun i hi => by
    have e : i ≠ z := by omega
    refine ⟨nI_nm1 (by omega), fun q => e (nI_inj (by omega) (by omega) q), ?_, ?_⟩
    · rw [upd_n e]; exact h.colI hi (by omega)
    · rw [upd_n e]; exact (h i hi).2.2.1
  have e1 : oth (upd mcol z (-2)) (nI z) (nI c) (z + 1) = oth col (-1) (nI c) z := by
    rw [oth, if_neg (fun q => q.1 rfl), Nat.add_zero]
    exact (oth_chg (fun i hi => ⟨(key i hi).1, (key i hi).2.1, (key i hi).2.2.1⟩)).symm
  have e2 : bsy (upd mcol z (-2)) (upd mteach z (nI t)) (nI z) (nI t) (nI c) (z + 1) = bsy col teach (-1) (nI t) (nI c) z := by
    rw [bsy, decide_eq_false (fun q => q.1 rfl), Bool.or_false]
    exact (bsy_chg key).symm
  rw [e1, e2, hb t ht]
theorem split_by {n z k a c : Nat} (hn : n ≤ 6) (hz : z ≤ 16) (hk : k ≤ 24) (ha : a < 10) (hc : c < n) {subj teach seats col cw msubj mteach mseats mcol ch mch : Nat → Int32} (h : RSec n z subj teach seats col msubj mteach mseats mcol) (hcw : RCw z subj col cw) (hr : okRoll k ch mch) (o : Nat → Int32) :
    m_X6_fittingBy (nI (z + 1)) (nI k) (upd msubj z (nI a)) (upd mcol z (-2)) mch o (nI z) (nI c) = some (fitS (upd cw a (cw a ||| ((1 : Int32) <<< (nI c &&& 31)))) ch k, upd mcol z (-2), loN (upd msubj z (nI a)) (upd (upd mcol z (-2)) z (nI c)) (loZ o 10) (z + 1)) := by
  have i17 : inb (nI z) 17 = true := inb_nI (by omega) (by decide)
  have cl : (nI z).toNatClampNeg = z := nI_clamp (by omega)
  have hs : ∀ i, i < z + 1 → ∃ b : Nat, b < 10 ∧ upd msubj z (nI a) i = nI b := fun i hi => by
    by_cases e : i = z
    · subst e; exact ⟨a, ha, upd_s⟩
    · rw [upd_n e]; exact h.sub i (by omega)
  have hcc : ∀ i, i < z + 1 → upd (upd mcol z (-2)) z (nI c) i = -2 ∨ ∃ d : Nat, d < n ∧ upd (upd mcol z (-2)) z (nI c) i = nI d := fun i hi => by
    by_cases e : i = z
    · subst e; exact Or.inr ⟨c, hc, upd_s⟩
    · rw [upd_n e, upd_n e]; exact h.mcols i (by omega)
  unfold m_X6_fittingBy
  simp only [i17, cl, gd_tt, lt_t, fittingM_eq (show z + 1 ≤ 17 by omega) hn hk hs hcc hr, bk2, upd_back]
  have e : ∀ s, s < 10 → upd cw a (cw a ||| ((1 : Int32) <<< (nI c &&& 31))) s = loN (upd msubj z (nI a)) (upd (upd mcol z (-2)) z (nI c)) (loZ o 10) (z + 1) s := by
    intro s hs'
    refine b_ext (fun d hd => b_iff ?_)
    rw [loN_bit hn hs hcc o (z + 1) (Nat.le_refl _) s hs' d hd]
    have old : bt (cw s) d = true ↔ ∃ i, i < z ∧ msubj i = nI s ∧ mcol i = nI d := by
      rw [hcw s hs' d hd]
      constructor
      · rintro ⟨i, hi, h1, h2⟩; exact ⟨i, hi, by rw [← (h i hi).1]; exact h1, (h.colI hi (by omega)).mp h2⟩
      · rintro ⟨i, hi, h1, h2⟩; exact ⟨i, hi, by rw [(h i hi).1]; exact h1, (h.colI hi (by omega)).mpr h2⟩
    by_cases es : s = a
    · subst es
      rw [upd_s, b_or, Bool.or_eq_true, p_bit (by omega) hd, old]
      constructor
      · rintro (⟨i, hi, h1, h2⟩ | h1)
        · have e : i ≠ z := by omega
          exact ⟨i, by omega, by rw [upd_n e]; exact h1, by rw [upd_n e, upd_n e]; exact h2⟩
        · have : d = c := of_decide_eq_true h1
          subst this
          exact ⟨z, by omega, upd_s, upd_s⟩
      · rintro ⟨i, hi, h1, h2⟩
        by_cases e : i = z
        · subst e
          rw [upd_s] at h2
          exact Or.inr (decide_eq_true (nI_inj (by omega) (by omega) h2).symm)
        · rw [upd_n e] at h1 h2
          rw [upd_n e] at h2
          exact Or.inl ⟨i, by omega, h1, h2⟩
    · rw [upd_n es, old]
      constructor
      · rintro ⟨i, hi, h1, h2⟩
        have e : i ≠ z := by omega
        exact ⟨i, by omega, by rw [upd_n e]; exact h1, by rw [upd_n e, upd_n e]; exact h2⟩
      · rintro ⟨i, hi, h1, h2⟩
        by_cases e : i = z
        · subst e
          rw [upd_s] at h1
          exact absurd (nI_inj (by omega) (by omega) h1).symm es
        · rw [upd_n e] at h1 h2
          rw [upd_n e] at h2
          exact ⟨i, by omega, h1, h2⟩
  rw [← fitS_congr e hr]
def cwSp (cw : Nat → Int32) (ok : Nat → Bool) (a : Nat) : Nat → (Nat → Int32)
  | 0 => cw
  | c + 1 => if ok c = true then upd (cwSp cw ok a c) a (cw a ||| ((1 : Int32) <<< (nI c &&& 31))) else cwSp cw ok a c
theorem upd_upd {f : Nat → Int32} {a : Nat} {x y : Int32} : upd (upd f a x) a y = upd f a y := by
  funext i
  by_cases e : i = a
  · subst e; rw [upd_s, upd_s]
  · rw [upd_n e, upd_n e, upd_n e]
theorem cwSp_upd (cw : Nat → Int32) (ok : Nat → Bool) (a : Nat) (x : Int32) : ∀ c, upd (cwSp cw ok a c) a x = upd cw a x
  | 0 => rfl
  | c + 1 => by
    rw [cwSp]
    split
    · rw [upd_upd, cwSp_upd cw ok a x c]
    · exact cwSp_upd cw ok a x c
theorem sim_splits : Sim_splits := by
  intro tc told ts tg cc rc sz bars subj teach seats col cw rs rk rch mt row tp tape mc mr mm mbars msubj mteach mseats mcol mp mk mch mth mopen v1 v2 hR
  have hR0 := hR
  obtain ⟨hrow, htext, ⟨rfl, rfl, rfl, n, r, z, ⟨hn1, hn6, rfl⟩, ⟨hr1, hr9, rfl⟩, ⟨hz, rfl⟩, hbars, hsec, hcw, hroom⟩, ⟨rfl, rfl, k, hk, rfl, hch⟩⟩ := hR
  unfold m_X5_splits m_X6_splits
  by_cases h1 : 0 ≤ v1.toInt ∧ v1.toInt < (10 : Nat)
  · by_cases h2 : 0 ≤ v2.toInt ∧ v2.toInt < (10 : Nat)
    · obtain ⟨a, ha, rfl⟩ := rng_of h1 (by decide)
      obtain ⟨t, ht, rfl⟩ := rng_of h2 (by decide)
      have i17 : inb (nI z) 17 = true := inb_nI (by omega) (by decide)
      have cl : (nI z).toNatClampNeg = z := nI_clamp (by omega)
      have a10 : inb (nI a) 10 = true := inb_nI (by omega) (by decide)
      have cla : (nI a).toNatClampNeg = a := nI_clamp (by omega)
      simp only [X5_isSubject_eq, X6_isSubject_eq, X5_isTeacher_eq, X6_isTeacher_eq, h1, h2, and_self, bk1, ↓reduceIte, e10, lawful_eq hn6 hr9 hz ht, fittingX_eq hk hch, i17, cl, gd_tt, a10, cla, lt_t, nI_1]
      obtain ⟨ok, hok⟩ : ∃ ok : Nat → Bool, ok = fun c => decide (obs r (bt (bars t) c) (oth col (-1) (nI c) z) (bsy col teach (-1) (nI t) (nI c) z) = 0) := ⟨_, rfl⟩
      obtain ⟨P, hP⟩ : ∃ P : Nat → Nat, P = fun c => pop (fitS (upd cw a (cw a ||| ((1 : Int32) <<< (nI c &&& 31)))) rch k) := ⟨_, rfl⟩
      have hP32 : ∀ c, P c ≤ 32 := fun c => by rw [hP]; exact pop_le _
      rw [← hok]
      have eX : it4 (m_X5_splits_53 tc (nI n) (nI k) rch told (nI a) (msk ok n) (fitS cw rch k) (cw a)) 1100 (-1) (-2) 0 cw = m_X5_splits_125 tc (cwSp cw ok a n) told (nI a) (cw a) (mostW (run (gL ok P) n (0, none)).1) (fndW (-2) (run (gL ok P) n (0, none)).2) := by
        refine seq4 (z := n) (fun c => mostW (run (gL ok P) c (0, none)).1) (fun c => fndW (-2) (run (gL ok P) c (0, none)).2) (fun c => nI c) (cwSp cw ok a) (by omega) (fun rec => ?_) (fun rec c hc => ?_)
        · unfold m_X5_splits_53; rw [if_pos (Int32.le_refl _)]
        · have hI := gL_ok hP32 (okL_0 (n := n) (ok := ok) (P := P)) (show c ≤ n by omega)
          unfold m_X5_splits_53
          rw [run, cwSp]
          generalize run (gL ok P) c (0, none) = s at hI
          have hb : bt (msk ok n) c = ok c := by rw [msk_bt ok n (by omega)]; simp [hc]
          have han : m_X5_fittingAnew (upd cw a (cw a ||| ((1 : Int32) <<< (nI c &&& 31)))) (nI k) rch (fitS cw rch k) ((1 : Int32) <<< (nI a &&& 31)) = some (fitS (upd cw a (cw a ||| ((1 : Int32) <<< (nI c &&& 31)))) rch k) :=
            anew_eq hk (fun s hs hb' => by
              rw [p_bit (by omega) (by omega)] at hb'
              exact upd_n (of_decide_eq_false hb'))
          simp only [nI_ge hc (show n < 2 ^ 31 by omega), ↓reduceIte, hasBit_eq (show c < 32 by omega), hb, bk1, a10, cla, gd_tt, lt_t, nI_1, cwSp_upd, han, bitCount_eq, gL]
          have hPc : pop (fitS (upd cw a (cw a ||| ((1 : Int32) <<< (nI c &&& 31)))) rch k) = P c := by rw [hP]
          rw [hPc]
          have hle := mw_le (p := P c) (q := s.1) (by have := hP32 c; omega) (by have := hI.1; omega)
          cases ok c
          · simp only [Bool.false_eq_true, ↓reduceIte, false_and]
          · by_cases h3 : s.1 < P c + 1
            · simp only [↓reduceIte, e10, h3, and_self, if_neg (show ¬ nI (P c) ≤ mostW s.1 by rw [hle]; omega), mw_s, fndW]
            · simp only [↓reduceIte, e10, h3, and_false, if_pos (show nI (P c) ≤ mostW s.1 by rw [hle]; omega)]
      have eM : it5 (m_X6_splits_68 0 mt (nI n) (nI r) (nI (z + 1)) (nI k) row (upd msubj z (nI a)) (upd mteach z (nI t)) mbars mch (nI z)) 1100 (-2) (-1) 0 (upd mcol z (-2)) mopen = m_X6_splits_127 0 mt (nI (z + 1)) row (upd msubj z (nI a)) (upd mteach z (nI t)) (upd mcol z (-2)) (opL ok (fun c o => loN (upd msubj z (nI a)) (upd (upd mcol z (-2)) z (nI c)) (loZ o 10) (z + 1)) mopen n) (fndW (-2) (run (gL ok P) n (0, none)).2) (mostW (run (gL ok P) n (0, none)).1) := by
        refine seq5 (z := n) (fun c => fndW (-2) (run (gL ok P) c (0, none)).2) (fun c => mostW (run (gL ok P) c (0, none)).1) (fun c => nI c) (fun _ => upd mcol z (-2)) (opL ok (fun c o => loN (upd msubj z (nI a)) (upd (upd mcol z (-2)) z (nI c)) (loZ o 10) (z + 1)) mopen) (by omega) (fun rec => ?_) (fun rec c hc => ?_)
        · unfold m_X6_splits_68; rw [if_pos (Int32.le_refl _)]
        · have hI := gL_ok hP32 (okL_0 (n := n) (ok := ok) (P := P)) (show c ≤ n by omega)
          unfold m_X6_splits_68 m_X6_splits_101
          rw [run, opL]
          generalize run (gL ok P) c (0, none) = s at hI
          have hok' : decide (obsX r (z + 1) mbars (upd mteach z (nI t)) (upd mcol z (-2)) z t c = 0) = ok c := by
            rw [hok, split_obs hz ht (by omega) hbars hsec]
          simp only [nI_ge hc (show n < 2 ^ 31 by omega), ↓reduceIte, isLegal_eq hr9 (show z + 1 ≤ 17 by omega) ht (show c < 32 by omega) (show z < 17 by omega) mbars (upd mteach z (nI t)) (upd mcol z (-2)) upd_s, bk1, lt_t, nI_1, split_by hn6 hz hk ha hc hsec hcw hch, bk3, bits_eq, gL]
          have hPc : pop (fitS (upd cw a (cw a ||| ((1 : Int32) <<< (nI c &&& 31)))) rch k) = P c := by rw [hP]
          rw [hPc]
          have hlt := mw_lt (p := P c) (q := s.1) (by have := hP32 c; omega) (by have := hI.1; omega)
          by_cases h0 : obsX r (z + 1) mbars (upd mteach z (nI t)) (upd mcol z (-2)) z t c = 0
          · have hokc : ok c = true := by rw [← hok']; exact decide_eq_true h0
            by_cases h3 : s.1 < P c + 1
            · simp only [h0, hokc, ↓reduceIte, e10, h3, and_self, if_pos (hlt.mpr h3), mw_s, fndW]
            · simp only [h0, hokc, ↓reduceIte, e10, h3, and_false, if_neg (fun e => h3 (hlt.mp e))]
          · have hokc : ok c = false := by rw [← hok']; exact decide_eq_false h0
            simp only [h0, hokc, ↓reduceIte, Bool.false_eq_true, false_and, if_neg (mw_m1 (show s.1 < 2 ^ 30 by have := hI.1; omega))]
      rw [eX, eM]
      have hI := gL_ok hP32 (okL_0 (n := n) (ok := ok) (P := P)) (Nat.le_refl n)
      generalize run (gL ok P) n (0, none) = s at hI
      generalize opL ok (fun c o => loN (upd msubj z (nI a)) (upd (upd mcol z (-2)) z (nI c)) (loZ o 10) (z + 1)) mopen n = o2
      unfold m_X5_splits_125 m_X6_splits_127
      have hback : upd (cwSp cw ok a n) a (cw a) = cw := by rw [cwSp_upd, upd_self]
      simp only [a10, cla, gd_tt, lt_t, nI_pred, hback]
      rcases hI.2 with e | ⟨c, hc, -, e⟩
      · rw [e]
        simp only [fndW, ↓reduceIte, if_pos (show (-2 : Int32) < 0 by decide)]
        exact ⟨_, _, _, _, _, _, _, _, _, _, _, _, rfl, rfl, hrow, htext, ⟨rfl, rfl, rfl, n, r, z, ⟨hn1, hn6, rfl⟩, ⟨hr1, hr9, rfl⟩, ⟨hz, rfl⟩, hbars, hsec.at_z _ _ _, hcw, hroom⟩, ⟨rfl, rfl, k, hk, rfl, hch⟩⟩
      · rw [e]
        simp only [fndW, nI_nm2 (show c < 2 ^ 31 by omega), nI_neg (show c < 2 ^ 31 by omega), ↓reduceIte, tell1_eq, notes1_eq, bk2]
        exact ⟨_, _, _, _, _, _, _, _, _, _, _, _, rfl, rfl, RRow_1 _ _ _, htext, ⟨rfl, rfl, rfl, n, r, z, ⟨hn1, hn6, rfl⟩, ⟨hr1, hr9, rfl⟩, ⟨hz, rfl⟩, hbars, hsec.at_z _ _ _, hcw, hroom⟩, ⟨rfl, rfl, k, hk, rfl, hch⟩⟩
    · simp only [X5_isSubject_eq, X6_isSubject_eq, X5_isTeacher_eq, X6_isTeacher_eq, h1, h2, and_self, bk1, ↓reduceIte, e10]
      exact ⟨_, _, _, _, _, _, _, _, _, _, _, _, rfl, rfl, hR0⟩
  · simp only [X5_isSubject_eq, X6_isSubject_eq, h1, bk1, ↓reduceIte]
    exact ⟨_, _, _, _, _, _, _, _, _, _, _, _, rfl, rfl, hR0⟩
