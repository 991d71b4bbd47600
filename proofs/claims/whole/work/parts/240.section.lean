/-! a section's line -/
theorem oth_m1 {col : Nat → Int32} {c : Nat} : ∀ z, z < 2 ^ 31 → oth col (-1) (nI c) z = inCol col c z
  | 0, _ => rfl
  | z + 1, h => by
    rw [oth, inCol, oth_m1 z (by omega)]
    have : ¬ nI z = -1 := nI_nm1 (by omega)
    simp only [this, not_false_eq_true, true_and]
theorem legal_new {n r z t c : Nat} (hz : z ≤ 16) (ht : t < 10) (hc : c < 6) {bars mbars subj teach seats col msubj mteach mseats mcol : Nat → Int32} (hb : ∀ t : Nat, t < 10 → bars t = mbars t) (h : RSec n z subj teach seats col msubj mteach mseats mcol) :
    obsX r z mbars (upd mteach z (nI t)) (upd mcol z (-2)) z t c = obs r (bt (bars t) c) (oth col (-1) (nI c) z) (bsy col teach (-1) (nI t) (nI c) z) := by
  unfold obsX
  have key : ∀ i, i < z → ¬ nI i = -1 ∧ ¬ nI i = nI z ∧ (col i = nI c ↔ upd mcol z (-2) i = nI c) ∧ teach i = upd mteach z (nI t) i := fun i hi => by
    have e : i ≠ z := by omega
    refine ⟨nI_nm1 (by omega), fun q => e (nI_inj (by omega) (by omega) q), ?_, ?_⟩
    · rw [upd_n e]; exact h.colI hi (by omega)
    · rw [upd_n e]; exact (h i hi).2.2.1
  have e1 : oth (upd mcol z (-2)) (nI z) (nI c) z = oth col (-1) (nI c) z := (oth_chg (fun i hi => ⟨(key i hi).1, (key i hi).2.1, (key i hi).2.2.1⟩)).symm
  have e2 : bsy (upd mcol z (-2)) (upd mteach z (nI t)) (nI z) (nI t) (nI c) z = bsy col teach (-1) (nI t) (nI c) z := (bsy_chg key).symm
  rw [e1, e2, hb t ht]
def secR (n r k : Nat) (tape : Nat → Int32) (a : Nat) (bars mbars : Nat → Int32) (X : Option (Int32 × Int32 × (Nat → Int32) × (Nat → Int32) × (Nat → Int32) × (Nat → Int32) × (Nat → Int32) × Int32)) (M : Option (Int32 × Int32 × Int32 × Int32 × Int32 × (Nat → Int32) × (Nat → Int32) × (Nat → Int32) × (Nat → Int32))) : Prop :=
  ∃ a' zx sx tx ex cx wx zm dm um sm tm em cm, a ≤ a' ∧ a' ≤ k ∧ ((X = some (0, zx, sx, tx, ex, cx, wx, nI a') ∧ M = some (0, zm, nI a', dm, um, sm, tm, em, cm)) ∨ ((∃ d, isD k tape a' d) ∧ X = some (1, zx, sx, tx, ex, cx, wx, nI a') ∧ M = some (0, zm, nI a', dm, um, sm, tm, em, cm)) ∨ (∃ z', zx = nI z' ∧ zm = nI z' ∧ DR n r z' bars sx tx ex cx wx mbars sm tm em cm ∧ X = some (1, zx, sx, tx, ex, cx, wx, nI a') ∧ M = some (1, zm, nI a', dm, um, sm, tm, em, cm)))
theorem secR_F {n r k : Nat} {tape : Nat → Int32} {a a' : Nat} {bars mbars sx tx ex cx wx sm tm em cm : Nat → Int32} {zx zm dm um : Int32} (h1 : a ≤ a') (h2 : a' ≤ k) : secR n r k tape a bars mbars (some (0, zx, sx, tx, ex, cx, wx, nI a')) (some (0, zm, nI a', dm, um, sm, tm, em, cm)) := ⟨a', zx, sx, tx, ex, cx, wx, zm, dm, um, sm, tm, em, cm, h1, h2, Or.inl ⟨rfl, rfl⟩⟩
theorem secR_D {n r k : Nat} {tape : Nat → Int32} {a a' : Nat} {bars mbars sx tx ex cx wx sm tm em cm : Nat → Int32} {zx zm dm um : Int32} (h1 : a ≤ a') (h2 : a' ≤ k) (h3 : ∃ d, isD k tape a' d) : secR n r k tape a bars mbars (some (1, zx, sx, tx, ex, cx, wx, nI a')) (some (0, zm, nI a', dm, um, sm, tm, em, cm)) := ⟨a', zx, sx, tx, ex, cx, wx, zm, dm, um, sm, tm, em, cm, h1, h2, Or.inr (Or.inl ⟨h3, rfl, rfl⟩)⟩
theorem secR_T {n r k z : Nat} {tape : Nat → Int32} {a a' : Nat} {bars mbars sx tx ex cx wx sm tm em cm : Nat → Int32} {dm um : Int32} (h1 : a ≤ a') (h2 : a' ≤ k) (h3 : DR n r z bars sx tx ex cx wx mbars sm tm em cm) : secR n r k tape a bars mbars (some (1, nI z, sx, tx, ex, cx, wx, nI a')) (some (1, nI z, nI a', dm, um, sm, tm, em, cm)) := ⟨a', nI z, sx, tx, ex, cx, wx, nI z, dm, um, sm, tm, em, cm, h1, h2, Or.inr (Or.inr ⟨z, rfl, rfl, h3, rfl, rfl⟩)⟩
theorem DR.add {n r z : Nat} (hn : n ≤ 6) (hz : z < 16) {bars subj teach seats col cw mbars msubj mteach mseats mcol : Nat → Int32} (h : DR n r z bars subj teach seats col cw mbars msubj mteach mseats mcol) {a t s : Nat} (ha : a < 10) (ht : t < 10) (hs1 : 1 ≤ s) (hs : s ≤ 30) {v mv : Int32} (hv : okMv n v mv) (hroom : ∀ c, c < n → v = nI c → inCol col c z < r) :
    DR n r (z + 1) bars (upd subj z (nI a)) (upd teach z (nI t)) (upd seats z (nI s)) (upd col z v) (upd cw a (cwW (z + 1) (upd subj z (nI a)) (upd col z v) a)) mbars (upd msubj z (nI a)) (upd mteach z (nI t)) (upd mseats z (nI s)) (upd mcol z mv) := by
  obtain ⟨h1, h2, h3, h4, h5⟩ := h
  refine ⟨by omega, h2, h3.add ha ht hs1 hs hv, RCw_add hn hz ha h3.ok h4 hv.cls, fun c hc => ?_⟩
  rw [inCol_add]
  by_cases e : v = nI c
  · rw [if_pos e]; have := hroom c hc e; omega
  · rw [if_neg e]; exact h5 c hc
theorem sec_eq {n r z k : Nat} (hn1 : 1 ≤ n) (hn : n ≤ 6) (hr : r ≤ 9) {sg tape : Nat → Int32} (hT : okT k sg tape) {a : Nat} (ha : a ≤ k) {bars subj teach seats col cw mbars msubj mteach mseats mcol : Nat → Int32} (hD : DR n r z bars subj teach seats col cw mbars msubj mteach mseats mcol) (dg nu : Int32) :
    secR n r k tape a bars mbars (m_X0_readSection (nI n) (nI r) (nI z) bars subj teach seats col cw (nI k) (nI a) sg) (m_X6_takesSection (nI n) (nI r) (nI z) (nI a) (nI k) dg nu msubj mteach mseats mcol mbars tape) := by
  have hD0 := hD
  obtain ⟨hz, hbb, hsec, hcw, hroom⟩ := hD
  have hk := hT.1
  have n10 : ¬ (1 : Int32) = 0 := by decide
  by_cases hz16 : z = 16
  · subst hz16
    unfold m_X0_readSection m_X0_readSection_17 m_X6_takesSection
    rw [if_pos (show (16 : Int32) ≤ nI 16 by decide), tdX_n hT ha (fun d _ => b_0 d), bk2, if_pos rfl]
    by_cases hd : ∃ d, isD k tape a d
    · obtain ⟨d, hd⟩ := hd
      rw [id_y hT hd, bk1, if_neg n10, if_pos (show nI 16 = 16 by decide)]
      exact secR_F (Nat.le_refl _) ha
    · rw [id_n hT ha hd, bk1, if_pos rfl]
      exact secR_F (Nat.le_refl _) ha
  · have hz' : z < 16 := by omega
    have g16 : ¬ (16 : Int32) ≤ nI z := nI_ge (a := z) (b := 16) hz' (by decide)
    have n16 : ¬ nI z = 16 := by
      rw [show (16 : Int32) = nI 16 from rfl, nI_eq (by omega) (by decide)]; omega
    have i17 : inb (nI z) 17 = true := inb_nI (by omega) (by decide)
    have cz : (nI z).toNatClampNeg = z := nI_clamp (by omega)
    have lo0 : (0 : Int32).toInt = ((0 : Nat) : Int) := rfl
    have hi9 : (9 : Int32).toInt = ((9 : Nat) : Int) := rfl
    have hhi : (nI n - 1).toInt = ((n - 1 : Nat) : Int) := by rw [nIm1 hn1, nI_toInt (by omega)]
    have al : ∀ d, d < 10 → bt 1023 d = true := fun d hd => by rw [bt1023 d hd]; exact decide_eq_true (Nat.zero_le _)
    unfold m_X0_readSection m_X0_readSection_17 m_X6_takesSection
    rw [if_neg g16]
    by_cases hd : ∃ d, isD k tape a d
    · obtain ⟨s, hs⟩ := hd
      have hs10 := hs.2.1
      have hak := hs.1
      have i240 : inb (nI a) 240 = true := inb_nI (by omega) (by decide)
      have ca : (nI a).toNatClampNeg = a := nI_clamp (by omega)
      have es : nI (48 + s) - 48 = nI s := by rw [show (48 : Int32) = nI 48 from rfl, pk_sub (by omega), Nat.add_sub_cancel_left]
      rw [tdX_y hT hs (al s hs10), bk2, if_neg (nI_nm1 (show s < 2 ^ 31 by omega)), id_y hT hs, bk1, if_neg n10, if_neg n16, i240, gd_tt, i17, gd_tt, lt_t, nI_1, ca, hs.2.2, es, cz]
      by_cases ht : a + 1 < k ∧ tape (a + 1) = 116
      · obtain ⟨y1, y2⟩ := ts_y hT ht.1 ht.2
        rw [y1, bk2, if_neg n10, y2, bk2, if_neg n10]
        by_cases hd2 : ∃ d, isD k tape (a + 1 + 1) d
        · obtain ⟨t, htt⟩ := hd2
          have ht10 := htt.2.1
          have htk := htt.1
          rw [tdX_y hT htt (al t ht10), bk2, if_neg (nI_nm1 (show t < 2 ^ 31 by omega)), tdM_y hT lo0 hi9 htt (Nat.zero_le _) (by omega), bk3, if_neg n10, gd_tt]
          by_cases hzz : a + 1 + 1 + 1 < k ∧ tape (a + 1 + 1 + 1) = 122
          · obtain ⟨w1, w2⟩ := ts_y hT hzz.1 hzz.2
            rw [w1, bk2, if_neg n10, w2, bk2, if_neg n10]
            have ha4 : a + 1 + 1 + 1 + 1 ≤ k := by have := hzz.1; omega
            have hse := seats_eq hT ha4 (nI t) nu
            rcases hse with ⟨a', dm, um, q1, q2, q3, q4⟩ | ⟨se, a', dm, um, q1, q2, q3, q4, q5, q6⟩
            · rw [q3, bk2, if_pos rfl, q4, bk4, if_pos rfl]
              exact secR_F (by omega) q2
            · rw [q5, bk2, if_neg (nI_nm1 (show se < 2 ^ 31 by omega))]
              rcases q6 with ⟨⟨d, hd⟩, q6⟩ | q6
              · have h64 : ¬ tape a' = 64 := by
                  rw [hd.2.2, show (64 : Int32) = nI 64 from rfl, nI_eq (by have := hd.2.1; omega) (by decide)]
                  have := hd.2.1
                  omega
                obtain ⟨v1, v2⟩ := ts_n hT q2 (fun _ => h64)
                rw [q6, bk4, if_pos rfl, v1, bk2, if_pos rfl]
                unfold m_X0_readSection_107
                rw [add_eq hz' hs10, bk6]
                exact secR_D (by omega) q2 ⟨d, hd⟩
              · rw [q6, bk4, if_neg n10, gd_tt, gd_tt]
                by_cases hat : a' < k ∧ tape a' = 64
                · obtain ⟨v1, v2⟩ := ts_y hT hat.1 hat.2
                  have ha1 : a' + 1 ≤ k := by have := hat.1; omega
                  rw [v1, bk2, if_neg n10, v2, bk2, if_neg n10, lawful_eq hn hr hz ht10, bk1]
                  by_cases hdd : ∃ d, isD k tape (a' + 1) d ∧ d < n
                  · obtain ⟨c, hc, hcn⟩ := hdd
                    have hck := hc.1
                    have hc10 := hc.2.1
                    have hmb : bt (msk (fun c => decide (obs r (bt (bars t) c) (oth col (-1) (nI c) z) (bsy col teach (-1) (nI t) (nI c) z) = 0)) n) c = decide (obs r (bt (bars t) c) (oth col (-1) (nI c) z) (bsy col teach (-1) (nI t) (nI c) z) = 0) := by
                      rw [msk_bt _ n (by omega)]
                      simp only [hcn, decide_true, Bool.true_and]
                    have hleg := isLegal_eq (c := c) hr (show z ≤ 17 by omega) ht10 (by omega) (show z < 17 by omega) mbars (upd mteach z (nI t)) (upd mcol z (-2)) upd_s
                    rw [legal_new hz ht10 (by omega) hbb hsec] at hleg
                    rw [tdM_y hT lo0 hhi hc (Nat.zero_le _) (by omega), bk3, if_neg n10, hleg, bk1]
                    by_cases hob : obs r (bt (bars t) c) (oth col (-1) (nI c) z) (bsy col teach (-1) (nI t) (nI c) z) = 0
                    · rw [tdX_y hT hc (by rw [hmb]; exact decide_eq_true hob), bk2, if_neg (nI_nm1 (show c < 2 ^ 31 by omega)), if_pos hob, if_neg n10, gd_tt]
                      unfold m_X0_readSection_107 m_X6_takesSection_190
                      rw [add_eq hz' hs10, bk6, lt_t, nI_1, upd_upd]
                      refine secR_T (by omega) (by omega) (hD0.add hn hz' hs10 ht10 q3 q4 (Or.inr ⟨c, hcn, rfl, rfl⟩) (fun c' hc' e => ?_))
                      have : c = c' := nI_inj (by omega) (by omega) e
                      subst this
                      rw [← oth_m1 z (by omega)]
                      exact (obs_0.mp hob).2.2
                    · rw [tdX_n hT ha1 (fun q hq => by
                        have := isD_uni hq hc
                        subst this
                        rw [hmb]; exact decide_eq_false hob), bk2, if_pos rfl, if_neg hob, if_pos rfl, lt_t, nI_pred]
                      exact secR_F (by omega) ha1
                  · rw [tdX_n hT ha1 (fun q hq => by
                      rw [msk_bt _ n (by omega)]
                      have : ¬ q < n := fun h => hdd ⟨q, hq, h⟩
                      simp [this]), bk2, if_pos rfl, tdM_n hT lo0 hhi (by omega) ha1 (fun q hq h => hdd ⟨q, hq, by omega⟩), bk3, if_pos rfl]
                    exact secR_F (by omega) ha1
                · obtain ⟨v1, v2⟩ := ts_n (v := 64) hT q2 (fun h e => hat ⟨h, e⟩)
                  rw [v1, bk2, if_pos rfl, v2, bk2, if_pos rfl]
                  unfold m_X0_readSection_107 m_X6_takesSection_190
                  rw [add_eq hz' hs10, bk6, lt_t, nI_1]
                  exact secR_T (by omega) q2 (hD0.add hn hz' hs10 ht10 q3 q4 (Or.inl ⟨rfl, rfl⟩) (fun c' hc' e => absurd e.symm (nI_nm1 (by omega))))
          · obtain ⟨w1, w2⟩ := ts_n (v := 122) hT (show a + 1 + 1 + 1 ≤ k by omega) (fun h e => hzz ⟨h, e⟩)
            rw [w1, bk2, if_pos rfl, w2, bk2, if_pos rfl]
            exact secR_F (by omega) (by omega)
        · have ha2 : a + 1 + 1 ≤ k := by have := ht.1; omega
          rw [tdX_n hT ha2 (fun q hq => absurd ⟨q, hq⟩ hd2), bk2, if_pos rfl, tdM_n hT lo0 hi9 (Nat.le_refl 9) ha2 (fun q hq => absurd ⟨q, hq⟩ hd2), bk3, if_pos rfl]
          exact secR_F (by omega) ha2
      · obtain ⟨y1, y2⟩ := ts_n (v := 116) hT (show a + 1 ≤ k by omega) (fun h e => ht ⟨h, e⟩)
        rw [y1, bk2, if_pos rfl, y2, bk2, if_pos rfl]
        exact secR_F (by omega) (by omega)
    · rw [tdX_n hT ha (fun q hq => absurd ⟨q, hq⟩ hd), bk2, if_pos rfl, id_n hT ha hd, bk1, if_pos rfl]
      exact secR_F (Nat.le_refl _) ha
