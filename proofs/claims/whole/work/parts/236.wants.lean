/-! wants -/
theorem runS_sub {n z : Nat} (hn : n ≤ 6) {subj col cw ch : Nat → Int32} (hok : okSC n z subj col) (hcw : RCw z subj col cw) {pq : Nat → Nat} {lf0 : Nat → Nat} :
    ∀ (q : Nat) (w : Int32) (lf : Nat → Nat), runS z subj col ch pq lf0 q w lf → (∀ r, r < q → pq r < 32) → ∀ p, p < 32 → bt w p = true → (∃ r, r < q ∧ pq r = p) ∧ wy cw (bl (ch p)) 0 = true := by
  intro q
  induction q with
  | zero =>
    intro w lf h _ p hp hb
    obtain ⟨h1, h2⟩ := h
    rw [h1, b_0] at hb
    cases hb
  | succ q ih =>
    intro w lf h hq p hp hb
    obtain ⟨w1, lf1, ok, h1, h2, h3⟩ := h
    rw [h3, b_or, Bool.or_eq_true] at hb
    rcases hb with hb | hb
    · obtain ⟨⟨r, r1, r2⟩, r3⟩ := ih w1 lf1 h1 (fun r hr => hq r (by omega)) p hp hb
      exact ⟨⟨r, by omega, r2⟩, r3⟩
    · rcases h2 with ⟨e, h4, h5⟩ | ⟨e, h4, h5⟩
      · rw [e, if_neg (by decide), b_0] at hb; cases hb
      · rw [e, if_pos rfl, p_bit (hq q (by omega)) hp] at hb
        have hpq : p = pq q := of_decide_eq_true hb
        refine ⟨⟨q, by omega, hpq.symm⟩, ?_⟩
        rw [hpq]
        refine wy_mono (fun s hs c hc hbt => ?_) h4
        obtain ⟨i, hi, a1, a2, a3⟩ := (ocX_bit hn hok lf1 s (show c < 32 by omega)).mp hbt
        exact (hcw s (bl_lt hs) c (by omega)).mpr ⟨i, hi, a1, a2⟩
theorem run_two {z k j : Nat} {subj col ch : Nat → Int32} {pq : Nat → Nat} {la lb : Nat → Nat} (hab : ∀ i, i < z → i ≠ j → la i = lb i) (ha : k ≤ la j) (hb : k ≤ lb j) :
    ∀ (q : Nat), q ≤ k → ∀ (w v : Int32) (lf mf : Nat → Nat), runS z subj col ch pq la q w lf → runS z subj col ch pq lb q v mf → w = v ∧ (∀ i, i < z → i ≠ j → lf i = mf i) ∧ k ≤ lf j + q ∧ k ≤ mf j + q := by
  intro q
  induction q with
  | zero =>
    intro _ w v lf mf h1 h2
    obtain ⟨a1, a2⟩ := h1
    obtain ⟨b1, b2⟩ := h2
    rw [a1, a2, b1, b2]
    exact ⟨rfl, hab, by omega, by omega⟩
  | succ q ih =>
    intro hq w v lf mf h1 h2
    obtain ⟨w1, lf1, ok1, r1, s1, e1⟩ := h1
    obtain ⟨v1, mf1, ok2, r2, s2, e2⟩ := h2
    obtain ⟨g1, g2, g3, g4⟩ := ih (by omega) w1 v1 lf1 mf1 r1 r2
    have hpos : ∀ i, i < z → (0 < lf1 i ↔ 0 < mf1 i) := by
      intro i hi
      by_cases e : i = j
      · subst e; constructor <;> intro _ <;> omega
      · rw [g2 i hi e]
    have hoc : ocX z subj col lf1 = ocX z subj col mf1 := funext (fun s => ocX_congr (fun i hi _ => hpos i hi))
    rcases s1 with ⟨a1, a2, a3⟩ | ⟨a1, a2, L, I, a3, a4, a5⟩
    · rcases s2 with ⟨b1, b2, b3⟩ | ⟨b1, b2, M, J, b3, b4, b5⟩
      · rw [e1, e2, a1, b1, a3, b3, g1]
        exact ⟨rfl, g2, by omega, by omega⟩
      · rw [← hoc, a2] at b2; cases b2
    · rcases s2 with ⟨b1, b2, b3⟩ | ⟨b1, b2, M, J, b3, b4, b5⟩
      · rw [← hoc, a2] at b2; cases b2
      · rw [← hoc] at b3
        have eL : M = L := isFW_uni b3 a3
        subst eL
        have eI : J = I := isTk_uni b4 (isTk_conv (fun s _ c _ i hi => by unfold fre; rw [hpos i hi]) a4)
        subst eI
        rw [e1, e2, a1, b1, a5, b5, g1]
        refine ⟨rfl, fun i hi e => ?_, ?_, ?_⟩
        · unfold lfM; rw [g2 i hi e]
        · have : lf1 j ≤ lfM lf1 J j + 1 := by unfold lfM; split <;> omega
          omega
        · have : mf1 j ≤ lfM mf1 J j + 1 := by unfold lfM; split <;> omega
          omega
/-- n seats more in section j -/
def lfN (lf : Nat → Nat) (j n : Nat) : Nat → Nat := fun i => if i = j then lf j + n else lf i
theorem lfN_j (lf : Nat → Nat) (j n : Nat) : lfN lf j n j = lf j + n := if_pos rfl
theorem lfN_o (lf : Nat → Nat) {j n i : Nat} (h : i ≠ j) : lfN lf j n i = lf i := if_neg h
theorem okLf_upd {z j n : Nat} {f : Nat → Int32} {lf : Nat → Nat} (h : okLf z f lf) (hl : ∀ i, i < z → 1 ≤ lf i ∧ lf i ≤ 30) (hn : n ≤ 30) : okLf z (upd f j (nI (lf j + n))) (lfN lf j n) := fun i hi => by
  by_cases e : i = j
  · subst e
    rw [upd_s, lfN_j]
    exact ⟨rfl, by have := hl i hi; omega⟩
  · rw [upd_n e, lfN_o lf e]; exact h i hi
theorem lfN_pos {z j n : Nat} {lf : Nat → Nat} (hl : ∀ i, i < z → 1 ≤ lf i ∧ lf i ≤ 30) : ∀ i, i < z → 0 < lfN lf j n i := fun i hi => by
  have := (hl i hi).1
  by_cases e : i = j
  · subst e; rw [lfN_j]; omega
  · rw [lfN_o lf e]; omega
theorem wantsM_tail {n z k j : Nat} (hn : n ≤ 6) (hz : z ≤ 16) (hk : k ≤ 24) (hj : j < z) {subj teach seats col cw msubj mteach mseats mcol : Nat → Int32} (hsec : RSec n z subj teach seats col msubj mteach mseats mcol) (hcw : RCw z subj col cw) {ch mch : Nat → Int32} (hr : okRoll k ch mch) {lf : Nat → Nat} (l1 : okLf z seats lf) (l2 : okLf z mseats lf) (l3 : ∀ i, i < z → 1 ≤ lf i ∧ lf i ≤ 30) (OP : Nat → Int32) {m : Nat} (hm : k ≤ lf j + m) {wm due : Int32} {lm : Nat → Nat} (hrun : runS z subj col ch (pqF k 0) (lfN lf j m) k wm lm) (hne : ¬ nI (pop wm) = due) :
    ∀ (e q fM : Nat) (g mleft msat : Nat → Int32), q + e = 31 → e < fM → m ≤ q → (∀ y, upd g j y = upd mseats j y) →
    ∃ mleft' msat', it5 (m_X6_wants_37 0 (nI n) (nI z) (nI k) msubj mcol mch OP (nI j) due (nI (lf j))) fM (-2) (nI q) g mleft msat = some (-2, 0, mseats, OP, mleft', msat') := by
  have i17 : inb (nI j) 17 = true := inb_nI (by omega) (by decide)
  have cl : (nI j).toNatClampNeg = j := nI_clamp (by omega)
  have hsj : nI (lf j) = mseats j := (l2 j hj).1.symm
  intro e
  induction e with
  | zero =>
    intro q fM g mleft msat hq hf _ hg
    have : q = 31 := by omega
    subst this
    cases fM with
    | zero => exact absurd hf (by omega)
    | succ fM =>
      refine ⟨mleft, msat, ?_⟩
      show m_X6_wants_37 0 (nI n) (nI z) (nI k) msubj mcol mch OP (nI j) due (nI (lf j)) (it5 (m_X6_wants_37 0 (nI n) (nI z) (nI k) msubj mcol mch OP (nI j) due (nI (lf j))) fM) (-2) (nI 31) g mleft msat = _
      generalize it5 (m_X6_wants_37 0 (nI n) (nI z) (nI k) msubj mcol mch OP (nI j) due (nI (lf j))) fM = rec
      unfold m_X6_wants_37 m_X6_wants_86
      rw [if_pos (show (30 : Int32) < nI 31 by decide), i17, gd_tt, cl, hg, hsj, upd_self]
  | succ e ih =>
    intro q fM g mleft msat hq hf hmq hg
    cases fM with
    | zero => exact absurd hf (by omega)
    | succ fM =>
      have s1 : it5 (m_X6_wants_37 0 (nI n) (nI z) (nI k) msubj mcol mch OP (nI j) due (nI (lf j))) (fM + 1) (-2) (nI q) g mleft msat = m_X6_wants_37 0 (nI n) (nI z) (nI k) msubj mcol mch OP (nI j) due (nI (lf j)) (it5 (m_X6_wants_37 0 (nI n) (nI z) (nI k) msubj mcol mch OP (nI j) due (nI (lf j))) fM) (-2) (nI q) g mleft msat := rfl
      rw [s1]
      have hIH := ih (q + 1) fM
      generalize it5 (m_X6_wants_37 0 (nI n) (nI z) (nI k) msubj mcol mch OP (nI j) due (nI (lf j))) fM = rec at hIH ⊢
      obtain ⟨who, a1, a2, a3, a4, a5, mleft', msat', e1, e2, lf', s2, s3⟩ := seat_rel hn hz hk hsec hcw hr (okLf_upd (j := j) (n := q) l1 l3 (by omega)) (okLf_upd (j := j) (n := q) l2 l3 (by omega)) (lfN_pos l3) 0 mleft mleft mleft mleft (fun _ => 0) mleft msat
      have hw := (run_two (j := j) (fun i hi e => by rw [lfN_o lf e, lfN_o lf e]) (by rw [lfN_j]; exact hm) (by rw [lfN_j]; omega) k (Nat.le_refl _) wm who lm lf' hrun s2).1
      have g1 : ¬ (30 : Int32) < nI q := by rw [show (30 : Int32) = nI 30 from rfl, nI_ltI (by omega) (by omega)]; omega
      unfold m_X6_wants_37
      rw [if_neg g1, if_neg (show ¬ (0 : Int32) ≤ -2 by decide), i17, gd_tt, cl, nI_add, hg, e2, bk3, bits_eq, bk1, ← hw, if_neg hne, lt_t, nI_1]
      exact hIH (upd mseats j (nI (lf j + q))) mleft' msat' (by omega) (by omega) (by omega) (fun y => upd_upd)
theorem wants_loop {n z k j : Nat} (hn : n ≤ 6) (hz : z ≤ 16) (hk : k ≤ 24) (hj : j < z) {subj teach seats col cw msubj mteach mseats mcol : Nat → Int32} (hsec : RSec n z subj teach seats col msubj mteach mseats mcol) (hcw : RCw z subj col cw) {ch mch : Nat → Int32} (hr : okRoll k ch mch) {lf : Nat → Nat} (l1 : okLf z seats lf) (l2 : okLf z mseats lf) (l3 : ∀ i, i < z → 1 ≤ lf i ∧ lf i ≤ 30) (OP : Nat → Int32) {m : Nat} (hm : k ≤ lf j + m) (hm30 : m ≤ 30) {FIT : Int32} (hFIT : FIT = fitS cw ch k) :
    ∀ (d q fX fM : Nat) (f left sit oc first : Nat → Int32) (sa : Nat → Int64) (g mleft msat : Nat → Int32), q + d = m + 1 → d < fX → 31 < fM + q → (∀ y, upd f j y = upd seats j y) → (∀ y, upd g j y = upd mseats j y) → (d = 0 → ∃ wm lm, runS z subj col ch (pqF k 0) (lfN lf j m) k wm lm ∧ ¬ nI (pop wm) = nI (pop FIT)) →
    ∃ r left' sit' oc' first' sa' mleft' msat', it8 (m_X5_wants_55 (nI z) subj col cw (nI k) ch (nI j) FIT (nI (lf j)) (nI m)) fX (-2) (nI q) f left sit oc first sa = some (r, seats, left', sit', oc', first', sa') ∧ it5 (m_X6_wants_37 0 (nI n) (nI z) (nI k) msubj mcol mch OP (nI j) (nI (pop FIT)) (nI (lf j))) fM (-2) (nI q) g mleft msat = some (r, 0, mseats, OP, mleft', msat') := by
  have i16 : inb (nI j) 16 = true := inb_nI (by omega) (by decide)
  have i17 : inb (nI j) 17 = true := inb_nI (by omega) (by decide)
  have cl : (nI j).toNatClampNeg = j := nI_clamp (by omega)
  have hsx : nI (lf j) = seats j := (l1 j hj).1.symm
  have hsj : nI (lf j) = mseats j := (l2 j hj).1.symm
  intro d
  induction d with
  | zero =>
    intro q fX fM f left sit oc first sa g mleft msat hq hX hM hf hg h0
    obtain ⟨wm, lm, hrun, hne⟩ := h0 rfl
    obtain ⟨mleft', msat', em⟩ := wantsM_tail hn hz hk hj hsec hcw hr l1 l2 l3 OP hm hrun hne (31 - q) q fM g mleft msat (by omega) (by omega) (by omega) hg
    cases fX with
    | zero => exact absurd hX (by omega)
    | succ fX =>
      refine ⟨-2, left, sit, oc, first, sa, mleft', msat', ?_, em⟩
      show m_X5_wants_55 (nI z) subj col cw (nI k) ch (nI j) FIT (nI (lf j)) (nI m) (it8 (m_X5_wants_55 (nI z) subj col cw (nI k) ch (nI j) FIT (nI (lf j)) (nI m)) fX) (-2) (nI q) f left sit oc first sa = _
      generalize it8 (m_X5_wants_55 (nI z) subj col cw (nI k) ch (nI j) FIT (nI (lf j)) (nI m)) fX = rec
      unfold m_X5_wants_55 m_X5_wants_112
      rw [if_pos (nI_lt (show m < q by omega) (by omega)), i16, gd_tt, cl, hf, hsx, upd_self]
  | succ d ih =>
    intro q fX fM f left sit oc first sa g mleft msat hq hX hM hf hg h0
    obtain ⟨who, left', sit', oc', first', sa', mleft', msat', e1, e2, lf', s2, s3⟩ := seat_rel hn hz hk hsec hcw hr (okLf_upd (j := j) (n := q) l1 l3 (by omega)) (okLf_upd (j := j) (n := q) l2 l3 (by omega)) (lfN_pos l3) 0 left sit oc first sa mleft msat
    have hsub : ∀ p, p < 32 → bt who p = true → bt FIT p = true := by
      intro p hp hb
      obtain ⟨⟨r, r1, r2⟩, h2⟩ := runS_sub hn hsec.ok hcw k who lf' s2 (fun r hr => by unfold pqF; rw [if_pos rfl]; omega) p hp hb
      have : pqF k 0 r = r := if_pos rfl
      have hpk : p < k := by omega
      rw [hFIT, fitS_bt hk, h2]
      simp [hpk]
    have hpop : nI (pop who) = nI (pop FIT) ↔ who = FIT := by
      constructor
      · intro h
        exact (pop_sub hsub).2 (nI_inj (pop_lt31 _) (pop_lt31 _) h)
      · intro h; rw [h]
    cases fX with
    | zero => exact absurd hX (by omega)
    | succ fX =>
      cases fM with
      | zero => exact absurd hM (by omega)
      | succ fM =>
        have sX : it8 (m_X5_wants_55 (nI z) subj col cw (nI k) ch (nI j) FIT (nI (lf j)) (nI m)) (fX + 1) (-2) (nI q) f left sit oc first sa = m_X5_wants_55 (nI z) subj col cw (nI k) ch (nI j) FIT (nI (lf j)) (nI m) (it8 (m_X5_wants_55 (nI z) subj col cw (nI k) ch (nI j) FIT (nI (lf j)) (nI m)) fX) (-2) (nI q) f left sit oc first sa := rfl
        have sM : it5 (m_X6_wants_37 0 (nI n) (nI z) (nI k) msubj mcol mch OP (nI j) (nI (pop FIT)) (nI (lf j))) (fM + 1) (-2) (nI q) g mleft msat = m_X6_wants_37 0 (nI n) (nI z) (nI k) msubj mcol mch OP (nI j) (nI (pop FIT)) (nI (lf j)) (it5 (m_X6_wants_37 0 (nI n) (nI z) (nI k) msubj mcol mch OP (nI j) (nI (pop FIT)) (nI (lf j))) fM) (-2) (nI q) g mleft msat := rfl
        have g1 : ¬ (30 : Int32) < nI q := by rw [show (30 : Int32) = nI 30 from rfl, nI_ltI (by omega) (by omega)]; omega
        have g2 : ¬ nI m < nI q := nI_nlt (by omega) (by omega)
        have tX : it8 (m_X5_wants_55 (nI z) subj col cw (nI k) ch (nI j) FIT (nI (lf j)) (nI m)) (fX + 1) (-2) (nI q) f left sit oc first sa = if who = FIT then it8 (m_X5_wants_55 (nI z) subj col cw (nI k) ch (nI j) FIT (nI (lf j)) (nI m)) fX (nI q) (nI (q + 1)) (upd seats j (nI (lf j + q))) left' sit' oc' first' sa' else it8 (m_X5_wants_55 (nI z) subj col cw (nI k) ch (nI j) FIT (nI (lf j)) (nI m)) fX (-2) (nI (q + 1)) (upd seats j (nI (lf j + q))) left' sit' oc' first' sa' := by
          rw [sX]
          generalize it8 (m_X5_wants_55 (nI z) subj col cw (nI k) ch (nI j) FIT (nI (lf j)) (nI m)) fX = rec
          unfold m_X5_wants_55
          rw [if_neg g2, if_pos rfl, i16, gd_tt, cl, nI_add, hf, e1, bk6, lt_t, lt_t, nI_1]
        have tM : it5 (m_X6_wants_37 0 (nI n) (nI z) (nI k) msubj mcol mch OP (nI j) (nI (pop FIT)) (nI (lf j))) (fM + 1) (-2) (nI q) g mleft msat = if who = FIT then it5 (m_X6_wants_37 0 (nI n) (nI z) (nI k) msubj mcol mch OP (nI j) (nI (pop FIT)) (nI (lf j))) fM (nI q) (nI (q + 1)) (upd mseats j (nI (lf j + q))) mleft' msat' else it5 (m_X6_wants_37 0 (nI n) (nI z) (nI k) msubj mcol mch OP (nI j) (nI (pop FIT)) (nI (lf j))) fM (-2) (nI (q + 1)) (upd mseats j (nI (lf j + q))) mleft' msat' := by
          rw [sM]
          generalize it5 (m_X6_wants_37 0 (nI n) (nI z) (nI k) msubj mcol mch OP (nI j) (nI (pop FIT)) (nI (lf j))) fM = rec
          unfold m_X6_wants_37
          rw [if_neg g1, if_neg (show ¬ (0 : Int32) ≤ -2 by decide), i17, gd_tt, cl, nI_add, hg, e2, bk3, bits_eq, bk1, lt_t, lt_t, nI_1]
          by_cases h : who = FIT
          · rw [if_pos h, if_pos (hpop.mpr h)]
          · rw [if_neg h, if_neg (fun e => h (hpop.mp e))]
        rw [tX, tM]
        by_cases hw : who = FIT
        · rw [if_pos hw, if_pos hw]
          cases fX with
          | zero => exact absurd hX (by omega)
          | succ fX =>
            cases fM with
            | zero => exact absurd hM (by omega)
            | succ fM =>
              refine ⟨nI q, left', sit', oc', first', sa', mleft', msat', ?_, ?_⟩
              · show m_X5_wants_55 (nI z) subj col cw (nI k) ch (nI j) FIT (nI (lf j)) (nI m) (it8 (m_X5_wants_55 (nI z) subj col cw (nI k) ch (nI j) FIT (nI (lf j)) (nI m)) fX) (nI q) (nI (q + 1)) (upd seats j (nI (lf j + q))) left' sit' oc' first' sa' = _
                generalize it8 (m_X5_wants_55 (nI z) subj col cw (nI k) ch (nI j) FIT (nI (lf j)) (nI m)) fX = rec
                unfold m_X5_wants_55 m_X5_wants_112
                rw [if_neg (nI_nm2 (show q < 2 ^ 31 by omega)), i16, gd_tt, cl, upd_upd, hsx, upd_self]
                split <;> rfl
              · show m_X6_wants_37 0 (nI n) (nI z) (nI k) msubj mcol mch OP (nI j) (nI (pop FIT)) (nI (lf j)) (it5 (m_X6_wants_37 0 (nI n) (nI z) (nI k) msubj mcol mch OP (nI j) (nI (pop FIT)) (nI (lf j))) fM) (nI q) (nI (q + 1)) (upd mseats j (nI (lf j + q))) mleft' msat' = _
                generalize it5 (m_X6_wants_37 0 (nI n) (nI z) (nI k) msubj mcol mch OP (nI j) (nI (pop FIT)) (nI (lf j))) fM = rec
                unfold m_X6_wants_37 m_X6_wants_86
                rw [if_pos (nI_pos' (show q < 2 ^ 31 by omega)), i17, gd_tt, cl, upd_upd, hsj, upd_self]
                split <;> rfl
        · rw [if_neg hw, if_neg hw]
          refine ih (q + 1) fX fM (upd seats j (nI (lf j + q))) left' sit' oc' first' sa' (upd mseats j (nI (lf j + q))) mleft' msat' (by omega) (by omega) (by omega) (fun y => upd_upd) (fun y => upd_upd) (fun hd => ?_)
          have : q = m := by omega
          subst this
          exact ⟨who, lf', s2, fun e => hw (hpop.mp e)⟩
theorem mostTab : ∀ k, k < 25 → ∀ l, l < 31 → (if (if (0 : Int32) < nI k - nI l then nI k - nI l else 0) < 30 then (if (0 : Int32) < nI k - nI l then nI k - nI l else 0) else 30) = nI (k - l) := by decide +kernel
theorem sim_wants : Sim_wants := by
  intro tc told ts tg cc rc sz bars subj teach seats col cw rs rk rch sl ss so sf ssa mt row tp tape mc mr mm mbars msubj mteach mseats mcol mp mk mch mth mopen mleft msat v1 hR
  have hR0 := hR
  obtain ⟨hrow, htext, ⟨rfl, rfl, rfl, n, r, z, ⟨hn1, hn6, rfl⟩, ⟨hr1, hr9, rfl⟩, ⟨hz, rfl⟩, hbars, hsec, hcw, hroom⟩, ⟨rfl, rfl, k, hk, rfl, hch⟩⟩ := hR
  have hz' : z < 2 ^ 31 := by omega
  by_cases h : 0 ≤ v1.toInt ∧ v1.toInt < z
  · obtain ⟨j, hj, rfl⟩ := rng_of h hz'
    have i16 : inb (nI j) 16 = true := inb_nI (by omega) (by decide)
    have i17 : inb (nI j) 17 = true := inb_nI (by omega) (by decide)
    have cl : (nI j).toNatClampNeg = j := nI_clamp (by omega)
    obtain ⟨lf, l1, l2, l3⟩ := hsec.lf
    obtain ⟨f1, f2⟩ := fit_rel hn6 hz hk hsec hcw hch mopen
    have hl := l3 j hj
    obtain ⟨r', left', sit', oc', first', sa', mleft', msat', e1, e2⟩ := wants_loop hn6 hz hk hj hsec hcw hch l1 l2 l3 (loN msubj mcol (loZ mopen 10) z) (m := k - lf j) (by omega) (by omega) rfl (k - lf j + 1) 0 1100 1100 seats sl ss so sf ssa mseats mleft msat (by omega) (by omega) (by omega) (fun _ => rfl) (fun _ => rfl) (fun hd => absurd hd (by omega))
    rw [nI_0] at e1 e2
    have ex : m_X5_wants (nI z) subj seats col cw (nI k) rch sl ss so sf ssa (nI j) = some (r', seats, left', sit', oc', first', sa') := by
      unfold m_X5_wants
      rw [X0_has_eq hz', if_pos h, bk1, if_neg (by decide), f1, bk1, i16, gd_tt, cl, lt_t, (l1 j hj).1, lt_t, mostTab k (by omega) (lf j) (by omega)]
      exact e1
    have em : m_X6_wants mth (nI n) (nI z) (nI k) msubj mseats mcol mch mopen mleft msat (nI j) = some (r', 0, mseats, loN msubj mcol (loZ mopen 10) z, mleft', msat') := by
      unfold m_X6_wants
      rw [X6_isSection_eq hz', if_pos h, bk1, if_neg (by decide), f2, bk2, bits_eq, bk1, i17, gd_tt, cl, lt_t, (l2 j hj).1]
      exact e2
    exact ⟨_, _, _, _, _, _, _, _, _, _, _, _, ex, em, hR0⟩
  · unfold m_X5_wants m_X6_wants
    simp only [X0_has_eq hz', X6_isSection_eq hz', h, bk1, ↓reduceIte]
    exact ⟨_, _, _, _, _, _, _, _, _, _, _, _, rfl, rfl, hR0⟩
