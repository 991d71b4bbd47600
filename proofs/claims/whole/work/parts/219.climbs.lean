/-! climbs -/
theorem climb_rel {n r z k m : Nat} (hn : n ≤ 6) (hr : r ≤ 9) (hz : z ≤ 16) (hk : k ≤ 24) (hm : m ≤ 30) {bars mbars subj teach seats msubj mteach mseats ch mch : Nat → Int32} (hb : ∀ t : Nat, t < 10 → bars t = mbars t) (hr2 : okRoll k ch mch) (kept : Int32) (tc : Int32) (told : Nat → Int64) (mt : Int32) (row : Nat → Int32) :
    ∀ (d i fx fm : Nat) (col cw mcol o : Nat → Int32) (bthen : Int32), i + d = m → d < fx → d + 1 < fm → RSec n z subj teach seats col msubj mteach mseats mcol → RCw z subj col cw → (∀ c : Nat, c < n → inCol col c z ≤ r) →
    ∃ (col' cw' mcol' o' : Nat → Int32) (bt' : Int32) (e : Nat), it4 (m_X5_climbs_20 tc (nI n) (nI r) (nI z) bars subj teach (nI k) kept ch told (nI m)) fx (fitC z subj col ch k) (nI i) col cw = m_X5_climbs_70 tc col' cw' told (fitC z subj col' ch k) (nI e) ∧
      it5 (m_X6_climbs_23 0 mt (nI n) (nI r) (nI z) (nI k) kept row msubj mteach mbars mch (nI m)) fm (nI i) 1 bthen mcol o = m_X6_climbs_74 0 mt (nI z) (nI k) bt' row msubj mcol' mch o' (nI e) ∧
      RSec n z subj teach seats col' msubj mteach mseats mcol' ∧ RCw z subj col' cw' ∧ (∀ c : Nat, c < n → inCol col' c z ≤ r) := by
  intro d
  induction d with
  | zero =>
    intro i fx fm col cw mcol o bthen hi hfx hfm hsec hcw hroom
    cases fx with
    | zero => exact absurd hfx (by omega)
    | succ fx =>
      cases fm with
      | zero => exact absurd hfm (by omega)
      | succ fm =>
        have e : i = m := by omega
        subst e
        refine ⟨col, cw, mcol, o, bthen, i, ?_, ?_, hsec, hcw, hroom⟩
        · show m_X5_climbs_20 _ _ _ _ _ _ _ _ _ _ _ _ _ _ _ _ _ = _
          unfold m_X5_climbs_20; rw [if_pos (Int32.le_refl _)]
        · show m_X6_climbs_23 _ _ _ _ _ _ _ _ _ _ _ _ _ _ _ _ _ _ _ = _
          unfold m_X6_climbs_23; rw [if_pos (Int32.le_refl _)]
  | succ d ih =>
    intro i fx fm col cw mcol o bthen hi hfx hfm hsec hcw hroom
    cases fx with
    | zero => exact absurd hfx (by omega)
    | succ fx =>
      cases fm with
      | zero => exact absurd hfm (by omega)
      | succ fm =>
        have hge : ¬ nI m ≤ nI i := nI_ge (by omega) (by omega)
        obtain ⟨f, q, o2, eX, eM, hf⟩ := best_rel hn hr hz hk hb hsec hcw hr2 kept bthen o
        have sX : it4 (m_X5_climbs_20 tc (nI n) (nI r) (nI z) bars subj teach (nI k) kept ch told (nI m)) (fx + 1) (fitC z subj col ch k) (nI i) col cw = m_X5_climbs_20 tc (nI n) (nI r) (nI z) bars subj teach (nI k) kept ch told (nI m) (it4 (m_X5_climbs_20 tc (nI n) (nI r) (nI z) bars subj teach (nI k) kept ch told (nI m)) fx) (fitC z subj col ch k) (nI i) col cw := rfl
        have sM : it5 (m_X6_climbs_23 0 mt (nI n) (nI r) (nI z) (nI k) kept row msubj mteach mbars mch (nI m)) (fm + 1) (nI i) 1 bthen mcol o = m_X6_climbs_23 0 mt (nI n) (nI r) (nI z) (nI k) kept row msubj mteach mbars mch (nI m) (it5 (m_X6_climbs_23 0 mt (nI n) (nI r) (nI z) (nI k) kept row msubj mteach mbars mch (nI m)) fm) (nI i) 1 bthen mcol o := rfl
        rw [sX, sM]
        rcases hf with rfl | ⟨j, c, hj, hc, hmv, rfl, rfl⟩
        · cases fm with
          | zero => exact absurd hfm (by omega)
          | succ fm =>
            refine ⟨col, cw, mcol, o2, nI q, i, ?_, ?_, hsec, hcw, hroom⟩
            · generalize it4 (m_X5_climbs_20 tc (nI n) (nI r) (nI z) bars subj teach (nI k) kept ch told (nI m)) fx = rec
              unfold m_X5_climbs_20 m_X5_climbs_39
              rw [if_neg hge, eX, bk3, if_pos rfl]
            · have s2 : ∀ b o, it5 (m_X6_climbs_23 0 mt (nI n) (nI r) (nI z) (nI k) kept row msubj mteach mbars mch (nI m)) (fm + 1) (nI i) 0 b mcol o = m_X6_climbs_74 0 mt (nI z) (nI k) b row msubj mcol mch o (nI i) := by
                intro b o
                show m_X6_climbs_23 0 mt (nI n) (nI r) (nI z) (nI k) kept row msubj mteach mbars mch (nI m) (it5 (m_X6_climbs_23 0 mt (nI n) (nI r) (nI z) (nI k) kept row msubj mteach mbars mch (nI m)) fm) (nI i) 0 b mcol o = _
                generalize it5 (m_X6_climbs_23 0 mt (nI n) (nI r) (nI z) (nI k) kept row msubj mteach mbars mch (nI m)) fm = rec
                unfold m_X6_climbs_23
                rw [if_neg hge, if_pos rfl]
              generalize it5 (m_X6_climbs_23 0 mt (nI n) (nI r) (nI z) (nI k) kept row msubj mteach mbars mch (nI m)) (fm + 1) = rec at s2
              unfold m_X6_climbs_23 m_X6_climbs_48
              rw [if_neg hge, if_neg (by decide), eM, bk4, if_pos (by decide), if_pos rfl, s2]
        · have hv : okMv n (nI c) (nI c) := Or.inr ⟨c, hc, rfl, rfl⟩
          obtain ⟨q1, ⟨a, ha, q2⟩, q3, ⟨t, ht, q4⟩, q5, q6, q7⟩ := hsec j hj
          obtain ⟨d1, d2⟩ := hund (show j < 16 by omega) (show c < 6 by omega)
          have hsec' := hsec.mv (j := j) hv
          have hcw' := RCw_place hn hz ha hsec.ok (q1.trans q2) hcw hv.cls
          have hroom' := rooms_mv hz hj hroom hn hc (of_decide_eq_true hmv).2
          obtain ⟨col', cw', mcol', o', bt', e, h1, h2, h3⟩ := ih (i + 1) fx fm _ _ _ o2 (nI (pop (fitC z subj (upd col j (nI c)) ch k))) (by omega) (by omega) (by omega) hsec' hcw' hroom'
          refine ⟨col', cw', mcol', o', bt', e, ?_, ?_, h3⟩
          · rw [← h1]
            generalize it4 (m_X5_climbs_20 tc (nI n) (nI r) (nI z) bars subj teach (nI k) kept ch told (nI m)) fx = rec
            unfold m_X5_climbs_20
            rw [if_neg hge, eX, bk3, if_neg (nI_nm2 (by omega)), d2, d1, nz100, gd_tt, gd_tt, place_eq hz (by omega) ha (q1.trans q2), bk2, fitX hn hz hk hsec'.ok hcw' hr2, bk1, lt_t, nI_1]
          · rw [← h2]
            generalize it5 (m_X6_climbs_23 0 mt (nI n) (nI r) (nI z) (nI k) kept row msubj mteach mbars mch (nI m)) fm = rec
            have i17 : inb (nI j) 17 = true := inb_nI (by omega) (by decide)
            have cl : (nI j).toNatClampNeg = j := nI_clamp (by omega)
            unfold m_X6_climbs_23 m_X6_climbs_48
            rw [if_neg hge, if_neg (by decide), eM, bk4, if_neg (nI_neg (by omega)), if_neg (by decide), d2, d1, nz100, gd_tt, gd_tt, i17, gd_tt, lt_t, nI_1, cl]
theorem sim_climbs : Sim_climbs := by
  intro tc told ts tg cc rc sz bars subj teach seats col cw rs rk rch mt row tp tape mc mr mm mbars msubj mteach mseats mcol mp mk mch mth mbt mopen v1 hR
  have hR0 := hR
  obtain ⟨hrow, htext, ⟨rfl, rfl, rfl, n, r, z, ⟨hn1, hn6, rfl⟩, ⟨hr1, hr9, rfl⟩, ⟨hz, rfl⟩, hbars, hsec, hcw, hroom⟩, ⟨rfl, rfl, k, hk, rfl, hch⟩⟩ := hR
  unfold m_X5_climbs m_X6_climbs
  have ein : m_X6_in v1.toInt64 1 30 = some (if 1 ≤ v1.toInt ∧ v1.toInt ≤ 30 then 1 else 0) := in_eq v1 1 30
  rw [ein]
  by_cases h : 1 ≤ v1.toInt ∧ v1.toInt ≤ 30
  · obtain ⟨m, hm1, hm6, rfl⟩ : ∃ m : Nat, 1 ≤ m ∧ m ≤ 30 ∧ v1 = nI m := ⟨v1.toInt.toNat, by omega, by omega, Int32.toInt_inj.mp (by rw [nI_toInt (by omega)]; omega)⟩
    have g1 : ¬ nI m < 1 := by rw [show (1 : Int32) = nI 1 from rfl, nI_ltI (by omega) (by omega)]; omega
    have g2 : nI m ≤ 30 := by rw [show (30 : Int32) = nI 30 from rfl, nI_leI (by omega) (by omega)]; omega
    obtain ⟨col', cw', mcol', o', bt', e, h1, h2, h3, h4, h5⟩ := climb_rel hn6 hr9 hz hk hm6 hbars hch rk tc told mt row m 0 1100 1100 col cw mcol mopen mbt (by omega) (by omega) (by omega) hsec hcw hroom
    rw [if_pos h, if_neg g1, if_pos g2, bk1, if_neg (by decide), fitX hn6 hz hk hsec.ok hcw hch, bk1]
    rw [nI_0] at h1 h2
    rw [h1, h2]
    unfold m_X5_climbs_70 m_X6_climbs_74
    simp only [bitCount_eq, bits_eq, fitM hn6 hz hk h3 hch, bk1, bk2, tell1_eq, notes1_eq]
    exact ⟨_, _, _, _, _, _, _, _, _, _, _, rfl, rfl, RRow_1 _ _ _, htext, ⟨rfl, rfl, rfl, n, r, z, ⟨hn1, hn6, rfl⟩, ⟨hr1, hr9, rfl⟩, ⟨hz, rfl⟩, hbars, h3, h4, h5⟩, ⟨rfl, rfl, k, hk, rfl, hch⟩⟩
  · simp only [if_neg h, bk1, ↓reduceIte]
    by_cases g1 : v1 < 1
    · rw [if_pos g1]; exact ⟨_, _, _, _, _, _, _, _, _, _, _, rfl, rfl, hR0⟩
    · rw [if_neg g1]
      by_cases g2 : v1 ≤ 30
      · exfalso
        rw [Int32.lt_iff_toInt_lt, show (1 : Int32).toInt = 1 from rfl] at g1
        rw [Int32.le_iff_toInt_le, show (30 : Int32).toInt = 30 from rfl] at g2
        omega
      · rw [if_neg g2]; exact ⟨_, _, _, _, _, _, _, _, _, _, _, rfl, rfl, hR0⟩
/-! spare -/
theorem wy_mono {cw cv : Nat → Int32} : ∀ {S : List Nat} {u : Nat}, (∀ s ∈ S, ∀ c, c < 6 → bt (cw s) c = true → bt (cv s) c = true) → wy cw S u = true → wy cv S u = true
  | [], _, _, _ => rfl
  | s :: S, u, h, hw => by
    obtain ⟨c, hc, h1, h2, h3⟩ := (wy_iff cw s S u).mp hw
    exact (wy_iff cv s S u).mpr ⟨c, hc, h s List.mem_cons_self c hc h1, h2, wy_mono (fun s' hs' => h s' (List.mem_cons_of_mem _ hs')) h3⟩
theorem countP_sub {p q : Nat → Bool} : ∀ {l : List Nat}, (∀ x ∈ l, p x = true → q x = true) → l.countP p ≤ l.countP q ∧ (l.countP p = l.countP q → ∀ x ∈ l, p x = q x)
  | [], _ => ⟨Nat.le_refl _, fun _ x hx => by cases hx⟩
  | a :: l, h => by
    obtain ⟨ih1, ih2⟩ := countP_sub (l := l) (fun x hx => h x (List.mem_cons_of_mem _ hx))
    have ha := h a List.mem_cons_self
    rw [List.countP_cons, List.countP_cons]
    cases ep : p a
    · cases eq : q a
      · simp only [Bool.false_eq_true, if_false, Nat.add_zero]
        exact ⟨ih1, fun e x hx => (List.mem_cons.mp hx).elim (fun e1 => by rw [e1, ep, eq]) (fun e1 => ih2 e x e1)⟩
      · simp only [Bool.false_eq_true, if_false, if_true, Nat.add_zero]
        exact ⟨by omega, fun e => absurd e (by omega)⟩
    · rw [ha ep]
      simp only [if_true]
      exact ⟨by omega, fun e x hx => (List.mem_cons.mp hx).elim (fun e1 => by rw [e1, ep, ha ep]) (fun e1 => ih2 (by omega) x e1)⟩
theorem pop_sub {x y : Int32} (h : ∀ i, i < 32 → bt x i = true → bt y i = true) : pop x ≤ pop y ∧ (pop x = pop y → x = y) := by
  obtain ⟨h1, h2⟩ := countP_sub (p := fun i => bt x i) (q := fun i => bt y i) (l := List.range 32) (fun i hi hp => h i (List.mem_range.mp hi) hp)
  exact ⟨h1, fun e => b_ext (fun i hi => h2 e i (List.mem_range.mpr hi))⟩
theorem fitS_bt {cw ch : Nat → Int32} {k : Nat} (hk : k ≤ 24) (i : Nat) : bt (fitS cw ch k) i = (decide (i < k) && wy cw (bl (ch i)) 0) := msk_bt _ k (by omega) i
theorem fit_less {n z k j : Nat} (hn : n ≤ 6) (hz : z ≤ 16) (hk : k ≤ 24) {subj col ch : Nat → Int32} (hok : okSC n z subj col) : ∀ i, i < 32 → bt (fitC z subj (upd col j (-1)) ch k) i = true → bt (fitC z subj col ch k) i = true := by
  intro i _ h
  unfold fitC at h ⊢
  rw [fitS_bt hk, Bool.and_eq_true] at h ⊢
  refine ⟨h.1, wy_mono (fun s _ c hc hb => ?_) h.2⟩
  obtain ⟨q, hq, h1, h2⟩ := (cwW_bit hn hz (okSC_upd hok (Or.inl rfl)) s (by omega)).mp hb
  have hqj : q ≠ j := by
    rintro rfl
    rw [upd_s] at h2
    exact nI_nm1 (by omega) h2.symm
  rw [upd_n hqj] at h2
  exact (cwW_bit hn hz hok s (by omega)).mpr ⟨q, hq, h1, h2⟩
def nSp (P : Nat → Bool) : Nat → Nat
  | 0 => 0
  | i + 1 => nSp P i + (if P i = true then 1 else 0)
theorem nSp_eq (P : Nat → Bool) : ∀ z, nSp P z = (List.range z).countP P
  | 0 => rfl
  | z + 1 => by
    rw [nSp, nSp_eq P z, List.range_succ, List.countP_append]
    congr 1
    cases h : P z <;> simp [h]
def opSp (O : Nat → (Nat → Int32) → (Nat → Int32)) (o : Nat → Int32) : Nat → (Nat → Int32)
  | 0 => o
  | i + 1 => O i (opSp O o i)
theorem sim_spare : Sim_spare := by
  intro tc told ts tg cc rc sz bars subj teach seats col cw rs rk rch mt row tp tape mc mr mm mbars msubj mteach mseats mcol mp mk mch mth mopen hR
  have hR0 := hR
  obtain ⟨hrow, htext, ⟨rfl, rfl, rfl, n, r, z, ⟨hn1, hn6, rfl⟩, ⟨hr1, hr9, rfl⟩, ⟨hz, rfl⟩, hbars, hsec, hcw, hroom⟩, ⟨rfl, rfl, k, hk, rfl, hch⟩⟩ := hR
  unfold m_X5_spare m_X6_spare
  rw [fitX hn6 hz hk hsec.ok hcw hch, bk1, fitM hn6 hz hk hsec hch, bk2, bits_eq, bk1]
  have hv : okMv n (-1) (-2) := Or.inl ⟨rfl, rfl⟩
  have hpop : ∀ i, nI (pop (fitC z subj (upd col i (-1)) rch k)) = nI (pop (fitC z subj col rch k)) ↔ fitC z subj (upd col i (-1)) rch k = fitC z subj col rch k := by
    intro i
    obtain ⟨h1, h2⟩ := pop_sub (fit_less (j := i) hn6 hz hk (ch := rch) hsec.ok)
    constructor
    · intro e
      exact h2 (nI_inj (by have := pop_le (fitC z subj (upd col i (-1)) rch k); omega) (by have := pop_le (fitC z subj col rch k); omega) e)
    · intro e; rw [e]
  have eX : it4 (m_X5_spare_9 tc (nI z) subj (nI k) rch told (fitC z subj col rch k)) 1100 0 0 col cw = m_X5_spare_43 tc (nI z) col cw told (msk (fun i => decide (fitC z subj (upd col i (-1)) rch k = fitC z subj col rch k)) z) := by
    refine seq4 (z := z) (fun i => msk (fun i => decide (fitC z subj (upd col i (-1)) rch k = fitC z subj col rch k)) i) (fun i => nI i) (fun _ => col) (fun _ => cw) (by omega) (fun rec => ?_) (fun rec i hi => ?_)
    · unfold m_X5_spare_9; rw [if_pos (Int32.le_refl _)]
    · unfold m_X5_spare_9
      simp only [nI_ge hi (show z < 2 ^ 31 by omega), ↓reduceIte, moved_eq hn6 hz hk hi hsec.ok hcw hv.cls, bk3, lt_t, nI_1, msk]
      by_cases h : fitC z subj (upd col i (-1)) rch k = fitC z subj col rch k
      · simp only [h, ↓reduceIte, decide_true]
      · simp only [h, ↓reduceIte, decide_false, Bool.false_eq_true, b_or0]
  generalize loN msubj mcol (loZ mopen 10) z = o1
  have eM : it5 (m_X6_spare_20 0 mt (nI z) (nI k) row msubj mch (nI (pop (fitC z subj col rch k)))) 1100 0 0 0 mcol o1 = m_X6_spare_83 0 mt row mcol (opSp (fun i o => loN msubj (upd mcol i (-2)) (loZ o 10) z) o1 z) (msk (fun i => decide (fitC z subj (upd col i (-1)) rch k = fitC z subj col rch k)) z) (nI (nSp (fun i => decide (fitC z subj (upd col i (-1)) rch k = fitC z subj col rch k) && decide (col i = -1)) z)) := by
    refine seq5 (z := z) (fun i => msk (fun i => decide (fitC z subj (upd col i (-1)) rch k = fitC z subj col rch k)) i) (fun i => nI (nSp (fun i => decide (fitC z subj (upd col i (-1)) rch k = fitC z subj col rch k) && decide (col i = -1)) i)) (fun i => nI i) (fun _ => mcol) (opSp (fun i o => loN msubj (upd mcol i (-2)) (loZ o 10) z) o1) (by omega) (fun rec => ?_) (fun rec i hi => ?_)
    · unfold m_X6_spare_20; rw [if_pos (Int32.le_refl _)]
    · have i17 : inb (nI i) 17 = true := inb_nI (by omega) (by decide)
      have cl : (nI i).toNatClampNeg = i := nI_clamp (by omega)
      have hcI : (col i = -1) ↔ (mcol i = -2) := hsec.outI hn6 hi
      unfold m_X6_spare_20 m_X6_spare_72
      simp only [nI_ge hi (show z < 2 ^ 31 by omega), ↓reduceIte, by_eq hn6 hz hk hi hsec hch hv, bk3, bits_eq, bk1, lt_t, i17, gd_tt, cl, nI_1, msk, nSp, opSp, hpop, ← hcI, m_X6_flag, e10]
      by_cases h : fitC z subj (upd col i (-1)) rch k = fitC z subj col rch k
      · by_cases h2 : col i = -1
        · simp only [h, h2, ↓reduceIte, decide_true, Bool.and_self, nI_1]
        · simp only [h, h2, ↓reduceIte, decide_true, decide_false, Bool.and_false, Bool.false_eq_true, Nat.add_zero, Int32.add_zero]
      · simp only [h, ↓reduceIte, decide_false, Bool.false_and, Bool.false_eq_true, b_or0, Nat.add_zero]
  rw [eX, eM]
  unfold m_X5_spare_43 m_X6_spare_83
  have ep : pop (msk (fun i => decide (fitC z subj (upd col i (-1)) rch k = fitC z subj col rch k)) z &&& msk (fun i => decide (col i = -1)) z) = nSp (fun i => decide (fitC z subj (upd col i (-1)) rch k = fitC z subj col rch k) && decide (col i = -1)) z := by
    rw [msk_and (by omega), pop_msk _ (by omega), nSp_eq]
  simp only [sectionsIn_eq hz, bk1, bitCount_eq, ep, tell1_eq, notes1_eq, bk2]
  exact ⟨_, _, _, _, _, _, _, _, _, _, rfl, rfl, RRow_1 _ _ _, hR0.2⟩
