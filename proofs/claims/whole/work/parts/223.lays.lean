def LFin (n r z k : Nat) (subj teach seats msubj mteach mseats ch mch : Nat → Int32) (tc : Int32) (told : Nat → Int64) (mt : Int32) (row dm : Nat → Int32) (X : Option (Int32 × Int32 × (Nat → Int32) × (Nat → Int32) × (Nat → Int32) × (Nat → Int64))) (M : Option (Int32 × Int32 × Int32 × (Nat → Int32) × (Nat → Int32) × (Nat → Int32))) : Prop :=
  ∃ col cw mcol o : Nat → Int32, X = m_X5_lays_107 tc (nI z) col cw (nI k) ch dm told ∧ M = m_X6_lays_86 0 mt (nI z) (nI k) row msubj mcol mch o (nI (nSp (fun q => decide (¬ col q = -1)) z)) ∧ RSec n z subj teach seats col msubj mteach mseats mcol ∧ RCw z subj col cw ∧ (∀ c : Nat, c < n → inCol col c z ≤ r)
theorem lays_inner {n r z k w : Nat} (hn : n ≤ 6) (hr : r ≤ 9) (hz : z ≤ 16) (hk : k ≤ 24) (hw : w ≤ 24) {bars mbars subj teach seats msubj mteach mseats ch mch : Nat → Int32} (hb : ∀ t : Nat, t < 10 → bars t = mbars t) (hr2 : okRoll k ch mch) (tc : Int32) (told : Nat → Int64) (mt : Int32) (row : Nat → Int32) {dm : Nat → Int32} {D : Nat → Nat} (hD : ∀ q, D q = pop (msk (fun p => bt (mch p) (msubj q).toNatClampNeg) k)) (hdm : ∀ q, q < z → dm q = nI (D q))
    {rec63 : Int32 → (Nat → Int32) → (Nat → Int32) → Option (Int32 × Int32 × (Nat → Int32) × (Nat → Int32) × (Nat → Int32) × (Nat → Int64))}
    (hcont : ∀ (fm : Nat) (col cw mcol o : Nat → Int32), 17 * w < fm → RSec n z subj teach seats col msubj mteach mseats mcol → RCw z subj col cw → (∀ c : Nat, c < n → inCol col c z ≤ r) → (∀ q, q < z → toLay D w z q = true → col q = -1) →
      LFin n r z k subj teach seats msubj mteach mseats ch mch tc told mt row dm (rec63 (nI w + (-1)) col cw) (it4 (m_X6_lays_40 0 mt (nI n) (nI r) (nI z) (nI k) row msubj mteach mbars mch) fm (nI (nSp (fun q => decide (¬ col q = -1)) z)) (msk (toLay D w z) z) mcol o)) :
    ∀ (e i fi fm : Nat) (col cw mcol o : Nat → Int32), i + e = z → e < fi → 17 * w + e < fm → RSec n z subj teach seats col msubj mteach mseats mcol → RCw z subj col cw → (∀ c : Nat, c < n → inCol col c z ≤ r) → (∀ q, q < z → toLay D w i q = true → col q = -1) →
      LFin n r z k subj teach seats msubj mteach mseats ch mch tc told mt row dm (it3 (m_X5_lays_69 (nI n) (nI r) (nI z) bars subj teach (nI k) ch dm (nI w) rec63) fi (nI i) col cw) (it4 (m_X6_lays_40 0 mt (nI n) (nI r) (nI z) (nI k) row msubj mteach mbars mch) fm (nI (nSp (fun q => decide (¬ col q = -1)) z)) (msk (toLay D w i) z) mcol o) := by
  have hD32 : ∀ q, D q ≤ 32 := fun q => by rw [hD]; exact pop_le _
  intro e
  induction e with
  | zero =>
    intro i fi fm col cw mcol o hi hfi hfm hsec hcw hroom hout
    have : i = z := by omega
    subst this
    cases fi with
    | zero => exact absurd hfi (by omega)
    | succ fi =>
      have := hcont fm col cw mcol o (by omega) hsec hcw hroom hout
      have sX : it3 (m_X5_lays_69 (nI n) (nI r) (nI i) bars subj teach (nI k) ch dm (nI w) rec63) (fi + 1) (nI i) col cw = rec63 (nI w + (-1)) col cw := by
        show m_X5_lays_69 (nI n) (nI r) (nI i) bars subj teach (nI k) ch dm (nI w) rec63 (it3 (m_X5_lays_69 (nI n) (nI r) (nI i) bars subj teach (nI k) ch dm (nI w) rec63) fi) (nI i) col cw = _
        generalize it3 (m_X5_lays_69 (nI n) (nI r) (nI i) bars subj teach (nI k) ch dm (nI w) rec63) fi = rec
        unfold m_X5_lays_69
        rw [if_pos (Int32.le_refl _), lt_t]
      rw [sX]
      exact this
  | succ e ih =>
    intro i fi fm col cw mcol o hi hfi hfm hsec hcw hroom hout
    have hiz : i < z := by omega
    have i16 : inb (nI i) 16 = true := inb_nI (by omega) (by decide)
    have i17 : inb (nI i) 17 = true := inb_nI (by omega) (by decide)
    have cl : (nI i).toNatClampNeg = i := nI_clamp (by omega)
    cases fi with
    | zero => exact absurd hfi (by omega)
    | succ fi =>
      have sX : it3 (m_X5_lays_69 (nI n) (nI r) (nI z) bars subj teach (nI k) ch dm (nI w) rec63) (fi + 1) (nI i) col cw = m_X5_lays_69 (nI n) (nI r) (nI z) bars subj teach (nI k) ch dm (nI w) rec63 (it3 (m_X5_lays_69 (nI n) (nI r) (nI z) bars subj teach (nI k) ch dm (nI w) rec63) fi) (nI i) col cw := rfl
      rw [sX]
      have hIH := ih (i + 1) fi
      generalize it3 (m_X5_lays_69 (nI n) (nI r) (nI z) bars subj teach (nI k) ch dm (nI w) rec63) fi = rec at hIH ⊢
      unfold m_X5_lays_69
      rw [if_neg (nI_ge hiz (by omega)), i16, gd_tt, cl, hdm i hiz]
      have heq : nI (D i) = nI w ↔ D i = w := nI_eq (by have := hD32 i; omega) (by omega)
      by_cases hDi : D i = w
      · have hBi : toLay D w i i = true := decide_eq_true (Or.inr ⟨hDi, Nat.le_refl i⟩)
        obtain ⟨v, mv, cw', o', hv, eX, eM, hcw', hroom'⟩ := lay_rel hn hr hz hk hiz hb hsec hcw hroom hr2 (hout i hiz hBi) o
        rw [if_pos (heq.mpr hDi), eX, bk2, lt_t, nI_1]
        cases fm with
        | zero => exact absurd hfm (by omega)
        | succ fm =>
          have hih := hIH fm (upd col i v) cw' (upd mcol i mv) o' (by omega) (by omega) (by omega) (hsec.mv (j := i) hv) hcw' hroom' (fun q hq ht => by
            have h1 := of_decide_eq_true ht
            have hqi : q ≠ i := by
              rintro rfl
              omega
            rw [upd_n hqi]
            exact hout q hq (decide_eq_true (by omega)))
          have sM : it4 (m_X6_lays_40 0 mt (nI n) (nI r) (nI z) (nI k) row msubj mteach mbars mch) (fm + 1) (nI (nSp (fun q => decide (¬ col q = -1)) z)) (msk (toLay D w i) z) mcol o = m_X6_lays_40 0 mt (nI n) (nI r) (nI z) (nI k) row msubj mteach mbars mch (it4 (m_X6_lays_40 0 mt (nI n) (nI r) (nI z) (nI k) row msubj mteach mbars mch) fm) (nI (nSp (fun q => decide (¬ col q = -1)) z)) (msk (toLay D w i) z) mcol o := rfl
          rw [sM]
          generalize it4 (m_X6_lays_40 0 mt (nI n) (nI r) (nI z) (nI k) row msubj mteach mbars mch) fm = recM at hih ⊢
          have hne : ¬ msk (toLay D w i) z = 0 := by
            intro h0
            have := msk_bt (toLay D w i) z (by omega) i
            rw [h0, b_0, hBi] at this
            simp [hiz] at this
          have hnx : nxt D (toLay D w i) z = some i := by
            have := nxt_at (D := D) (B := toLay D w i) (w := w) (i := i) (fun q hq hB => by have := of_decide_eq_true hB; omega) hBi hDi (fun q hq hB => by have := of_decide_eq_true hB; omega) e
            rw [show i + 1 + e = z by omega] at this
            exact this
          have hx : msk (toLay D w i) z ^^^ ((1 : Int32) <<< (nI i &&& 31)) = msk (toLay D w (i + 1)) z := by
            refine b_ext (fun q hq => ?_)
            rw [b_xor, msk_bt _ z (by omega), msk_bt _ z (by omega), p_bit (by omega) hq]
            by_cases eq : q = i
            · subst eq
              have : toLay D w (q + 1) q = false := decide_eq_false (by omega)
              simp [hBi, this, hiz]
            · have : toLay D w i q = toLay D w (i + 1) q := decide_eq_decide.mpr (by omega)
              simp [this, eq]
          unfold m_X6_lays_40 m_X6_lays_72
          rw [if_neg hne, next_eq hz hk hsec.sub hD, bk1, hnx]
          simp only [fndW, eM, bk2, i17, gd_tt, cl, upd_s, m_X6_flag, bk1, lt_t, hx, e10, ↓reduceIte]
          rw [nSp_upd (hout i hiz hBi)] at hih
          rcases hv with ⟨rfl, rfl⟩ | ⟨c, hc, rfl, rfl⟩
          · simp only [↓reduceIte, Int32.add_zero]
            rw [if_neg (fun q => q.2 rfl), Nat.add_zero] at hih
            exact hih
          · simp only [nI_nm2 (show c < 2 ^ 31 by omega), ↓reduceIte, nI_1]
            rw [if_pos ⟨hiz, nI_nm1 (by omega)⟩] at hih
            exact hih
      · rw [if_neg (fun q => hDi (heq.mp q)), lt_t, nI_1]
        have hm : msk (toLay D w i) z = msk (toLay D w (i + 1)) z := msk_congr (fun q hq => decide_eq_decide.mpr (by
          constructor
          · rintro (h | ⟨h1, h2⟩)
            · exact Or.inl h
            · right
              refine ⟨h1, ?_⟩
              have : q ≠ i := by rintro rfl; exact hDi h1
              omega
          · rintro (h | ⟨h1, h2⟩)
            · exact Or.inl h
            · exact Or.inr ⟨h1, by omega⟩))
        rw [hm]
        exact hIH fm col cw mcol o (by omega) (by omega) (by omega) hsec hcw hroom (fun q hq ht => hout q hq (by
          have h1 := of_decide_eq_true ht
          exact decide_eq_true (by omega)))
theorem lays_outer {n r z k : Nat} (hn : n ≤ 6) (hr : r ≤ 9) (hz : z ≤ 16) (hk : k ≤ 24) {bars mbars subj teach seats msubj mteach mseats ch mch : Nat → Int32} (hb : ∀ t : Nat, t < 10 → bars t = mbars t) (hr2 : okRoll k ch mch) (tc : Int32) (told : Nat → Int64) (mt : Int32) (row : Nat → Int32) {dm : Nat → Int32} {D : Nat → Nat} (hD : ∀ q, D q = pop (msk (fun p => bt (mch p) (msubj q).toNatClampNeg) k)) (hdm : ∀ q, q < z → dm q = nI (D q)) :
    ∀ (w fo fm : Nat) (col cw mcol o : Nat → Int32), w ≤ 24 → w + 1 < fo → 17 * w + 17 < fm → RSec n z subj teach seats col msubj mteach mseats mcol → RCw z subj col cw → (∀ c : Nat, c < n → inCol col c z ≤ r) → (∀ q, q < z → toLay D w 0 q = true → col q = -1) →
      LFin n r z k subj teach seats msubj mteach mseats ch mch tc told mt row dm (it3 (m_X5_lays_63 tc (nI n) (nI r) (nI z) bars subj teach (nI k) ch dm told) fo (nI w) col cw) (it4 (m_X6_lays_40 0 mt (nI n) (nI r) (nI z) (nI k) row msubj mteach mbars mch) fm (nI (nSp (fun q => decide (¬ col q = -1)) z)) (msk (toLay D w 0) z) mcol o) := by
  intro w
  induction w with
  | zero =>
    intro fo fm col cw mcol o hw hfo hfm hsec hcw hroom hout
    cases fo with
    | zero => exact absurd hfo (by omega)
    | succ fo =>
      have sX : it3 (m_X5_lays_63 tc (nI n) (nI r) (nI z) bars subj teach (nI k) ch dm told) (fo + 1) (nI 0) col cw = it3 (m_X5_lays_69 (nI n) (nI r) (nI z) bars subj teach (nI k) ch dm (nI 0) (it3 (m_X5_lays_63 tc (nI n) (nI r) (nI z) bars subj teach (nI k) ch dm told) fo)) 1100 (nI 0) col cw := by
        show m_X5_lays_63 tc (nI n) (nI r) (nI z) bars subj teach (nI k) ch dm told (it3 (m_X5_lays_63 tc (nI n) (nI r) (nI z) bars subj teach (nI k) ch dm told) fo) (nI 0) col cw = _
        generalize it3 (m_X5_lays_63 tc (nI n) (nI r) (nI z) bars subj teach (nI k) ch dm told) fo = rec
        unfold m_X5_lays_63
        rw [if_neg (by decide), nI_0]
      rw [sX]
      refine lays_inner hn hr hz hk hw hb hr2 tc told mt row hD hdm ?_ z 0 1100 fm col cw mcol o (by omega) (by omega) (by omega) hsec hcw hroom hout
      intro fm col cw mcol o hfm hsec hcw hroom hout
      refine ⟨col, cw, mcol, o, ?_, ?_, hsec, hcw, hroom⟩
      · cases fo with
        | zero => exact absurd hfo (by omega)
        | succ fo =>
          show m_X5_lays_63 tc (nI n) (nI r) (nI z) bars subj teach (nI k) ch dm told (it3 (m_X5_lays_63 tc (nI n) (nI r) (nI z) bars subj teach (nI k) ch dm told) fo) (nI 0 + (-1)) col cw = _
          generalize it3 (m_X5_lays_63 tc (nI n) (nI r) (nI z) bars subj teach (nI k) ch dm told) fo = rec
          unfold m_X5_lays_63
          rw [if_pos (by decide)]
      · cases fm with
        | zero => exact absurd hfm (by omega)
        | succ fm =>
          have h0 : msk (toLay D 0 z) z = 0 := by
            refine b_ext (fun q hq => ?_)
            rw [msk_bt _ z (by omega), b_0]
            by_cases hqz : q < z
            · have : toLay D 0 z q = false := decide_eq_false (by omega)
              simp [this]
            · simp [hqz]
          show m_X6_lays_40 0 mt (nI n) (nI r) (nI z) (nI k) row msubj mteach mbars mch (it4 (m_X6_lays_40 0 mt (nI n) (nI r) (nI z) (nI k) row msubj mteach mbars mch) fm) (nI (nSp (fun q => decide (¬ col q = -1)) z)) (msk (toLay D 0 z) z) mcol o = _
          generalize it4 (m_X6_lays_40 0 mt (nI n) (nI r) (nI z) (nI k) row msubj mteach mbars mch) fm = rec
          unfold m_X6_lays_40
          rw [if_pos h0]
  | succ w ih =>
    intro fo fm col cw mcol o hw hfo hfm hsec hcw hroom hout
    cases fo with
    | zero => exact absurd hfo (by omega)
    | succ fo =>
      have sX : it3 (m_X5_lays_63 tc (nI n) (nI r) (nI z) bars subj teach (nI k) ch dm told) (fo + 1) (nI (w + 1)) col cw = it3 (m_X5_lays_69 (nI n) (nI r) (nI z) bars subj teach (nI k) ch dm (nI (w + 1)) (it3 (m_X5_lays_63 tc (nI n) (nI r) (nI z) bars subj teach (nI k) ch dm told) fo)) 1100 (nI 0) col cw := by
        show m_X5_lays_63 tc (nI n) (nI r) (nI z) bars subj teach (nI k) ch dm told (it3 (m_X5_lays_63 tc (nI n) (nI r) (nI z) bars subj teach (nI k) ch dm told) fo) (nI (w + 1)) col cw = _
        generalize it3 (m_X5_lays_63 tc (nI n) (nI r) (nI z) bars subj teach (nI k) ch dm told) fo = rec
        unfold m_X5_lays_63
        rw [if_neg (nI_neg (by omega)), nI_0]
      rw [sX]
      refine lays_inner hn hr hz hk hw hb hr2 tc told mt row hD hdm ?_ z 0 1100 fm col cw mcol o (by omega) (by omega) (by omega) hsec hcw hroom hout
      intro fm col cw mcol o hfm hsec hcw hroom hout
      have hm : msk (toLay D (w + 1) z) z = msk (toLay D w 0) z := msk_congr (fun q hq => decide_eq_decide.mpr (by omega))
      rw [pk_m1, hm]
      exact ih fo fm col cw mcol o (by omega) (by omega) (by omega) hsec hcw hroom (fun q hq ht => hout q hq (by
        have h1 := of_decide_eq_true ht
        exact decide_eq_true (by omega)))
/-! first all are out -/
def outF (f : Nat → Int32) (x : Int32) (i : Nat) : Nat → Int32 := fun q => if q < i then x else f q
theorem outF_0 (f : Nat → Int32) (x : Int32) : outF f x 0 = f := by funext q; unfold outF; rw [if_neg (by omega)]
theorem outF_s (f : Nat → Int32) (x : Int32) (i : Nat) : upd (outF f x i) i x = outF f x (i + 1) := by
  funext q
  by_cases e : q = i
  · subst e; rw [upd_s]; unfold outF; rw [if_pos (by omega)]
  · rw [upd_n e]; unfold outF
    by_cases h : q < i
    · rw [if_pos h, if_pos (by omega)]
    · rw [if_neg h, if_neg (by omega)]
def outW (z : Nat) (subj col cw : Nat → Int32) : Nat → (Nat → Int32)
  | 0 => cw
  | i + 1 => upd (outW z subj col cw i) (subj i).toNatClampNeg (cwW z subj (outF col (-1) (i + 1)) (subj i).toNatClampNeg)
def outD (D : Nat → Nat) (dm : Nat → Int32) : Nat → (Nat → Int32)
  | 0 => dm
  | i + 1 => upd (outD D dm i) i (nI (D i))
theorem outD_eq (D : Nat → Nat) (dm : Nat → Int32) : ∀ i q, q < i → outD D dm i q = nI (D q)
  | 0, q, h => absurd h (by omega)
  | i + 1, q, h => by
    rw [outD]
    by_cases e : q = i
    · subst e; rw [upd_s]
    · rw [upd_n e]; exact outD_eq D dm i q (by omega)
theorem okSC_out {n z : Nat} {subj col : Nat → Int32} (h : okSC n z subj col) (i : Nat) : okSC n z subj (outF col (-1) i) := fun q hq => by
  refine ⟨(h q hq).1, ?_⟩
  unfold outF
  by_cases e : q < i
  · rw [if_pos e]; exact Or.inl rfl
  · rw [if_neg e]; exact (h q hq).2
theorem outW_RCw {n z : Nat} (hn : n ≤ 6) (hz : z ≤ 16) {subj col cw : Nat → Int32} (hok : okSC n z subj col) (h : RCw z subj col cw) : ∀ i, i ≤ z → RCw z subj (outF col (-1) i) (outW z subj col cw i)
  | 0, _ => by rw [outF_0]; exact h
  | i + 1, hi => by
    have ih := outW_RCw hn hz hok h i (by omega)
    obtain ⟨⟨a, ha, hs⟩, -⟩ := hok i (by omega)
    have cl : (nI a).toNatClampNeg = a := nI_clamp (by omega)
    rw [outW, hs, cl, ← outF_s]
    exact RCw_place hn hz ha (okSC_out hok i) hs ih (Or.inl rfl)
theorem full_msk : ∀ z, z < 17 → ((1 : Int32) <<< (nI z &&& 31)) - 1 = msk (fun _ => true) z := by decide +kernel
theorem pop_msk_le (P : Nat → Bool) {k : Nat} (hk : k ≤ 32) : pop (msk P k) ≤ k := by
  rw [pop_msk P hk]
  exact Nat.le_trans List.countP_le_length (by simp)
theorem nSp_zero {P : Nat → Bool} : ∀ {z : Nat}, (∀ q, q < z → P q = false) → nSp P z = 0
  | 0, _ => rfl
  | z + 1, h => by rw [nSp, nSp_zero (fun q hq => h q (by omega)), h z (by omega)]; rfl
theorem inCol_out {col : Nat → Int32} {d : Nat} : ∀ {z : Nat}, (∀ q, q < z → ¬ col q = nI d) → inCol col d z = 0
  | 0, _ => rfl
  | z + 1, h => by rw [inCol, inCol_out (fun q hq => h q (by omega)), if_neg (h z (by omega))]
theorem sim_lays : Sim_lays := by
  intro tc told ts tg cc rc sz bars subj teach seats col cw rs rk rch xdm mt row tp tape mc mr mm mbars msubj mteach mseats mcol mp mk mch mth mopen hR
  have hR0 := hR
  obtain ⟨hrow, htext, ⟨rfl, rfl, rfl, n, r, z, ⟨hn1, hn6, rfl⟩, ⟨hr1, hr9, rfl⟩, ⟨hz, rfl⟩, hbars, hsec, hcw, hroom⟩, ⟨rfl, rfl, k, hk, rfl, hch⟩⟩ := hR
  unfold m_X5_lays m_X6_lays
  obtain ⟨D, hD⟩ : ∃ D : Nat → Nat, ∀ q, D q = pop (msk (fun p => bt (mch p) (msubj q).toNatClampNeg) k) := ⟨fun q => pop (msk (fun p => bt (mch p) (msubj q).toNatClampNeg) k), fun q => rfl⟩
  have eX : it4 (m_X5_lays_2 tc (nI n) (nI r) (nI z) bars subj teach (nI k) rch told) 1100 0 col cw xdm = it3 (m_X5_lays_63 tc (nI n) (nI r) (nI z) bars subj teach (nI k) rch (outD D xdm z) told) 1100 (nI k) (outF col (-1) z) (outW z subj col cw z) := by
    have := seq4 (b := m_X5_lays_2 tc (nI n) (nI r) (nI z) bars subj teach (nI k) rch told) (z := z) (E := it3 (m_X5_lays_63 tc (nI n) (nI r) (nI z) bars subj teach (nI k) rch (outD D xdm z) told) 1100 (nI k) (outF col (-1) z) (outW z subj col cw z)) (fun i => nI i) (fun i => outF col (-1) i) (outW z subj col cw) (outD D xdm) (by omega) (fun rec => ?_) (fun rec i hi => ?_)
    · simp only [outF_0] at this; exact this
    · unfold m_X5_lays_2; rw [if_pos (Int32.le_refl _)]
    · obtain ⟨q1, ⟨a, ha, q2⟩, -⟩ := hsec i hi
      have i16 : inb (nI i) 16 = true := inb_nI (by omega) (by decide)
      have cl : (nI i).toNatClampNeg = i := nI_clamp (by omega)
      have cla : (nI a).toNatClampNeg = a := nI_clamp (by omega)
      have hDi : D i = pop (msk (fun p => bt (mch p) a) k) := by rw [hD, q2, cla]
      unfold m_X5_lays_2
      simp only [nI_ge hi (show z < 2 ^ 31 by omega), ↓reduceIte, i16, gd_tt, cl, q1.trans q2, choosersOf_eq hk, chosen1 hch (show a < 32 by omega), bk1, bitCount_eq, ← hDi, place_eq hz (show i < 16 by omega) ha (q1.trans q2), bk2, lt_t, nI_1, outF_s, outW, outD, cla]
  have eM : it2 (m_X6_lays_7 0 mt (nI n) (nI r) (nI z) (nI k) row msubj mteach mbars mch mopen) 1100 0 mcol = m_X6_lays_29 0 mt (nI n) (nI r) (nI z) (nI k) row msubj mteach (outF mcol (-2) z) mbars mch mopen := by
    have := seq2 (b := m_X6_lays_7 0 mt (nI n) (nI r) (nI z) (nI k) row msubj mteach mbars mch mopen) (z := z) (E := m_X6_lays_29 0 mt (nI n) (nI r) (nI z) (nI k) row msubj mteach (outF mcol (-2) z) mbars mch mopen) (fun i => nI i) (fun i => outF mcol (-2) i) (by omega) (fun rec => ?_) (fun rec i hi => ?_)
    · simp only [outF_0] at this; exact this
    · unfold m_X6_lays_7; rw [if_pos (Int32.le_refl _)]
    · have i17 : inb (nI i) 17 = true := inb_nI (by omega) (by decide)
      have cl : (nI i).toNatClampNeg = i := nI_clamp (by omega)
      unfold m_X6_lays_7
      simp only [nI_ge hi (show z < 2 ^ 31 by omega), ↓reduceIte, i17, gd_tt, cl, lt_t, nI_1, outF_s]
  rw [eX, eM]
  unfold m_X6_lays_29
  rw [lt_t, full_msk z (by omega)]
  have hDk : ∀ q, D q ≤ k := fun q => by rw [hD]; exact pop_msk_le _ (by omega)
  have hm : msk (fun _ => true) z = msk (toLay D k 0) z := msk_congr (fun q hq => (decide_eq_true (by have := hDk q; omega)).symm)
  have hall : ∀ q, q < z → outF col (-1) z q = -1 := fun q hq => by unfold outF; rw [if_pos hq]
  have hsec' : RSec n z subj teach seats (outF col (-1) z) msubj mteach mseats (outF mcol (-2) z) := fun i hi => by
    obtain ⟨q1, q2, q3, q4, q5, q6, q7⟩ := hsec i hi
    refine ⟨q1, q2, q3, q4, q5, q6, Or.inl ?_⟩
    unfold outF
    rw [if_pos hi, if_pos hi]
    exact ⟨rfl, rfl⟩
  have hn0 : nSp (fun q => decide (¬ outF col (-1) z q = -1)) z = 0 := nSp_zero (fun q hq => decide_eq_false (fun h => h (hall q hq)))
  have main := lays_outer hn6 hr9 hz hk hbars hch tc told mt row hD (outD_eq D xdm z) k 1100 1100 (outF col (-1) z) (outW z subj col cw z) (outF mcol (-2) z) mopen hk (by omega) (by omega) hsec' (outW_RCw hn6 hz hsec.ok hcw z (Nat.le_refl z)) (fun c hc => by
    rw [inCol_out (fun q hq => by rw [hall q hq]; exact fun e => nI_nm1 (by omega) e.symm)]; omega) (fun q hq _ => hall q hq)
  rw [hn0, nI_0, ← hm] at main
  obtain ⟨col', cw', mcol', o', f1, f2, f3, f4, f5⟩ := main
  rw [f1, f2]
  unfold m_X5_lays_107 m_X6_lays_86
  have hcnt : nI z - nI (pop (msk (fun i => decide (col' i = -1)) z)) = nI (nSp (fun q => decide (¬ col' q = -1)) z) := by
    rw [pop_msk _ (by omega), ← nSp_eq]
    have h1 := nSp_not (fun q => decide (col' q = -1)) z
    have h2 : (fun q => !decide (col' q = -1)) = (fun q => decide (¬ col' q = -1)) := by funext q; rw [decide_not]
    rw [h2] at h1
    rw [pk_sub (by omega)]
    congr 1; omega
  simp only [fitX hn6 hz hk f3.ok f4 hch, fitM hn6 hz hk f3 hch, bk1, bk2, bitCount_eq, bits_eq, tell1_eq, notes1_eq, sectionsIn_eq hz, hcnt]
  exact ⟨_, _, _, _, _, _, _, _, _, _, _, rfl, rfl, RRow_1 _ _ _, htext, ⟨rfl, rfl, rfl, n, r, z, ⟨hn1, hn6, rfl⟩, ⟨hr1, hr9, rfl⟩, ⟨hz, rfl⟩, hbars, f3, f4, f5⟩, ⟨rfl, rfl, k, hk, rfl, hch⟩⟩
