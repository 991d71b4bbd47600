/-! all put anew -/
theorem lay_rel {n r z k j : Nat} (hn : n ≤ 6) (hr : r ≤ 9) (hz : z ≤ 16) (hk : k ≤ 24) (hj : j < z) {bars mbars subj teach seats col cw msubj mteach mseats mcol ch mch : Nat → Int32} (hb : ∀ t : Nat, t < 10 → bars t = mbars t) (h : RSec n z subj teach seats col msubj mteach mseats mcol) (hcw : RCw z subj col cw) (hroom : ∀ c : Nat, c < n → inCol col c z ≤ r) (hr2 : okRoll k ch mch) (hout : col j = -1) (o : Nat → Int32) :
    ∃ (v mv : Int32) (cw' o' : Nat → Int32), okMv n v mv ∧ m_X5_lay (nI n) (nI r) (nI z) bars subj teach col cw (nI k) ch (nI j) = some (upd col j v, cw') ∧ m_X6_laysOne (nI n) (nI r) (nI z) (nI k) msubj mteach mcol mbars mch o (nI j) = some (upd mcol j mv, o') ∧ RCw z subj (upd col j v) cw' ∧ (∀ c : Nat, c < n → inCol (upd col j v) c z ≤ r) := by
  obtain ⟨q1, ⟨a, ha, q2⟩, q3, ⟨t, ht, q4⟩, -⟩ := h j hj
  obtain ⟨ok, hok⟩ : ∃ ok : Nat → Bool, ok = fun c => decide (obsX r z bars teach col j t c = 0) := ⟨_, rfl⟩
  obtain ⟨P, hP⟩ : ∃ P : Nat → Nat, P = fun c => pop (fitC z subj (upd col j (nI c)) ch k) := ⟨_, rfl⟩
  have hP32 : ∀ c, P c ≤ 32 := fun c => by rw [hP]; exact pop_le _
  have hPi : ∀ c, pop (fitC z subj (upd col j (nI c)) ch k) = P c := fun c => by rw [hP]
  have hoki : ∀ c, ok c = decide (obsX r z bars teach col j t c = 0) := fun c => by rw [hok]
  have i17 : inb (nI j) 17 = true := inb_nI (by omega) (by decide)
  have cl : (nI j).toNatClampNeg = j := nI_clamp (by omega)
  have hI := gL_ok hP32 (okL_0 (n := n) (ok := ok) (P := P)) (Nat.le_refl n)
  have hv : okMv n (fndW (-1) (run (gL ok P) n (0, none)).2) (fndW (-2) (run (gL ok P) n (0, none)).2) := by
    rcases hI.2 with e | ⟨c, hc, -, e⟩
    · rw [e]; exact Or.inl ⟨rfl, rfl⟩
    · rw [e]; exact Or.inr ⟨c, hc, rfl, rfl⟩
  refine ⟨fndW (-1) (run (gL ok P) n (0, none)).2, fndW (-2) (run (gL ok P) n (0, none)).2, _, opL ok (fun c o => loN msubj (upd mcol j (nI c)) (loZ o 10) z) o n, hv, ?_, ?_, RCw_place hn hz ha h.ok (q1.trans q2) hcw hv.cls, ?_⟩
  · unfold m_X5_lay
    rw [fitX hn hz hk h.ok hcw hr2, bk1]
    refine (seq5 (z := n) (E := m_X5_lay_70 (nI z) subj col cw (nI j) (fndW (-1) (run (gL ok P) n (0, none)).2)) (fun c => mostW (run (gL ok P) c (0, none)).1) (fun c => fndW (-1) (run (gL ok P) c (0, none)).2) (fun c => nI c) (fun _ => col) (fun _ => cw) (by omega) (fun rec => ?_) (fun rec c hc => ?_)).trans ?_
    · unfold m_X5_lay_13; rw [if_pos (Int32.le_refl _)]
    · have hI := gL_ok hP32 (okL_0 (n := n) (ok := ok) (P := P)) (show c ≤ n by omega)
      unfold m_X5_lay_13
      rw [run]
      generalize run (gL ok P) c (0, none) = s at hI
      have hvc : okMv n (nI c) (nI c) := Or.inr ⟨c, hc, rfl, rfl⟩
      have hne : ¬ col j = nI c := by rw [hout]; exact fun e => nI_nm1 (by omega) e.symm
      simp only [nI_ge hc (show n < 2 ^ 31 by omega), ↓reduceIte, mayMove_eq hr hz ht (show c < 32 by omega) (show j < 16 by omega) bars col (q3.trans q4), bk1, lt_t, nI_1, moved_eq hn hz hk hj h.ok hcw hvc.cls, bk3, bitCount_eq, gL, hPi, hne, not_false_eq_true, true_and, hoki]
      have hle := mw_le (p := P c) (q := s.1) (by have := hP32 c; omega) (by have := hI.1; omega)
      by_cases h0 : obsX r z bars teach col j t c = 0
      · by_cases h3 : s.1 < P c + 1
        · simp only [h0, decide_true, ↓reduceIte, e10, h3, and_self, if_neg (show ¬ nI (P c) ≤ mostW s.1 by rw [hle]; omega), mw_s, fndW]
        · simp only [h0, decide_true, ↓reduceIte, e10, h3, and_false, if_pos (show nI (P c) ≤ mostW s.1 by rw [hle]; omega)]
      · simp only [h0, decide_false, Bool.false_eq_true, ↓reduceIte, false_and]
    · unfold m_X5_lay_70
      rw [place_eq hz (by omega) ha (q1.trans q2), bk2]
  · unfold m_X6_laysOne
    refine (seq5 (z := n) (E := m_X6_laysOne_64 mcol (opL ok (fun c o => loN msubj (upd mcol j (nI c)) (loZ o 10) z) o n) (nI j) (fndW (-2) (run (gL ok P) n (0, none)).2)) (fun c => fndW (-2) (run (gL ok P) c (0, none)).2) (fun c => mostW (run (gL ok P) c (0, none)).1) (fun c => nI c) (fun _ => mcol) (opL ok (fun c o => loN msubj (upd mcol j (nI c)) (loZ o 10) z) o) (by omega) (fun rec => ?_) (fun rec c hc => ?_)).trans ?_
    · unfold m_X6_laysOne_8; rw [if_pos (Int32.le_refl _)]
    · have hI := gL_ok hP32 (okL_0 (n := n) (ok := ok) (P := P)) (show c ≤ n by omega)
      unfold m_X6_laysOne_8 m_X6_laysOne_41
      rw [run, opL]
      generalize run (gL ok P) c (0, none) = s at hI
      have hvc : okMv n (nI c) (nI c) := Or.inr ⟨c, hc, rfl, rfl⟩
      simp only [nI_ge hc (show n < 2 ^ 31 by omega), ↓reduceIte, isLegal_eq hr (show z ≤ 17 by omega) ht (show c < 32 by omega) (show j < 17 by omega) mbars mteach mcol q4, ← obsX_congr (r := r) (j := j) hb h ht (show c < 2 ^ 31 by omega), bk1, lt_t, nI_1, by_eq hn hz hk hj h hr2 hvc, bk3, bits_eq, gL, hPi, hoki]
      have hlt := mw_lt (p := P c) (q := s.1) (by have := hP32 c; omega) (by have := hI.1; omega)
      by_cases h0 : obsX r z bars teach col j t c = 0
      · by_cases h3 : s.1 < P c + 1
        · simp only [h0, decide_true, ↓reduceIte, e10, h3, and_self, if_pos (hlt.mpr h3), mw_s, fndW]
        · simp only [h0, decide_true, ↓reduceIte, e10, h3, and_false, if_neg (fun e => h3 (hlt.mp e))]
      · simp only [h0, decide_false, Bool.false_eq_true, ↓reduceIte, false_and, if_neg (mw_m1 (show s.1 < 2 ^ 30 by have := hI.1; omega))]
    · unfold m_X6_laysOne_64
      rw [i17, gd_tt, cl]
  · rcases hI.2 with e | ⟨c, hc, h1, e⟩
    · rw [e]; exact rooms_out hz hj hroom hn
    · rw [e]
      rw [hoki] at h1
      exact rooms_mv hz hj hroom hn hc (of_decide_eq_true h1)
/-! the order -/
/-- which are still to be laid, at demand w and section i -/
def toLay (D : Nat → Nat) (w i q : Nat) : Bool := decide (D q < w ∨ (D q = w ∧ i ≤ q))
def nxt (D : Nat → Nat) (B : Nat → Bool) : Nat → Option Nat
  | 0 => none
  | q + 1 => if B q = true then (match nxt D B q with
      | none => some q
      | some p => if D q ≤ D p then some p else some q) else nxt D B q
theorem nxt_lt (D : Nat → Nat) (B : Nat → Bool) : ∀ q p, nxt D B q = some p → p < q ∧ B p = true
  | 0, p, h => by cases h
  | q + 1, p, h => by
    rw [nxt] at h
    by_cases hb : B q = true
    · rw [if_pos hb] at h
      cases hn : nxt D B q with
      | none => rw [hn] at h; cases h; exact ⟨by omega, hb⟩
      | some p' =>
        rw [hn] at h
        have ih := nxt_lt D B q p' hn
        by_cases hd : D q ≤ D p'
        · simp only [if_pos hd] at h; cases h; exact ⟨by omega, ih.2⟩
        · simp only [if_neg hd] at h; cases h; exact ⟨by omega, hb⟩
    · rw [if_neg hb] at h
      have ih := nxt_lt D B q p h
      exact ⟨by omega, ih.2⟩
theorem nxt_at {D : Nat → Nat} {B : Nat → Bool} {w i : Nat} (hlo : ∀ q, q < i → B q = true → D q < w) (hi : B i = true) (hiw : D i = w) (hhi : ∀ q, i < q → B q = true → D q ≤ w) : ∀ e, nxt D B (i + 1 + e) = some i
  | 0 => by
    show nxt D B (i + 1) = some i
    rw [nxt, if_pos hi]
    cases hn : nxt D B i with
    | none => rfl
    | some p =>
      obtain ⟨h1, h2⟩ := nxt_lt D B i p hn
      have := hlo p h1 h2
      simp only [if_neg (show ¬ D i ≤ D p by omega)]
  | e + 1 => by
    show nxt D B (i + 1 + e + 1) = some i
    rw [nxt, nxt_at hlo hi hiw hhi e]
    by_cases hb : B (i + 1 + e) = true
    · have := hhi (i + 1 + e) (by omega) hb
      rw [if_pos hb]
      simp only [if_pos (show D (i + 1 + e) ≤ D i by omega)]
    · rw [if_neg hb]
theorem next_eq {z k : Nat} (hz : z ≤ 16) (hk : k ≤ 24) {msubj mch : Nat → Int32} (hs : ∀ i, i < z → ∃ a : Nat, a < 10 ∧ msubj i = nI a) {D : Nat → Nat} (hD : ∀ q, D q = pop (msk (fun p => bt (mch p) (msubj q).toNatClampNeg) k)) (B : Nat → Bool) :
    m_X6_nextToLay (nI z) (nI k) msubj mch (msk B z) = some (fndW (-1) (nxt D B z)) := by
  unfold m_X6_nextToLay
  refine seq2 (z := z) (fun q => fndW (-1) (nxt D B q)) (fun q => nI q) (by omega) (fun rec => ?_) (fun rec q hq => ?_)
  · unfold m_X6_nextToLay_4; rw [if_pos (Int32.le_refl _)]
  · have i17 : inb (nI q) 17 = true := inb_nI (by omega) (by decide)
    have cl : (nI q).toNatClampNeg = q := nI_clamp (by omega)
    have hb : bt (msk B z) q = B q := by rw [msk_bt B z (by omega)]; simp [hq]
    have hch : ∀ p, p < z → m_X6_chose (nI k) mch (msubj p) = some (msk (fun x => bt (mch x) (msubj p).toNatClampNeg) k) := by
      intro p hp
      obtain ⟨a, ha, e⟩ := hs p hp
      rw [e, nI_clamp (by omega), chose_eq hk mch (by omega)]
    unfold m_X6_nextToLay_4
    rw [nxt]
    simp only [nI_ge hq (show z < 2 ^ 31 by omega), ↓reduceIte, has_eq (show q < 32 by omega), hb, bk1, lt_t, nI_1, i17, gd_tt, cl, hch q hq, bits_eq, ← hD]
    cases hB : B q
    · simp only [Bool.false_eq_true, ↓reduceIte]
    · simp only [↓reduceIte, e10]
      cases hn : nxt D B q with
      | none => simp only [fndW, ↓reduceIte]
      | some p =>
        obtain ⟨h1, -⟩ := nxt_lt D B q p hn
        have p17 : inb (nI p) 17 = true := inb_nI (by omega) (by decide)
        have clp : (nI p).toNatClampNeg = p := nI_clamp (by omega)
        have hle : nI (D q) ≤ nI (D p) ↔ D q ≤ D p := nI_leI (by rw [hD]; have := pop_le (msk (fun x => bt (mch x) (msubj q).toNatClampNeg) k); omega) (by rw [hD]; have := pop_le (msk (fun x => bt (mch x) (msubj p).toNatClampNeg) k); omega)
        simp only [fndW, nI_nm1 (show p < 2 ^ 31 by omega), ↓reduceIte, p17, gd_tt, clp, hch p (by omega), bk1, bits_eq, ← hD, hle]
        by_cases hd : D q ≤ D p
        · simp only [if_pos hd]
        · simp only [if_neg hd]
theorem nSp_upd {col : Nat → Int32} {j : Nat} {v : Int32} (ho : col j = -1) : ∀ z, nSp (fun q => decide (¬ upd col j v q = -1)) z = nSp (fun q => decide (¬ col q = -1)) z + (if j < z ∧ ¬ v = -1 then 1 else 0)
  | 0 => by rw [nSp, nSp, if_neg (fun e => absurd e.1 (by omega))]
  | z + 1 => by
    rw [nSp, nSp, nSp_upd ho z]
    by_cases e : z = j
    · subst e
      rw [upd_s]
      by_cases h : v = -1
      · simp [h, ho]
      · simp [h, ho]
    · rw [upd_n e]
      have hlt : (j < z + 1 ∧ ¬ v = -1) ↔ (j < z ∧ ¬ v = -1) := by
        constructor
        · rintro ⟨a, b⟩; exact ⟨by omega, b⟩
        · rintro ⟨a, b⟩; exact ⟨by omega, b⟩
      simp only [hlt]; omega
theorem nSp_not (P : Nat → Bool) : ∀ z, nSp P z + nSp (fun q => !P q) z = z
  | 0 => rfl
  | z + 1 => by
    have := nSp_not P z
    rw [nSp, nSp]
    cases P z <;> simp <;> omega
