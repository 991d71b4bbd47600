/-! seats: all pupils -/
def lfM (lf : Nat → Nat) (I : List Nat) : Nat → Nat := fun i => if i ∈ I then lf i - 1 else lf i
def lfD (lf : Nat → Nat) (i : Nat) : Nat → Nat := fun k => if k = i then lf k - 1 else lf k
theorem lfD_s (lf : Nat → Nat) (i : Nat) : lfD lf i i = lf i - 1 := if_pos rfl
theorem lfD_n (lf : Nat → Nat) {i k : Nat} (h : k ≠ i) : lfD lf i k = lf k := if_neg h
theorem lfM_nil (lf : Nat → Nat) : lfM lf [] = lf := by funext i; unfold lfM; rw [if_neg (by simp)]
theorem lfM_in {lf : Nat → Nat} {I : List Nat} {i : Nat} (h : i ∈ I) : lfM lf I i = lf i - 1 := if_pos h
theorem lfM_out {lf : Nat → Nat} {I : List Nat} {i : Nat} (h : i ∉ I) : lfM lf I i = lf i := if_neg h
theorem sfx_mem {ch : Int32} : ∀ {d s : Nat}, d ≤ 10 → s ∈ sfx ch d → 10 - d ≤ s ∧ s < 10
  | 0, s, _, h => by cases h
  | d + 1, s, hd, h => by
    rw [sfx] at h
    by_cases hb : bt ch (9 - d) = true
    · rw [if_pos hb] at h
      rcases List.mem_cons.mp h with e | e
      · subst e; omega
      · have := sfx_mem (by omega) e; omega
    · rw [if_neg hb] at h
      have := sfx_mem (by omega) h; omega
theorem so_loop {z : Nat} (hz : z ≤ 16) {subj col first : Nat → Int32} {ch v : Int32} :
    ∀ (d fuel f : Nat) (left sit oc : Nat → Int32) (lf : Nat → Nat) (L I : List Nat), d ≤ 10 → d < fuel → f + (sfx ch d).length ≤ 6 → okLf z left lf → (∀ q c, L[q]? = some c → first (f + q) = nI c) → isTk z subj col lf (sfx ch d) L I →
    ∃ left' sit' oc', it5 (m_X2_seatOne_6 first (nI z) subj col v ch) fuel (nI f) (nI (10 - d)) left sit oc = some (left', sit', oc') ∧ okLf z left' (lfM lf I) ∧ (∀ i, i < z → sit' i = if i ∈ I then sit i ||| ((1 : Int32) <<< (v &&& 31)) else sit i) ∧ (∀ s, s < 10 → (s ∈ sfx ch d → oc' s = ocX z subj col (lfM lf I) s) ∧ (s ∉ sfx ch d → oc' s = oc s)) := by
  intro d
  induction d with
  | zero =>
    intro fuel f left sit oc lf L I _ hf _ hl _ hT
    have hI : I = [] := hT
    subst hI
    cases fuel with
    | zero => exact absurd hf (by omega)
    | succ fuel =>
      refine ⟨left, sit, oc, ?_, by rw [lfM_nil]; exact hl, fun i _ => by rw [if_neg (by simp)], fun s _ => ⟨fun h => (by cases h), fun _ => rfl⟩⟩
      show m_X2_seatOne_6 first (nI z) subj col v ch (it5 (m_X2_seatOne_6 first (nI z) subj col v ch) fuel) (nI f) (nI (10 - 0)) left sit oc = _
      generalize it5 (m_X2_seatOne_6 first (nI z) subj col v ch) fuel = rec
      unfold m_X2_seatOne_6
      rw [if_pos (by decide)]
  | succ d ih =>
    intro fuel f left sit oc lf L I hd hf hlen hl hfst hT
    cases fuel with
    | zero => exact absurd hf (by omega)
    | succ fuel =>
      have s1 : it5 (m_X2_seatOne_6 first (nI z) subj col v ch) (fuel + 1) (nI f) (nI (10 - (d + 1))) left sit oc = m_X2_seatOne_6 first (nI z) subj col v ch (it5 (m_X2_seatOne_6 first (nI z) subj col v ch) fuel) (nI f) (nI (10 - (d + 1))) left sit oc := rfl
      rw [s1]
      have hIH := ih fuel
      generalize it5 (m_X2_seatOne_6 first (nI z) subj col v ch) fuel = rec at hIH ⊢
      have es : 10 - (d + 1) = 9 - d := by omega
      have g1 : ¬ (10 : Int32) ≤ nI (9 - d) := nI_ge (a := 9 - d) (b := 10) (by omega) (by decide)
      have i10 : inb (nI (9 - d)) 10 = true := inb_nI (by omega) (by decide)
      have c9 : (nI (9 - d)).toNatClampNeg = 9 - d := nI_clamp (by omega)
      unfold m_X2_seatOne_6
      rw [es, if_neg g1]
      rw [sfx] at hlen hT ⊢
      by_cases hf6 : f < 6
      · have g2 : ¬ (6 : Int32) ≤ nI f := nI_ge (a := f) (b := 6) hf6 (by decide)
        rw [if_neg g2, hasBit_eq (by omega), bk1]
        by_cases hb : bt ch (9 - d) = true
        · rw [if_pos hb] at hlen hT ⊢
          rw [if_pos hb, if_neg (by decide)]
          obtain ⟨c, L', i, I', rfl, rfl, a1, a2⟩ := hT
          have hsi : subj i = nI (9 - d) := a1.2.1.1
          have hiz : i < z := a1.1
          have hf0 : first f = nI c := hfst 0 c rfl
          have hlast : ∀ k, k ∈ I' → ¬ subj k = nI (9 - d) := by
            intro k hk e
            obtain ⟨-, -, s', k3, k4⟩ := isTk_mem a2 k hk
            rw [k4] at e
            have h1 := sfx_mem (by omega) k3
            have := nI_inj (by omega) (by omega) e
            omega
          have hiI : i ∉ I' := fun hk => hlast i hk hsi
          have hl1 : okLf z (upd left i (nI (lf i - 1))) (lfD lf i) := by
            intro k hk
            by_cases e : k = i
            · subst e
              rw [upd_s, lfD_s]
              have := (hl k hk).2
              exact ⟨rfl, by omega⟩
            · rw [upd_n e, lfD_n lf e]; exact hl k hk
          have e1 : lfM (lfD lf i) I' = lfM lf (i :: I') := by
            funext k
            by_cases e : k = i
            · subst e
              rw [lfM_out hiI, lfM_in List.mem_cons_self, lfD_s]
            · by_cases hk : k ∈ I'
              · rw [lfM_in hk, lfM_in (List.mem_cons_of_mem _ hk), lfD_n lf e]
              · rw [lfM_out hk, lfM_out (by rw [List.mem_cons]; rintro (h | h); exact e h; exact hk h), lfD_n lf e]
          have hlen' : f + 1 + (sfx ch d).length ≤ 6 := by rw [List.length_cons] at hlen; omega
          have hT' : isTk z subj col (lfD lf i) (sfx ch d) L' I' := by
            refine isTk_conv (fun s' hs' c' _ k hk => ?_) a2
            have h1 := sfx_mem (by omega) hs'
            constructor
            · rintro ⟨q1, q2, q3⟩
              refine ⟨q1, q2, ?_⟩
              have : k ≠ i := by
                rintro rfl
                rw [hsi] at q1
                have := nI_inj (by omega) (by omega) q1
                omega
              rw [lfD_n lf this]; exact q3
            · rintro ⟨q1, q2, q3⟩
              refine ⟨q1, q2, ?_⟩
              have : k ≠ i := by
                rintro rfl
                rw [hsi] at q1
                have := nI_inj (by omega) (by omega) q1
                omega
              rw [lfD_n lf this] at q3; exact q3
          obtain ⟨left', sit', oc', r1, r2, r3, r4⟩ := hIH (f + 1) (upd left i (nI (lf i - 1))) (upd sit i (sit i ||| ((1 : Int32) <<< (v &&& 31)))) (upd oc (9 - d) (ocX z subj col (lfD lf i) (9 - d))) (lfD lf i) L' I' (by omega) (by omega) hlen' hl1 (fun q c' hq => by
            have := hfst (q + 1) c' (by rw [List.getElem?_cons_succ]; exact hq)
            rw [show f + 1 + q = f + (q + 1) by omega]; exact this) hT'
          rw [e1] at r2 r4
          have i6 : inb (nI f) 6 = true := inb_nI hf6 (by decide)
          have cf : (nI f).toNatClampNeg = f := nI_clamp (by omega)
          refine ⟨left', sit', oc', ?_, r2, fun k hk => ?_, fun s hs => ⟨fun hm => ?_, fun hm => ?_⟩⟩
          · rw [i6, gd_tt, cf, hf0, takeSeat_eq hz hl a1, bk2, columnsLeft_eq hz hl1, bk1, i10, gd_tt, lt_t, lt_t, nI_1, nI_1, c9, show 9 - d + 1 = 10 - d by omega, r1]
          · rw [r3 k hk]
            by_cases e : k = i
            · subst e
              rw [if_neg hiI, upd_s, if_pos List.mem_cons_self]
            · rw [upd_n e]
              by_cases hk' : k ∈ I'
              · rw [if_pos hk', if_pos (List.mem_cons_of_mem _ hk')]
              · rw [if_neg hk', if_neg (by rw [List.mem_cons]; rintro (h | h); exact e h; exact hk' h)]
          · rcases List.mem_cons.mp hm with e | e
            · subst e
              have hns : (9 - d) ∉ sfx ch d := fun h => by have := sfx_mem (by omega) h; omega
              rw [(r4 (9 - d) hs).2 hns, upd_s, ← e1]
              refine ocX_congr (fun k hk hsk => ?_)
              rw [lfM_out (fun h => hlast k h hsk)]
            · exact (r4 s hs).1 e
          · have h1 : s ∉ sfx ch d := fun h => hm (List.mem_cons_of_mem _ h)
            have h2 : s ≠ 9 - d := fun h => hm (by rw [h]; exact List.mem_cons_self)
            rw [(r4 s hs).2 h1, upd_n h2]
        · rw [if_neg hb] at hlen hT ⊢
          rw [if_neg hb, if_pos rfl, lt_t, nI_1, show 9 - d + 1 = 10 - d by omega]
          exact hIH f left sit oc lf L I (by omega) (by omega) hlen hl hfst hT
      · have f6 : f = 6 := by omega
        subst f6
        rw [if_pos (show (6 : Int32) ≤ nI 6 by decide)]
        have hn : (if bt ch (9 - d) = true then (9 - d) :: sfx ch d else sfx ch d) = [] := List.eq_nil_of_length_eq_zero (by omega)
        rw [hn] at hT ⊢
        have hI : I = [] := hT
        subst hI
        exact ⟨left, sit, oc, rfl, by rw [lfM_nil]; exact hl, fun i _ => by rw [if_neg (by simp)], fun s _ => ⟨fun h => (by cases h), fun _ => rfl⟩⟩
theorem isTk_of {n z : Nat} (hn : n ≤ 6) {subj col : Nat → Int32} (hok : okSC n z subj col) {lf : Nat → Nat} : ∀ {S : List Nat} {u : Nat} {L : List Nat}, isFW (ocX z subj col lf) S u L → ∃ I, isTk z subj col lf S L I
  | [], _, _, _ => ⟨[], rfl⟩
  | s :: S, u, L, h => by
    obtain ⟨c, L', rfl, a1, a2, a3, a4, a5, a6⟩ := h
    obtain ⟨i, hi⟩ := isFr_of ((ocX_bit hn hok lf s (show c < 32 by omega)).mp a2)
    obtain ⟨I, hI⟩ := isTk_of hn hok a6
    exact ⟨i :: I, c, L', i, I, rfl, rfl, hi, hI⟩
/-- one pupil, by the class -/
theorem oneXs {n z p b : Nat} (hn : n ≤ 6) (hz : z ≤ 16) (hp : p < 24) (hlen : (blN b).length ≤ 6) {subj col left oc : Nat → Int32} {lf : Nat → Nat} (hok : okSC n z subj col) (hl : okLf z left lf) (hoc : ∀ s, s < 10 → oc s = ocX z subj col lf s) (sit first : Nat → Int32) (sa : Nat → Int64) {ch : Nat → Int32} (hx : ch p = nI b) (v4 v5 : Int32)
    (rec : Int32 → Int32 → (Nat → Int32) → (Nat → Int32) → (Nat → Int32) → (Nat → Int32) → (Nat → Int64) → Option (Int32 × (Nat → Int32) × (Nat → Int32) × (Nat → Int32) × (Nat → Int32) × (Nat → Int64))) :
    (wy (ocX z subj col lf) (blN b) 0 = false → ∃ sa', m_X2_seatAll_38 left sit oc first sa (nI z) subj col ch v4 v5 (nI p) rec = rec v4 (v5 + 1) left sit oc first sa') ∧
    (wy (ocX z subj col lf) (blN b) 0 = true → ∃ L I left' sit' oc' first' sa', isFW (ocX z subj col lf) (blN b) 0 L ∧ isTk z subj col lf (blN b) L I ∧ m_X2_seatAll_38 left sit oc first sa (nI z) subj col ch v4 v5 (nI p) rec = rec (v4 ||| ((1 : Int32) <<< (nI p &&& 31))) (v5 + 1) left' sit' oc' first' sa' ∧ okLf z left' (lfM lf I) ∧ (∀ i, i < z → sit' i = if i ∈ I then sit i ||| ((1 : Int32) <<< (nI p &&& 31)) else sit i) ∧ (∀ s, s < 10 → oc' s = ocX z subj col (lfM lf I) s)) := by
  have i24 : inb (nI p) 24 = true := inb_nI (by omega) (by decide)
  have cl : (nI p).toNatClampNeg = p := nI_clamp (by omega)
  have hlb : (bl (nI b)).length ≤ 6 := by rw [bl_nI]; exact hlen
  have hff := findFirst_eq oc (nI b) first sa hlb
  have hwe : wy oc (bl (nI b)) 0 = wy (ocX z subj col lf) (blN b) 0 := by rw [wy_eq hoc, bl_nI]
  rw [hwe] at hff
  unfold m_X2_seatAll_38
  rw [i24, gd_tt, cl, hx, lt_t]
  constructor
  · intro hw
    obtain ⟨A, e⟩ := hff.1 hw
    refine ⟨A, ?_⟩
    rw [e, bk3, if_pos rfl, lt_t]
  · intro hw
    obtain ⟨A, L, hL, e⟩ := hff.2 hw
    rw [bl_nI] at hL
    have hL' : isFW (ocX z subj col lf) (blN b) 0 L := isFW_congr (fun s hs c _ => by rw [hoc s (blN_mem hs)]) hL
    obtain ⟨I, hI⟩ := isTk_of hn hok hL'
    have hI' : isTk z subj col lf (sfx (nI b) 10) L I := by rw [← bl_sfx, bl_nI]; exact hI
    obtain ⟨left', sit', oc', r1, r2, r3, r4⟩ := so_loop (v := nI p) hz 10 1100 0 left sit oc lf L I (Nat.le_refl _) (by decide) (by rw [← bl_sfx]; omega) hl (fun q c hq => putL_at L first 0 q c hq) hI'
    have r1' : m_X2_seatOne left sit oc (putL first 0 L) (nI z) subj col (nI p) (nI b) = some (left', sit', oc') := r1
    refine ⟨L, I, left', sit', oc', putL first 0 L, A, hL', hI, ?_, r2, r3, fun s hs => ?_⟩
    · rw [e, bk3, if_neg (by decide), r1', bk3, lt_t, lt_t]
    · by_cases hm : s ∈ sfx (nI b) 10
      · exact (r4 s hs).1 hm
      · rw [(r4 s hs).2 hm, hoc s hs]
        refine ocX_congr (fun k hk hsk => ?_)
        rw [lfM_out (fun h => ?_)]
        obtain ⟨-, -, s', k3, k4⟩ := isTk_mem hI k h
        rw [hsk] at k4
        have := nI_inj (by omega) (by have := blN_mem k3; omega) k4
        subst this
        rw [← bl_sfx, bl_nI] at hm
        exact hm k3
def decL (f : Nat → Int32) (x : Int32) (i j : Nat) : Int32 := if j < i then f j - ((x >>> (nI j &&& 31)) &&& 1) else f j
theorem shrB1 (x : Int32) {j : Nat} (hj : j < 32) : (x >>> (nI j &&& 31)) &&& 1 = if bt x j = true then 1 else 0 := by
  by_cases h : bt x j = true
  · rw [if_pos h, p_and1', p_shr0 x hj]; exact h
  · rw [if_neg h, p_and1, p_shr0 x hj]; simpa using h
theorem decL_loop {z p : Nat} (hz : z ≤ 16) (hp : p < 24) (msat mleft : Nat → Int32) (v2 v3 v5 : Int32) (rec : Int32 → Int32 → (Nat → Int32) → (Nat → Int32) → Option (Int32 × (Nat → Int32) × (Nat → Int32))) :
    it2 (m_X6_seatsAll_88 (nI z) msat v2 v3 (nI p) v5 rec) 1100 0 mleft = m_X6_seatsAll_125 (decL mleft (msat p) z) msat v2 v3 (nI p) v5 rec := by
  have h0 : mleft = decL mleft (msat p) 0 := by funext j; unfold decL; rw [if_neg (by omega)]
  have main : it2 (m_X6_seatsAll_88 (nI z) msat v2 v3 (nI p) v5 rec) 1100 0 (decL mleft (msat p) 0) = m_X6_seatsAll_125 (decL mleft (msat p) z) msat v2 v3 (nI p) v5 rec := by
    refine seq2 (z := z) (fun i => nI i) (fun i => decL mleft (msat p) i) (by omega) (fun rec2 => ?_) (fun rec2 i hi => ?_)
    · unfold m_X6_seatsAll_88; rw [if_pos (Int32.le_refl _)]
    · have i17 : inb (nI i) 17 = true := inb_nI (by omega) (by decide)
      have i24 : inb (nI p) 24 = true := inb_nI (by omega) (by decide)
      have cl : (nI i).toNatClampNeg = i := nI_clamp (by omega)
      have cp : (nI p).toNatClampNeg = p := nI_clamp (by omega)
      unfold m_X6_seatsAll_88
      rw [if_neg (nI_ge hi (by omega)), i17, gd_tt, i24, gd_tt, gd_tt, lt_t, nI_1, cl, cp]
      congr 1
      funext j
      unfold decL
      by_cases e : j = i
      · subst e
        rw [upd_s, if_neg (Nat.lt_irrefl _), if_pos (by omega)]
      · rw [upd_n e]
        by_cases h : j < i
        · rw [if_pos h, if_pos (by omega)]
        · rw [if_neg h, if_neg (by omega)]
  rw [← h0] at main
  exact main
/-- one pupil, by the reference -/
theorem oneM {n z p b : Nat} (hn : n ≤ 6) (hz : z ≤ 16) (hp : p < 24) (hb : b < 1024) (hlen : (blN b).length ≤ 6) {subj col left : Nat → Int32} {lf : Nat → Nat} (hl : okLf z left lf) {oc : Nat → Int32} (hoc : ∀ s, s < 10 → ∀ c, c < 6 → (bt (oc s) c = true ↔ ∃ i, i < z ∧ fre subj col lf s c i)) (hocn : ∀ s, s < 10 → ∀ c, n ≤ c → bt (oc s) c = false) {ch : Nat → Int32} (hx : ch p = nI b) (sat : Nat → Int32) (v2 v3 : Int32)
    (rec : Int32 → Int32 → (Nat → Int32) → (Nat → Int32) → Option (Int32 × (Nat → Int32) × (Nat → Int32))) :
    (wy oc (blN b) 0 = false → ∃ left', okLf z left' lf ∧ m_X6_seatsAll_56 (nI n) (nI z) subj col ch left sat v2 v3 (nI p) rec = rec v2 (v3 + 1) left' (upd sat p 0)) ∧
    (wy oc (blN b) 0 = true → ∃ L I left', isFW oc (blN b) 0 L ∧ isTk z subj col lf (blN b) L I ∧ okLf z left' (lfM lf I) ∧ m_X6_seatsAll_56 (nI n) (nI z) subj col ch left sat v2 v3 (nI p) rec = rec (v2 ||| ((1 : Int32) <<< (nI p &&& 31))) (v3 + 1) left' (upd sat p (mskL I))) := by
  have i24 : inb (nI p) 24 = true := inb_nI (by omega) (by decide)
  have cl : (nI p).toNatClampNeg = p := nI_clamp (by omega)
  have hsw := seatsWayM hn hz hl hoc hocn 8 b 0 hb (by decide) (by omega)
  rw [nI_0] at hsw
  unfold m_X6_seatsAll_56
  rw [i24, gd_tt, cl, hx]
  constructor
  · intro hw
    refine ⟨decL left 0 z, fun i hi => ?_, ?_⟩
    · unfold decL
      rw [if_pos hi, shrB1 0 (by omega), b_0, if_neg (by decide), Int32.sub_zero]
      exact hl i hi
    · rw [hsw.1 hw, bk1, gd_tt, if_neg (by decide), decL_loop hz hp, upd_s]
      unfold m_X6_seatsAll_125
      rw [if_pos rfl, lt_t, lt_t, b_or0]
  · intro hw
    obtain ⟨L, I, h1, h2, h3⟩ := hsw.2 hw
    have h16 : ∀ i ∈ I, i < 16 := fun i hi => by have := (isTk_mem h2 i hi).1; omega
    refine ⟨L, I, decL left (mskL I) z, h1, h2, fun i hi => ?_, ?_⟩
    · unfold decL
      rw [if_pos hi, shrB1 _ (by omega), mskL_bt (fun k hk => Nat.lt_trans (h16 k hk) (by decide)) i (by omega), (hl i hi).1]
      by_cases hm : i ∈ I
      · have h4 := (isTk_mem h2 i hm).2.1
        have h5 := (hl i hi).2
        rw [lfM_in hm, if_pos (decide_eq_true hm)]
        obtain ⟨q, hq⟩ : ∃ q, lf i = q + 1 := ⟨lf i - 1, by omega⟩
        rw [hq, nI_pred, Nat.add_sub_cancel]
        exact ⟨rfl, by omega⟩
      · rw [lfM_out hm, if_neg (by rw [decide_eq_false hm]; decide), Int32.sub_zero]
        exact ⟨rfl, (hl i hi).2⟩
    · rw [h3, bk1, gd_tt, mskL_pos h16, decL_loop hz hp, upd_s]
      unfold m_X6_seatsAll_125
      rw [if_neg (mskL_ne h16), lt_t, lt_t]
/-- what seating a pupil does -/
def stepS (z : Nat) (subj col : Nat → Int32) (lf : Nat → Nat) (x : Int32) (ok : Bool) (lf' : Nat → Nat) : Prop :=
  (ok = false ∧ wy (ocX z subj col lf) (bl x) 0 = false ∧ lf' = lf) ∨ (ok = true ∧ wy (ocX z subj col lf) (bl x) 0 = true ∧ ∃ L I, isFW (ocX z subj col lf) (bl x) 0 L ∧ isTk z subj col lf (bl x) L I ∧ lf' = lfM lf I)
def runS (z : Nat) (subj col ch : Nat → Int32) (pq : Nat → Nat) (lf0 : Nat → Nat) : Nat → Int32 → (Nat → Nat) → Prop
  | 0, w, lf => w = 0 ∧ lf = lf0
  | q + 1, w, lf => ∃ w1 lf1 ok, runS z subj col ch pq lf0 q w1 lf1 ∧ stepS z subj col lf1 (ch (pq q)) ok lf ∧ w = w1 ||| (if ok = true then (1 : Int32) <<< (nI (pq q) &&& 31) else 0)
def SeI (z : Nat) (subj col ch : Nat → Int32) (pq : Nat → Nat) (lf0 : Nat → Nat) (q : Nat) (who : Int32) (left sit oc mleft msat : Nat → Int32) : Prop :=
  ∃ lf, runS z subj col ch pq lf0 q who lf ∧ okLf z left lf ∧ okLf z mleft lf ∧ (∀ s, s < 10 → oc s = ocX z subj col lf s) ∧ (∀ i, i < z → ∀ p, p < 32 → (bt (sit i) p = true ↔ (bt who p = true ∧ bt (msat p) i = true))) ∧ (∀ p, p < 32 → bt who p = true → ∃ r, r < q ∧ pq r = p)
theorem fre_iff {n z : Nat} {subj teach seats col msubj mteach mseats mcol : Nat → Int32} (h : RSec n z subj teach seats col msubj mteach mseats mcol) {lf : Nat → Nat} {s c : Nat} (hc : c < 2 ^ 31) {i : Nat} (hi : i < z) : fre subj col lf s c i ↔ fre msubj mcol lf s c i := by
  unfold fre
  rw [(h i hi).1, h.colI hi hc]
theorem isFW_lt {cw : Nat → Int32} : ∀ {S : List Nat} {u : Nat} {L : List Nat}, isFW cw S u L → ∀ c ∈ L, c < 6
  | [], _, L, h, c, hc => by
    have h : L = [] := h
    subst h
    cases hc
  | s :: S, u, L, h, c, hc => by
    obtain ⟨d, L', rfl, a1, a2, a3, a4, a5, a6⟩ := h
    rcases List.mem_cons.mp hc with e | e
    · subst e; exact a1
    · exact isFW_lt a6 c e
theorem seat_loop {n z k : Nat} (hn : n ≤ 6) (hz : z ≤ 16) (hk : k ≤ 24) {subj teach seats col msubj mteach mseats mcol : Nat → Int32} (hsec : RSec n z subj teach seats col msubj mteach mseats mcol) {ch mch : Nat → Int32} (hr : okRoll k ch mch) {pq : Nat → Nat} (hpq : ∀ q, q < k → pq q < k) (hinj : ∀ q r, q < k → r < k → pq q = pq r → q = r) {v3 : Int32} (hsel : (v3 = 0 ∧ ∀ q, q < k → pq q = q) ∨ (¬ v3 = 0 ∧ ∀ q, q < k → pq q = k - 1 - q)) (lf0 : Nat → Nat) :
    ∀ (d q fX fM : Nat) (who : Int32) (left sit oc first : Nat → Int32) (sa : Nat → Int64) (mleft msat : Nat → Int32), q + d = k → d < fX → d < fM → SeI z subj col ch pq lf0 q who left sit oc mleft msat →
    ∃ who' left' sit' oc' first' sa' mleft' msat', it7 (m_X2_seatAll_11 (nI z) subj col (nI k) ch v3) fX who (nI q) left sit oc first sa = some (who', left', sit', oc', first', sa') ∧ it4 (m_X6_seatsAll_32 (nI n) (nI z) (nI k) msubj mcol mch v3) fM who (nI q) mleft msat = some (who', mleft', msat') ∧ SeI z subj col ch pq lf0 k who' left' sit' oc' mleft' msat' := by
  intro d
  induction d with
  | zero =>
    intro q fX fM who left sit oc first sa mleft msat hq hX hM hS
    have : q = k := by omega
    subst this
    cases fX with
    | zero => exact absurd hX (by omega)
    | succ fX =>
      cases fM with
      | zero => exact absurd hM (by omega)
      | succ fM =>
        refine ⟨who, left, sit, oc, first, sa, mleft, msat, ?_, ?_, hS⟩
        · show m_X2_seatAll_11 (nI z) subj col (nI q) ch v3 (it7 (m_X2_seatAll_11 (nI z) subj col (nI q) ch v3) fX) who (nI q) left sit oc first sa = _
          unfold m_X2_seatAll_11
          rw [if_pos (Int32.le_refl _)]
        · show m_X6_seatsAll_32 (nI n) (nI z) (nI q) msubj mcol mch v3 (it4 (m_X6_seatsAll_32 (nI n) (nI z) (nI q) msubj mcol mch v3) fM) who (nI q) mleft msat = _
          unfold m_X6_seatsAll_32
          rw [if_pos (Int32.le_refl _)]
  | succ d ih =>
    intro q fX fM who left sit oc first sa mleft msat hq hX hM hS
    cases fX with
    | zero => exact absurd hX (by omega)
    | succ fX =>
      cases fM with
      | zero => exact absurd hM (by omega)
      | succ fM =>
        have hqk : q < k := by omega
        have hp := hpq q hqk
        have hn1 : (nI k - 1) - nI q = nI (k - 1 - q) := by
          obtain ⟨m, rfl⟩ : ∃ m, k = m + 1 := ⟨k - 1, by omega⟩
          rw [nI_pred, pk_sub (by omega)]
          congr 1
        have sX : it7 (m_X2_seatAll_11 (nI z) subj col (nI k) ch v3) (fX + 1) who (nI q) left sit oc first sa = m_X2_seatAll_38 left sit oc first sa (nI z) subj col ch who (nI q) (nI (pq q)) (it7 (m_X2_seatAll_11 (nI z) subj col (nI k) ch v3) fX) := by
          show m_X2_seatAll_11 (nI z) subj col (nI k) ch v3 (it7 (m_X2_seatAll_11 (nI z) subj col (nI k) ch v3) fX) who (nI q) left sit oc first sa = _
          generalize it7 (m_X2_seatAll_11 (nI z) subj col (nI k) ch v3) fX = rec
          unfold m_X2_seatAll_11
          rw [if_neg (nI_ge hqk (by omega))]
          rcases hsel with ⟨h0, h1⟩ | ⟨h0, h1⟩
          · rw [if_pos h0, h1 q hqk]
          · rw [if_neg h0, hn1, h1 q hqk]
        have sM : it4 (m_X6_seatsAll_32 (nI n) (nI z) (nI k) msubj mcol mch v3) (fM + 1) who (nI q) mleft msat = m_X6_seatsAll_56 (nI n) (nI z) msubj mcol mch mleft msat who (nI q) (nI (pq q)) (it4 (m_X6_seatsAll_32 (nI n) (nI z) (nI k) msubj mcol mch v3) fM) := by
          show m_X6_seatsAll_32 (nI n) (nI z) (nI k) msubj mcol mch v3 (it4 (m_X6_seatsAll_32 (nI n) (nI z) (nI k) msubj mcol mch v3) fM) who (nI q) mleft msat = _
          generalize it4 (m_X6_seatsAll_32 (nI n) (nI z) (nI k) msubj mcol mch v3) fM = rec
          unfold m_X6_seatsAll_32
          rw [if_neg (nI_ge hqk (by omega))]
          rcases hsel with ⟨h0, h1⟩ | ⟨h0, h1⟩
          · rw [if_pos h0, h1 q hqk]
          · rw [if_neg h0, hn1, h1 q hqk]
        rw [sX, sM]
        have hIH := ih (q + 1) fX fM
        generalize it7 (m_X2_seatAll_11 (nI z) subj col (nI k) ch v3) fX = recX at hIH ⊢
        generalize it4 (m_X6_seatsAll_32 (nI n) (nI z) (nI k) msubj mcol mch v3) fM = recM at hIH ⊢
        obtain ⟨lf, hrun, hl, hml, hoc, hsit, hwho⟩ := hS
        obtain ⟨he, ⟨b, hb1, hb2, eb⟩, hpop⟩ := hr (pq q) hp
        have hx : ch (pq q) = nI b := by rw [he, eb]
        have hlen : (blN b).length ≤ 6 := by rw [← blN_leq hb2, ← eb]; exact hpop
        have hblx : bl (ch (pq q)) = blN b := by rw [hx, bl_nI]
        have hpw : bt who (pq q) = false := by
          cases e : bt who (pq q)
          · rfl
          · obtain ⟨r, r1, r2⟩ := hwho (pq q) (by omega) e
            have := hinj r q (by omega) hqk r2
            omega
        have hocM : ∀ s, s < 10 → ∀ c, c < 6 → (bt (ocX z subj col lf s) c = true ↔ ∃ i, i < z ∧ fre msubj mcol lf s c i) := by
          intro s _ c hc
          rw [ocX_bit hn hsec.ok lf s (by omega)]
          constructor
          · rintro ⟨i, hi, h⟩; exact ⟨i, hi, (fre_iff hsec (by omega) hi).mp h⟩
          · rintro ⟨i, hi, h⟩; exact ⟨i, hi, (fre_iff hsec (by omega) hi).mpr h⟩
        obtain ⟨x1, x2⟩ := oneXs hn hz (show pq q < 24 by omega) hlen hsec.ok hl hoc sit first sa hx who (nI q) recX
        obtain ⟨m1, m2⟩ := oneM hn hz (show pq q < 24 by omega) hb2 hlen hml hocM (fun s _ c hc => ocX_hi hn hsec.ok lf s c hc) eb msat who (nI q) recM
        cases hw : wy (ocX z subj col lf) (blN b) 0
        · obtain ⟨sa', ex⟩ := x1 hw
          obtain ⟨mleft', hml', em⟩ := m1 hw
          rw [ex, em, nI_1]
          refine hIH who left sit oc first sa' mleft' (upd msat (pq q) 0) (by omega) (by omega) (by omega) ⟨lf, ⟨who, lf, false, hrun, Or.inl ⟨rfl, by rw [hblx]; exact hw, rfl⟩, by rw [if_neg (by decide), b_or0]⟩, hl, hml', hoc, fun i hi p hp' => ?_, fun p hp' h => ?_⟩
          · rw [hsit i hi p hp']
            by_cases e : p = pq q
            · subst e; rw [hpw]; simp
            · rw [upd_n e]
          · obtain ⟨r, r1, r2⟩ := hwho p hp' h
            exact ⟨r, by omega, r2⟩
        · obtain ⟨L, I, left', sit', oc', first', sa', hL, hI, ex, hl', hsit', hoc'⟩ := x2 hw
          obtain ⟨L2, I2, mleft', hL2, hI2, hml', em⟩ := m2 hw
          have eL : L2 = L := isFW_uni hL2 hL
          subst eL
          have eI : I2 = I := isTk_uni (isTk_conv (fun s _ c hc i hi => (fre_iff hsec (by have := isFW_lt hL c hc; omega) hi).symm) hI2) hI
          subst eI
          rw [ex, em, nI_1]
          have hbw : ∀ p, p < 32 → bt (who ||| ((1 : Int32) <<< (nI (pq q) &&& 31))) p = (bt who p || decide (p = pq q)) := fun p hp' => by rw [b_or, p_bit (by omega) hp']
          refine hIH _ left' sit' oc' first' sa' mleft' (upd msat (pq q) (mskL I2)) (by omega) (by omega) (by omega) ⟨lfM lf I2, ⟨who, lf, true, hrun, Or.inr ⟨rfl, by rw [hblx]; exact hw, L2, I2, by rw [hblx]; exact hL, by rw [hblx]; exact hI, rfl⟩, by rw [if_pos rfl]⟩, hl', hml', hoc', fun i hi p hp' => ?_, fun p hp' h => ?_⟩
          · rw [hbw p hp', hsit' i hi]
            by_cases e : p = pq q
            · subst e
              have h16 : ∀ i ∈ I2, i < 32 := fun i hi => by have := (isTk_mem hI i hi).1; omega
              rw [upd_s, mskL_bt h16 i (by omega)]
              have h0 : bt (sit i) (pq q) = false := by
                cases e : bt (sit i) (pq q)
                · rfl
                · have := ((hsit i hi _ hp').mp e).1
                  rw [hpw] at this; cases this
              by_cases hm : i ∈ I2
              · rw [if_pos hm, b_or, p_bit (by omega) hp']; simp [hm]
              · rw [if_neg hm, h0]; simp [hm]
            · rw [upd_n e]
              have h1 : bt (if i ∈ I2 then sit i ||| ((1 : Int32) <<< (nI (pq q) &&& 31)) else sit i) p = bt (sit i) p := by
                by_cases hm : i ∈ I2
                · rw [if_pos hm, b_or, p_bit (by omega) hp']; simp [e]
                · rw [if_neg hm]
              rw [h1, hsit i hi p hp']
              simp [e]
          · rw [hbw p hp', Bool.or_eq_true] at h
            rcases h with h | h
            · obtain ⟨r, r1, r2⟩ := hwho p hp' h
              exact ⟨r, by omega, r2⟩
            · exact ⟨q, by omega, (of_decide_eq_true h).symm⟩
