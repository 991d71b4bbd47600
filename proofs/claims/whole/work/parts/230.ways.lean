/-! ways -/
theorem loN_smalln {z n : Nat} (hn : n ≤ 6) {subj col : Nat → Int32} (hs : ∀ i, i < z → ∃ a : Nat, a < 10 ∧ subj i = nI a) (hc : ∀ i, i < z → col i = -2 ∨ ∃ c : Nat, c < n ∧ col i = nI c) (o : Nat → Int32) : ∀ s, s < 10 → ∀ c, n ≤ c → bt (loN subj col (loZ o 10) z s) c = false := by
  intro s hs' c hc'
  by_cases h32 : c < 32
  · cases e : bt (loN subj col (loZ o 10) z s) c
    · rfl
    · obtain ⟨i, hi, h1, h2⟩ := (loN_bit hn hs hc o z (Nat.le_refl z) s hs' c h32).mp e
      rcases hc i hi with h | ⟨d, hd, h⟩
      · rw [h] at h2; exact absurd h2.symm (nI_nm2 (by omega))
      · rw [h] at h2
        have := nI_inj (by omega) (by omega) h2
        omega
  · exact b_big (by omega)
theorem blN_leq {b : Nat} (hb : b < 1024) : pop (nI b) = (blN b).length := by
  have hb' : b < 2 ^ 10 := hb
  unfold blN pop
  rw [← List.countP_eq_length_filter]
  have h2 : List.range 32 = List.range 10 ++ (List.range 22).map (fun x => 10 + x) := by rw [← List.range_add]
  rw [h2, List.countP_append]
  have e1 : (List.range 10).countP (fun s => b.testBit s) = (List.range 10).countP (fun i => bt (nI b) i) := by
    refine List.countP_congr (fun i hi => ?_)
    have : i < 10 := List.mem_range.mp hi
    rw [p_nbit]
    have h : i < 32 := by omega
    simp [h]
  have e2 : ((List.range 22).map (fun x => 10 + x)).countP (fun i => bt (nI b) i) = 0 := by
    rw [List.countP_eq_zero]
    intro a ha
    obtain ⟨x, hx, rfl⟩ := List.mem_map.mp ha
    rw [p_nbit, Nat.testBit_lt_two_pow (Nat.lt_of_lt_of_le hb' (Nat.pow_le_pow_right (by decide) (by omega)))]
    simp
  omega
def putW (f : Nat → Int32) (told : Nat → Int64) : Nat → (Nat → Int64)
  | 0 => told
  | i + 1 => vp_updL (putW f told i) i (f i).toInt64
theorem putW_at (f : Nat → Int32) (told : Nat → Int64) : ∀ k j, j < k → putW f told k j = (f j).toInt64
  | 0, _, h => absurd h (by omega)
  | k + 1, j, h => by
    rw [putW]
    by_cases e : j = k
    · subst e; exact pk_uLs
    · rw [pk_uLn e]; exact putW_at f told k j (by omega)
theorem tellFW_eq {k : Nat} (hk : k ≤ 6) (tc : Int32) (f : Nat → Int32) (told : Nat → Int64) : m_X5_tellFirstWay tc f told (nI k) = some (nI k, putW f told k) := by
  have g : (if (6 : Int32) < nI k then 6 else nI k) = nI k := by
    rw [if_neg]
    rw [show (6 : Int32) = nI 6 from rfl, nI_ltI (by omega) (by omega)]; omega
  unfold m_X5_tellFirstWay
  rw [g, lt_t]
  refine seq2 (z := k) (fun i => nI i) (fun i => putW f told i) (by omega) (fun rec => ?_) (fun rec i hi => ?_)
  · unfold m_X5_tellFirstWay_9 m_X5_tellFirstWay_36
    rw [if_pos (Int32.le_refl _)]
  · have i6 : inb (nI i) 6 = true := inb_nI (by omega) (by decide)
    have cl : (nI i).toNatClampNeg = i := nI_clamp (by omega)
    unfold m_X5_tellFirstWay_9
    rw [if_neg (nI_ge hi (by omega)), i6, gd_tt, gd_tt, lt_t, cl, nI_1, putW]
def putV (f : Nat → Int32) (q : Nat) : List Int32 → (Nat → Int32)
  | [] => f
  | c :: L => putV (upd f q c) (q + 1) L
theorem putV_snoc : ∀ (l : List Int32) (f : Nat → Int32) (q : Nat) (x : Int32), putV f q (l ++ [x]) = upd (putV f q l) (q + l.length) x
  | [], f, q, x => rfl
  | c :: l, f, q, x => by
    show putV (upd f q c) (q + 1) (l ++ [x]) = upd (putV (upd f q c) (q + 1) l) (q + (l.length + 1)) x
    rw [putV_snoc l, show q + 1 + l.length = q + (l.length + 1) by omega]
theorem putV_lo : ∀ (L : List Int32) (f : Nat → Int32) (q i : Nat), i < q → putV f q L i = f i
  | [], _, _, _, _ => rfl
  | c :: L, f, q, i, h => by rw [putV, putV_lo L _ _ i (by omega), upd_n (by omega)]
theorem putV_at : ∀ (L : List Int32) (f : Nat → Int32) (q i : Nat) (c : Int32), L[i]? = some c → putV f q L (q + i) = c
  | [], _, _, _, _, h => by simp at h
  | d :: L, f, q, 0, c, h => by
    simp only [List.getElem?_cons_zero, Option.some.injEq] at h
    subst h
    show putV (upd f q d) (q + 1) L q = d
    rw [putV_lo L _ _ q (by omega), upd_s]
  | d :: L, f, q, i + 1, c, h => by
    rw [List.getElem?_cons_succ] at h
    rw [putV, show q + (i + 1) = (q + 1) + i by omega]
    exact putV_at L _ (q + 1) i c h
def fltN (b s : Nat) : List Nat := (List.range s).filter (fun s => b.testBit s)
theorem fltN_s (b s : Nat) : fltN b (s + 1) = if b.testBit s = true then fltN b s ++ [s] else fltN b s := by
  unfold fltN
  rw [List.range_succ, List.filter_append]
  by_cases h : b.testBit s = true
  · rw [if_pos h, List.filter_cons_of_pos h]; rfl
  · rw [if_neg h, List.filter_cons_of_neg h]; simp
theorem fltN_le (b s : Nat) : (fltN b s).length ≤ s := by
  unfold fltN
  exact Nat.le_trans (List.length_filter_le _ _) (by simp)
theorem ways_loop {b j : Nat} (hj : j < 24) {mch op wo : Nat → Int32} (hx : mch j = nI b) (row : Nat → Int32) :
    it3 (m_X6_ways_38 0 mch op wo (nI j) 1) 1100 0 0 row = m_X6_ways_77 0 (nI (blN b).length) (putV row 0 ((blN b).map wo)) mch op wo (nI j) := by
  obtain ⟨Z, hZ⟩ : ∃ Z : Nat, Z = 10 := ⟨_, rfl⟩
  have i24 : inb (nI j) 24 = true := inb_nI (by omega) (by decide)
  have cj : (nI j).toNatClampNeg = j := nI_clamp (by omega)
  have main : it3 (m_X6_ways_38 0 mch op wo (nI j) 1) 1100 0 0 row = m_X6_ways_77 0 (nI (fltN b Z).length) (putV row 0 ((fltN b Z).map wo)) mch op wo (nI j) := by
    refine seq3 (z := Z) (fun s => nI s) (fun s => nI (fltN b s).length) (fun s => putV row 0 ((fltN b s).map wo)) (by omega) (fun rec => ?_) (fun rec s hs => ?_)
    · unfold m_X6_ways_38; rw [hZ, if_pos (by decide)]
    · have hs10 : s < 10 := by omega
      have g : ¬ (10 : Int32) ≤ nI s := nI_ge (a := s) (b := 10) hs10 (by decide)
      have i10 : inb (nI s) 10 = true := inb_nI hs10 (by decide)
      have cs : (nI s).toNatClampNeg = s := nI_clamp (by omega)
      have hlen : (fltN b s).length < 32 := by have := fltN_le b s; omega
      have hbt : bt (nI b) s = b.testBit s := by
        rw [p_nbit]
        have : s < 32 := by omega
        simp [this]
      unfold m_X6_ways_38
      simp only [g, ↓reduceIte, e10, i24, gd_tt, cj, hx, has_eq (show s < 32 by omega), bk1, hbt, i10, notes_eq hlen, bk2, lt_t, nI_1, cs]
      rw [fltN_s]
      by_cases hb : b.testBit s = true
      · simp only [hb, ↓reduceIte, e10]
        rw [List.length_append, List.map_append, show List.map wo [s] = [wo s] from rfl, putV_snoc, List.length_map, Nat.zero_add]
        rfl
      · simp only [hb, ↓reduceIte, Bool.false_eq_true]
  rw [hZ] at main
  exact main
theorem sim_ways : Sim_ways := by
  intro tc told ts tg cc rc sz bars subj teach seats col cw rs rk rch wf wsa wt mt row tp tape mc mr mm mbars msubj mteach mseats mcol mp mk mch mth mopen mwo v1 hR
  have hR0 := hR
  obtain ⟨hrow, htext, ⟨rfl, rfl, rfl, n, r, z, ⟨hn1, hn6, rfl⟩, ⟨hr1, hr9, rfl⟩, ⟨hz, rfl⟩, hbars, hsec, hcw, hroom⟩, ⟨rfl, rfl, k, hk, rfl, hch⟩⟩ := hR
  have hk' : k < 2 ^ 31 := by omega
  by_cases h : 0 ≤ v1.toInt ∧ v1.toInt < k
  · obtain ⟨j, hj, rfl⟩ := rng_of h hk'
    have i24 : inb (nI j) 24 = true := inb_nI (by omega) (by decide)
    have cl : (nI j).toNatClampNeg = j := nI_clamp (by omega)
    obtain ⟨he, ⟨b, hb1, hb2, eb⟩, hpop⟩ := hch j hj
    rw [eb] at he
    have hpb : pop (nI b) = (blN b).length := blN_leq hb2
    have hl : (blN b).length ≤ 6 := by rw [← hpb, ← eb]; exact hpop
    have hlb : (bl (nI b)).length ≤ 6 := by rw [bl_nI]; exact hl
    have hcwo := cw_open hn6 hsec hcw mopen
    have hop := loN_small hn6 hsec.sub hsec.mcols mopen
    have hopn := loN_smalln hn6 hsec.sub hsec.mcols mopen
    have hlo := laysOpen_eq (show z ≤ 17 by omega) (col := mcol) hsec.sub mopen
    generalize loN msubj mcol (loZ mopen 10) z = OP at hcwo hop hopn hlo
    obtain ⟨wo', f1, f2, f3⟩ := findsM hn6 hopn 8 b 0 mwo hb2 (by decide) (by omega)
    obtain ⟨t', hnum⟩ := numberOf_eq cw (nI b) wt
    have hways := waysM hop 8 b 0 hb2 (by decide) (by omega)
    have hbits : ∀ s ∈ blN b, ∀ c, c < 6 → bt (OP s) c = bt (cw s) c := fun s hs c _ => by rw [hcwo s (blN_mem hs)]
    have hnwe : nw OP (blN b) 0 = nw cw (bl (nI b)) 0 := by rw [bl_nI]; exact nw_congr hbits
    have hwye : wy OP (blN b) 0 = wy cw (bl (nI b)) 0 := by rw [bl_nI]; exact wy_congr hbits
    rw [nI_0, hwye] at f1
    rw [nI_0, hnwe] at hways
    have e77 : ∀ (tt : Int32) (rw' : Nat → Int32), m_X6_ways_77 0 tt rw' mch OP wo' (nI j) = some (nI (nw cw (bl (nI b)) 0), 0, tt, rw', OP, wo') := by
      intro tt rw'
      unfold m_X6_ways_77
      rw [i24, gd_tt, cl, eb, hways, bk1]
    cases hw : wy cw (bl (nI b)) 0
    · obtain ⟨A, ff⟩ := (findFirst_eq cw (nI b) wf wsa hlb).1 hw
      have f1' : m_X6_findsFirst 8 (nI n) OP mwo (nI b) 0 = some (0, wo') := by rw [f1, hw]; rfl
      have lp : it3 (m_X6_ways_38 0 mch OP wo' (nI j) 0) 1100 0 0 row = m_X6_ways_77 0 0 row mch OP wo' (nI j) :=
        seq3 (z := 0) (fun _ => (0 : Int32)) (fun _ => (0 : Int32)) (fun _ => row) (by decide) (fun rec => by unfold m_X6_ways_38; rw [if_neg (by decide), if_pos rfl]) (fun rec s hs => absurd hs (by omega))
      have ex : m_X5_ways tc cw (nI k) rch wf wsa wt told (nI j) = some (nI (nw cw (bl (nI b)) 0), 0, wf, A, t', told) := by
        unfold m_X5_ways
        rw [X1_has_eq hk', if_pos h, bk1, if_neg (by decide), i24, gd_tt, cl, he, lt_t, ff, bk3, if_pos rfl]
        unfold m_X5_ways_54
        rw [hnum, bk2]
      have em : m_X6_ways mth mt (nI n) (nI z) (nI k) row msubj mcol mch mopen mwo (nI j) = some (nI (nw cw (bl (nI b)) 0), 0, 0, row, OP, wo') := by
        unfold m_X6_ways
        rw [X6_isPupil_eq hk', if_pos h, bk1, if_neg (by decide), hlo, bk1, i24, gd_tt, cl, eb, f1', bk2, lp, e77]
      exact ⟨_, _, _, _, _, _, _, _, _, _, _, ex, em, RRow_0 _ _, htext, ⟨rfl, rfl, rfl, n, r, z, ⟨hn1, hn6, rfl⟩, ⟨hr1, hr9, rfl⟩, ⟨hz, rfl⟩, hbars, hsec, hcw, hroom⟩, ⟨rfl, rfl, k, hk, rfl, hch⟩⟩
    · obtain ⟨A, L, fL, ff⟩ := (findFirst_eq cw (nI b) wf wsa hlb).2 hw
      have f1' : m_X6_findsFirst 8 (nI n) OP mwo (nI b) 0 = some (1, wo') := by rw [f1, hw]; rfl
      obtain ⟨M, fM, fm⟩ := f3 (by rw [hwye]; exact hw)
      have hLM : L = M := by
        refine isFW_uni fL ?_
        rw [bl_nI]
        exact isFW_congr hbits fM
      subst hLM
      have hLl : L.length = (blN b).length := by rw [isFW_len fL, bl_nI]
      have ex : m_X5_ways tc cw (nI k) rch wf wsa wt told (nI j) = some (nI (nw cw (bl (nI b)) 0), nI (blN b).length, putL wf 0 L, A, t', putW (putL wf 0 L) told (blN b).length) := by
        unfold m_X5_ways
        rw [X1_has_eq hk', if_pos h, bk1, if_neg (by decide), i24, gd_tt, cl, he, lt_t, ff, bk3, if_neg (by decide), bitCount_eq, bk1, hpb, tellFW_eq hl, bk2]
        unfold m_X5_ways_54
        rw [hnum, bk2]
      have em : m_X6_ways mth mt (nI n) (nI z) (nI k) row msubj mcol mch mopen mwo (nI j) = some (nI (nw cw (bl (nI b)) 0), 0, nI (blN b).length, putV row 0 ((blN b).map wo'), OP, wo') := by
        unfold m_X6_ways
        rw [X6_isPupil_eq hk', if_pos h, bk1, if_neg (by decide), hlo, bk1, i24, gd_tt, cl, eb, f1', bk2, ways_loop (by omega) eb, e77]
      refine ⟨_, _, _, _, _, _, _, _, _, _, _, ex, em, ⟨rfl, _, hl, rfl, fun i hi => ?_⟩, htext, ⟨rfl, rfl, rfl, n, r, z, ⟨hn1, hn6, rfl⟩, ⟨hr1, hr9, rfl⟩, ⟨hz, rfl⟩, hbars, hsec, hcw, hroom⟩, ⟨rfl, rfl, k, hk, rfl, hch⟩⟩
      have hi' : i < L.length := by omega
      have q1 : L[i]? = some L[i] := List.getElem?_eq_getElem hi'
      rw [putW_at _ _ _ i hi, fm]
      have a1 := putL_at L wf 0 i L[i] q1
      have a2 := putV_at (L.map nI) row 0 i (nI L[i]) (by rw [List.getElem?_map, q1]; rfl)
      rw [Nat.zero_add] at a1 a2
      rw [a1, a2]
  · unfold m_X5_ways m_X6_ways
    simp only [X1_has_eq hk', X6_isPupil_eq hk', h, bk1, ↓reduceIte]
    exact ⟨_, _, _, _, _, _, _, _, _, _, _, rfl, rfl, hR0⟩
