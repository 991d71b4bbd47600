/-! the fewest moves for one -/
theorem first2 (P : Nat → Nat → Prop) (n : Nat) (z : Nat) : (∀ j, j < z → ∀ c, c < n → ¬ P j c) ∨ ∃ j c, j < z ∧ c < n ∧ P j c ∧ (∀ c', c' < c → ¬ P j c') ∧ (∀ j', j' < j → ∀ c', c' < n → ¬ P j' c') := by
  rcases first_or (fun j => ∃ c, c < n ∧ P j c) z with h | ⟨j, hj, ⟨c0, hc0, hp0⟩, hk⟩
  · exact Or.inl (fun j hj c hc hp => h j hj ⟨c, hc, hp⟩)
  · rcases first_or (fun c => P j c) n with h | ⟨c, hc, hp, hc'⟩
    · exact absurd hp0 (h c0 hc0)
    · exact Or.inr ⟨j, c, hj, hc, hp, hc', fun j' hj' c' hc' hp' => hk j' hj' ⟨c', hc', hp'⟩⟩
theorem bl_perm {x : Int32} {a : Nat} (ha : a < 10) (hb : bt x a = true) : List.Perm (bl x) (a :: bl (x &&& (((1 : Int32) <<< (nI a &&& 31)) ^^^ (-1)))) := by
  have hmem : a ∈ bl x := List.mem_filter.mpr ⟨List.mem_range.mpr ha, hb⟩
  have hnd : (bl x).Nodup := List.Pairwise.filter _ List.nodup_range
  have h1 := List.perm_cons_erase hmem
  have h2 : (bl x).erase a = bl (x &&& (((1 : Int32) <<< (nI a &&& 31)) ^^^ (-1))) := by
    rw [hnd.erase_eq_filter]
    unfold bl
    rw [List.filter_filter]
    refine List.filter_congr (fun s hs => ?_)
    have hs : s < 10 := List.mem_range.mp hs
    rw [b_and, p_not _ (by omega), p_bit (by omega) (by omega)]
    by_cases e : s = a
    · subst e; simp
    · simp [e]
  rw [h2] at h1
  exact h1
theorem bl_notin {x : Int32} {a : Nat} : ∀ s ∈ bl (x &&& (((1 : Int32) <<< (nI a &&& 31)) ^^^ (-1))), a < 10 → s ≠ a := by
  rintro s hs ha rfl
  have := (List.mem_filter.mp hs).2
  rw [b_and, p_not _ (by omega), p_bit (by omega) (by omega)] at this
  simp at this
theorem bt63 : ∀ c, c < 6 → bt 63 c = true := by decide
theorem wy_any (cw : Nat → Int32) (a : Nat) (S : List Nat) : wy cw (a :: S) 0 = (List.range 6).any (fun d => bt (cw a) d && wy cw S (2 ^ d)) := by
  rw [wy]
  refine any_congr' (fun d _ => ?_)
  simp
theorem helpful_eq {n z j b : Nat} (hn : n ≤ 6) (hz : z ≤ 16) (hj : j < z) {subj col cw : Nat → Int32} (hok : okSC n z subj col) (hcw : RCw z subj col cw) (x : Int32) :
    ∃ H, m_X0_helpfulColumns (nI n) (nI z) subj col cw (nI j) x = some H ∧ ∀ c, c < n → bt H c = wy (fun s => cwW z subj (upd col j (nI c)) s) (bl x) 0 := by
  obtain ⟨⟨a, ha, hs⟩, hcj⟩ := hok j hj
  have i16 : inb (nI j) 16 = true := inb_nI (by omega) (by decide)
  have cl : (nI j).toNatClampNeg = j := nI_clamp (by omega)
  have hmv : ∀ c, c < n → okSC n z subj (upd col j (nI c)) := fun c hc => okSC_upd hok (Or.inr ⟨c, hc, rfl⟩)
  have hsame : ∀ c, c < n → ∀ s, s < 10 → s ≠ a → cwW z subj (upd col j (nI c)) s = cw s := by
    intro c hc s hs' hsa
    have h1 := RCw_place hn hz ha hok hs hcw (v := nI c) (Or.inr ⟨c, hc, rfl⟩)
    rw [cwW_eq hn hz (hmv c hc) h1 hs', upd_n hsa]
  unfold m_X0_helpfulColumns
  simp only [i16, cl, gd_tt, lt_t, hs, hasBit_eq (show a < 32 by omega), bk1]
  cases hb : bt x a
  · simp only [Bool.false_eq_true, ↓reduceIte, hasWayX_eq, bk1, fl_0]
    have hw : ∀ c, c < n → wy (fun s => cwW z subj (upd col j (nI c)) s) (bl x) 0 = wy cw (bl x) 0 := fun c hc => wy_congr (fun s hs' d _ => by
      have h10 := bl_lt hs'
      have hsa : s ≠ a := by
        rintro rfl
        have := (List.mem_filter.mp hs').2
        rw [hb] at this; cases this
      rw [hsame c hc s h10 hsa])
    cases e : wy cw (bl x) 0
    · exact ⟨0, by rw [if_pos rfl], fun c hc => by rw [hw c hc, e, b_0]⟩
    · exact ⟨63, by rw [if_neg (by decide)], fun c hc => by rw [hw c hc, e, bt63 c (by omega)]⟩
  · simp only [↓reduceIte, e10, startsFor_eq, bk1]
    obtain ⟨y, hy⟩ : ∃ y, y = x &&& (((1 : Int32) <<< (nI a &&& 31)) ^^^ (-1)) := ⟨_, rfl⟩
    obtain ⟨W, hW⟩ : ∃ W, W = sjF col (fun i => decide (¬ nI i = nI j ∧ subj i = nI a ∧ ¬ col i = -1)) z := ⟨_, rfl⟩
    rw [← hy]
    have hst : ∀ c, c < 6 → (sfN cw y 10).testBit (2 ^ c) = wy cw (bl y) (2 ^ c) := fun c hc => by
      rw [sfN_bit cw y 10 (2 ^ c) (one_shl c hc).2]
      exact wy_perm (List.reverse_perm _) _
    have hWb : ∀ d, d < 32 → (bt W d = true ↔ ∃ i, i < z ∧ i ≠ j ∧ subj i = nI a ∧ col i = nI d) := by
      intro d hd
      rw [hW, sjF_bit hd z (fun i hi hp => by
        rcases (hok i hi).2 with e | ⟨q, hq, e⟩
        · exact absurd e (of_decide_eq_true hp).2.2
        · exact ⟨q, by omega, e⟩)]
      constructor
      · rintro ⟨i, hi, h1, h2⟩
        have := of_decide_eq_true h1
        exact ⟨i, hi, fun e => this.1 (by rw [e]), this.2.1, h2⟩
      · rintro ⟨i, hi, h1, h2, h3⟩
        exact ⟨i, hi, decide_eq_true ⟨fun e => h1 (nI_inj (by omega) (by omega) e), h2, by rw [h3]; exact nI_nm1 (by omega)⟩, h3⟩
    have hWn : ∀ d, d < 32 → bt W d = true → d < n := by
      intro d hd h
      obtain ⟨i, hi, -, -, h3⟩ := (hWb d hd).mp h
      rcases (hok i hi).2 with e | ⟨q, hq, e⟩
      · rw [e] at h3; exact absurd h3.symm (nI_nm1 (by omega))
      · rw [e] at h3
        have := nI_inj (by omega) (by omega) h3
        omega
    have eL : it2 (m_X0_helpfulColumns_52 (nI n) (nI z) subj col (nI j) (nI a) (lN (sfN cw y 10))) 1100 0 0 = m_X0_helpfulColumns_92 (nI z) subj col (nI j) (nI a) (msk (fun c => wy cw (bl y) (2 ^ c)) n) := by
      refine mask_loop0 (z := n) (P := fun c => wy cw (bl y) (2 ^ c)) (E := fun acc => m_X0_helpfulColumns_92 (nI z) subj col (nI j) (nI a) acc) (by omega) (fun rec acc => ?_) (fun rec c hc acc => ?_)
      · unfold m_X0_helpfulColumns_52; rw [if_pos (Int32.le_refl _)]
      · unfold m_X0_helpfulColumns_52
        rw [if_neg (nI_ge hc (by omega)), (one_shl c (by omega)).1, isStart_eq (sfN_lt cw y 10) (one_shl c (by omega)).2, bk1, hst c (by omega)]
        simp only [fl_0]
        cases wy cw (bl y) (2 ^ c)
        · simp only [↓reduceIte, lt_t, Bool.false_eq_true]
        · simp only [Bool.true_eq_false, ↓reduceIte, lt_t]
    rw [eL]
    unfold m_X0_helpfulColumns_92
    rw [columnsWithout_eq hz, bk1, ← hW]
    have key : ∀ c, c < n → (wy (fun s => cwW z subj (upd col j (nI c)) s) (bl x) 0 = true ↔ (∃ d, d < n ∧ bt W d = true ∧ wy cw (bl y) (2 ^ d) = true) ∨ wy cw (bl y) (2 ^ c) = true) := by
      intro c hc
      have hws : ∀ u, wy (fun s => cwW z subj (upd col j (nI c)) s) (bl y) u = wy cw (bl y) u := fun u => wy_congr (fun s hs' d _ => by
        rw [hy] at hs'
        rw [hsame c hc s (bl_lt hs') (bl_notin s hs' ha)])
      rw [wy_perm (bl_perm ha hb) 0, ← hy, wy_any, List.any_eq_true]
      constructor
      · rintro ⟨d, hd, h⟩
        have hd : d < 6 := List.mem_range.mp hd
        rw [Bool.and_eq_true, hws] at h
        obtain ⟨i, hi, h1, h2⟩ := (cwW_bit hn hz (hmv c hc) a (show d < 32 by omega)).mp h.1
        by_cases e : i = j
        · subst e
          rw [upd_s] at h2
          have := nI_inj (by omega) (by omega) h2
          subst this
          exact Or.inr h.2
        · rw [upd_n e] at h2
          have hWd := (hWb d (by omega)).mpr ⟨i, hi, e, h1, h2⟩
          exact Or.inl ⟨d, hWn d (by omega) hWd, hWd, h.2⟩
      · rintro (⟨d, hd, h1, h2⟩ | h2)
        · obtain ⟨i, hi, g1, g2, g3⟩ := (hWb d (by omega)).mp h1
          refine ⟨d, List.mem_range.mpr (by omega), ?_⟩
          rw [Bool.and_eq_true, hws]
          exact ⟨(cwW_bit hn hz (hmv c hc) a (by omega)).mpr ⟨i, hi, g2, by rw [upd_n g1]; exact g3⟩, h2⟩
        · refine ⟨c, List.mem_range.mpr (by omega), ?_⟩
          rw [Bool.and_eq_true, hws]
          exact ⟨(cwW_bit hn hz (hmv c hc) a (by omega)).mpr ⟨j, hj, hs, upd_s⟩, h2⟩
    by_cases h0 : W &&& msk (fun c => wy cw (bl y) (2 ^ c)) n = 0
    · refine ⟨_, by rw [if_pos h0], fun c hc => b_iff ?_⟩
      rw [key c hc, msk_bt _ n (by omega)]
      simp only [hc, decide_true, Bool.true_and]
      constructor
      · intro h; exact Or.inr h
      · rintro (⟨d, hd, h1, h2⟩ | h2)
        · exfalso
          have := congrArg (fun v => bt v d) h0
          simp only [b_and, b_0, msk_bt _ n (show n ≤ 32 by omega), h1, hd, decide_true, h2, Bool.and_self] at this
          cases this
        · exact h2
    · refine ⟨63, by rw [if_neg h0], fun c hc => b_iff ?_⟩
      rw [key c hc, bt63 c (by omega)]
      refine ⟨fun _ => Or.inl ?_, fun _ => rfl⟩
      rcases first_or (fun d => bt W d = true ∧ wy cw (bl y) (2 ^ d) = true) n with h | ⟨d, hd, h1, -⟩
      · exfalso
        apply h0
        refine b_ext (fun d hd => ?_)
        rw [b_and, b_0, msk_bt _ n (by omega)]
        by_cases hdn : d < n
        · have := h d hdn
          cases e1 : bt W d
          · simp
          · cases e2 : wy cw (bl y) (2 ^ d)
            · simp
            · exact absurd ⟨e1, e2⟩ this
        · simp [hdn]
      · exact ⟨d, hd, h1.1, h1.2⟩
theorem allFit_eq {k : Nat} (hk : k ≤ 24) (cw ch : Nat → Int32) (who : Int32) : m_X5_allFit cw (nI k) ch who = some (fl (decide (∀ p, p < k → bt who p = true → wy cw (bl (ch p)) 0 = true))) := by
  have step : ∀ (rec : Int32 → Option Int32) (p : Nat), p < k → m_X5_allFit_2 cw (nI k) ch who rec (nI p) = if bt who p = true ∧ ¬ wy cw (bl (ch p)) 0 = true then some 0 else rec (nI p + 1) := by
    intro rec p hp
    have i24 : inb (nI p) 24 = true := inb_nI (by omega) (by decide)
    have cl : (nI p).toNatClampNeg = p := nI_clamp (by omega)
    unfold m_X5_allFit_2
    simp only [nI_ge hp (show k < 2 ^ 31 by omega), ↓reduceIte, hasBit_eq (show p < 32 by omega), bk1, i24, gd_tt, cl, hasWayX_eq, fl_0, lt_t]
    cases bt who p
    · simp
    · cases wy cw (bl (ch p)) 0
      · simp
      · simp
  unfold m_X5_allFit
  rcases first_or (fun p => bt who p = true ∧ ¬ wy cw (bl (ch p)) 0 = true) k with h | ⟨p, hp, h1, h2⟩
  · rw [decide_eq_true (fun p hp hb => Classical.byContradiction (fun hw => h p hp ⟨hb, hw⟩))]
    exact find1_no (z := k) (by omega) (fun rec => by unfold m_X5_allFit_2; rw [if_pos (Int32.le_refl _)]; rfl) (fun rec p hp => by rw [step rec p hp, if_neg (h p hp)])
  · rw [decide_eq_false (fun h => h1.2 (h p hp h1.1))]
    exact find1_no (z := p) (by omega) (fun rec => by rw [step rec p hp, if_pos h1]; rfl) (fun rec q hq => by rw [step rec q (by omega), if_neg (h2 q hq)])
theorem held_iff {k : Nat} (hk : k ≤ 24) {cw cv ch : Nat → Int32} {kept : Int32} : (∀ p, p < k → bt (fitS cw ch k &&& kept) p = true → wy cv (bl (ch p)) 0 = true) ↔ fitS cw ch k &&& (fitS cv ch k ^^^ (-1)) &&& kept = 0 := by
  constructor
  · intro h
    refine b_ext (fun i hi => ?_)
    rw [b_and, b_and, p_not _ hi, b_0, fitS_bt hk, fitS_bt hk]
    by_cases hik : i < k
    · have := h i hik
      rw [b_and, fitS_bt hk] at this
      simp only [hik, decide_true, Bool.true_and] at this ⊢
      cases e1 : wy cw (bl (ch i)) 0
      · simp
      · cases e2 : bt kept i
        · simp
        · rw [this (by rw [e1, e2]; rfl)]; simp
    · simp [hik]
  · intro h p hp hb
    have := congrArg (fun v => bt v p) h
    simp only [b_and, p_not _ (show p < 32 by omega), b_0, fitS_bt hk, hp, decide_true, Bool.true_and] at this
    rw [b_and, fitS_bt hk] at hb
    simp only [hp, decide_true, Bool.true_and, Bool.and_eq_true] at hb
    rw [hb.1, hb.2] at this
    simpa using this
