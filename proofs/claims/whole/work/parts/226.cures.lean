theorem it4_s {A0 A1 A2 A3 B : Type} {b : (A0 → A1 → A2 → A3 → Option B) → A0 → A1 → A2 → A3 → Option B} {f g : Nat} (h : f = g + 1) (a0 : A0) (a1 : A1) (a2 : A2) (a3 : A3) : it4 b f a0 a1 a2 a3 = b (it4 b g) a0 a1 a2 a3 := by subst h; rfl
theorem by_eval {n z k p d : Nat} (hn : n ≤ 6) (hz : z ≤ 16) (hk : k ≤ 24) (hp : p < k) {subj teach seats col msubj mteach mseats mcol ch mch : Nat → Int32} (h : RSec n z subj teach seats col msubj mteach mseats mcol) (hr : okRoll k ch mch) (rw_ : Int32) (mbars : Nat → Int32) (kept now v : Int32) (o cu : Nat → Int32) :
    it16 m_X6_curesBy_B (d + 1) (nI n) rw_ (nI z) (nI k) kept msubj mteach mcol mbars mch o cu (nI p) now v v = some (fl (curG z k subj ch (ch p) now kept col), mcol, loN msubj mcol (loZ o 10) z, cu) := by
  show m_X6_curesBy_B (it16 m_X6_curesBy_B d) (nI n) rw_ (nI z) (nI k) kept msubj mteach mcol mbars mch o cu (nI p) now v v = _
  generalize it16 m_X6_curesBy_B d = self
  have hb : bt (fitC z subj col ch k) p = wy (fun s => cwW z subj col s) (bl (ch p)) 0 := by
    unfold fitC
    rw [fitS_bt hk]
    simp [hp]
  unfold m_X6_curesBy_B curG
  simp only [↓reduceIte, fitM hn hz hk h hr, bk2, has_eq (show p < 32 by omega), hb, bk1, heldM, fl_0]
  cases wy (fun s => cwW z subj col s) (bl (ch p)) 0
  · simp only [Bool.false_eq_true, ↓reduceIte, Bool.false_and, fl]
  · by_cases h2 : now &&& (fitC z subj col ch k ^^^ (-1)) &&& kept = 0
    · simp only [h2, ↓reduceIte, e10, decide_true, Bool.and_self, Bool.true_eq_false, fl]
    · simp only [h2, ↓reduceIte, e10, decide_false, Bool.and_false, fl, Bool.false_eq_true]
theorem RRow_0 (told : Nat → Int64) (row : Nat → Int32) : RRow 0 told 0 row := ⟨rfl, 0, by omega, rfl, fun j hj => absurd hj (by omega)⟩
theorem cures_row (th : Int32) (col o cu row : Nat → Int32) : m_X6_cures_41 th row col o cu 0 = some (0, th, 0, row, col, o, cu) ∧ m_X6_cures_41 th row col o cu 1 = some (1, th, 1, upd row 0 (cu 0), col, o, cu) ∧ m_X6_cures_41 th row col o cu 2 = some (2, th, 2, upd (upd row 0 (cu 0)) 1 (cu 1), col, o, cu) := ⟨rfl, rfl, rfl⟩
theorem sim_cures : Sim_cures := by
  intro tc told ts tg cc rc sz bars subj teach seats col cw rs rk rch mt row tp tape mc mr mm mbars msubj mteach mseats mcol mp mk mch mth mopen mcure v1 hR
  have hR0 := hR
  obtain ⟨hrow, htext, ⟨rfl, rfl, rfl, n, r, z, ⟨hn1, hn6, rfl⟩, ⟨hr1, hr9, rfl⟩, ⟨hz, rfl⟩, hbars, hsec, hcw, hroom⟩, ⟨rfl, rfl, k, hk, rfl, hch⟩⟩ := hR
  have hk' : k < 2 ^ 31 := by omega
  unfold m_X5_cures m_X6_cures
  by_cases h : 0 ≤ v1.toInt ∧ v1.toInt < k
  · obtain ⟨p, hp, rfl⟩ := rng_of h hk'
    have i24 : inb (nI p) 24 = true := inb_nI (by omega) (by decide)
    have cl : (nI p).toNatClampNeg = p := nI_clamp (by omega)
    simp only [X1_has_eq hk', X6_isPupil_eq hk', h, and_self, bk1, bk2, ↓reduceIte, e10, i24, gd_tt, cl, lt_t, hasWayX_eq, fl_0, fitX hn6 hz hk hsec.ok hcw hch, fitM hn6 hz hk hsec hch]
    generalize loN msubj mcol (loZ mopen 10) z = o1
    obtain ⟨now, hnow⟩ : ∃ now, now = fitC z subj col rch k := ⟨_, rfl⟩
    rw [← hnow]
    have hnow' : now = fitS (fun s => cwW z subj col s) rch k := hnow
    have hwc : wy (fun s => cwW z subj col s) (bl (rch p)) 0 = wy cw (bl (rch p)) 0 := wy_eq (fun s hs => cwW_eq hn6 hz hsec.ok hcw hs) _ _
    have hself : now &&& (fitC z subj col rch k ^^^ (-1)) &&& rk = 0 := by
      rw [← hnow]
      refine b_ext (fun i hi => ?_)
      rw [b_and, b_and, p_not _ hi, b_0]
      cases bt now i <;> simp
    have hG0 : curG z k subj rch (rch p) now rk col = wy cw (bl (rch p)) 0 := by
      unfold curG
      rw [hwc, decide_eq_true hself, Bool.and_true]
    have hte : ∀ i, i < z → ∃ t : Nat, t < 10 ∧ teach i = nI t := fun i hi => by obtain ⟨-, -, q3, ⟨t, ht, q4⟩, -⟩ := hsec i hi; exact ⟨t, ht, q3.trans q4⟩
    have hmvR : ∀ j c, c < n → RSec n z subj teach seats (upd col j (nI c)) msubj mteach mseats (upd mcol j (nI c)) := fun j c hc => hsec.mv (j := j) (Or.inr ⟨c, hc, rfl, rfl⟩)
    -- depth 0
    have b0 : ∀ o cu, m_X6_curesBy 4 (nI n) (nI r) (nI z) (nI k) rk msubj mteach mcol mbars mch o cu (nI p) now 0 0 = some (fl (wy cw (bl (rch p)) 0), mcol, loN msubj mcol (loZ o 10) z, cu) := fun o cu => by
      rw [← hG0]
      exact by_eval (d := 3) hn6 hz hk hp hsec hch (nI r) mbars rk now 0 o cu
    have u0 : it4 (m_X6_cures_22 0 mt (nI n) (nI r) (nI z) (nI k) rk row msubj mteach mbars mch (nI p) now) 1100 0 mcol o1 mcure = m_X6_cures_22 0 mt (nI n) (nI r) (nI z) (nI k) rk row msubj mteach mbars mch (nI p) now (it4 (m_X6_cures_22 0 mt (nI n) (nI r) (nI z) (nI k) rk row msubj mteach mbars mch (nI p) now) 1099) 0 mcol o1 mcure := it4_s (show 1100 = 1099 + 1 from rfl) _ _ _ _
    have u1 : ∀ o cu, it4 (m_X6_cures_22 0 mt (nI n) (nI r) (nI z) (nI k) rk row msubj mteach mbars mch (nI p) now) 1099 1 mcol o cu = m_X6_cures_22 0 mt (nI n) (nI r) (nI z) (nI k) rk row msubj mteach mbars mch (nI p) now (it4 (m_X6_cures_22 0 mt (nI n) (nI r) (nI z) (nI k) rk row msubj mteach mbars mch (nI p) now) 1098) 1 mcol o cu := fun o cu => it4_s (show 1099 = 1098 + 1 from rfl) _ _ _ _
    have u2 : ∀ o cu, it4 (m_X6_cures_22 0 mt (nI n) (nI r) (nI z) (nI k) rk row msubj mteach mbars mch (nI p) now) 1098 2 mcol o cu = m_X6_cures_22 0 mt (nI n) (nI r) (nI z) (nI k) rk row msubj mteach mbars mch (nI p) now (it4 (m_X6_cures_22 0 mt (nI n) (nI r) (nI z) (nI k) rk row msubj mteach mbars mch (nI p) now) 1097) 2 mcol o cu := fun o cu => it4_s (show 1098 = 1097 + 1 from rfl) _ _ _ _
    have u3 : ∀ o cu, it4 (m_X6_cures_22 0 mt (nI n) (nI r) (nI z) (nI k) rk row msubj mteach mbars mch (nI p) now) 1097 3 mcol o cu = some (-2, 0, mt, row, mcol, o, cu) := fun o cu => by
      rw [it4_s (show 1097 = 1096 + 1 from rfl)]
      generalize it4 (m_X6_cures_22 0 mt (nI n) (nI r) (nI z) (nI k) rk row msubj mteach mbars mch (nI p) now) 1096 = rec
      unfold m_X6_cures_22
      rw [if_pos (by decide)]
    rw [u0]
    generalize it4 (m_X6_cures_22 0 mt (nI n) (nI r) (nI z) (nI k) rk row msubj mteach mbars mch (nI p) now) 1099 = rec1 at u1
    unfold m_X6_cures_22
    rw [if_neg (show ¬ (3 : Int32) ≤ 0 by decide), b0, bk4]
    cases hw : wy cw (bl (rch p)) 0
    · rw [if_pos (show (false = false) from rfl), if_pos (show fl false = 0 by decide), lt_t, show (0 : Int32) + 1 = 1 from rfl, u1]
      generalize loN msubj mcol (loZ o1 10) z = o2
      generalize it4 (m_X6_cures_22 0 mt (nI n) (nI r) (nI z) (nI k) rk row msubj mteach mbars mch (nI p) now) 1098 = rec2 at u2
      unfold m_X6_cures_22
      rw [if_neg (show ¬ (3 : Int32) ≤ 1 by decide)]
      -- depth 1
      have c1 : ∀ o cu, m_X6_curesBy 4 (nI n) (nI r) (nI z) (nI k) rk msubj mteach mcol mbars mch o cu (nI p) now 0 1 = it4 (m_X6_curesBy_40 (nI n) (nI r) (nI z) (nI k) rk msubj mteach mbars mch (nI p) now (nI 0) 1 (it16 m_X6_curesBy_B 3)) 1100 0 mcol o cu := fun o cu => by
        show m_X6_curesBy_B (it16 m_X6_curesBy_B 3) (nI n) (nI r) (nI z) (nI k) rk msubj mteach mcol mbars mch o cu (nI p) now 0 1 = _
        generalize it16 m_X6_curesBy_B 3 = self
        unfold m_X6_curesBy_B
        rw [if_neg (by decide), nI_0]
      have hs1 : ∀ j c, j < z → c < n → ∀ o cu, ∃ o' cu', it16 m_X6_curesBy_B 3 (nI n) (nI r) (nI z) (nI k) rk msubj mteach (upd mcol j (nI c)) mbars mch o cu (nI p) now (nI (0 + 1)) 1 = some (fl (curG z k subj rch (rch p) now rk (upd col j (nI c))), upd mcol j (nI c), o', cu') ∧ (∀ i, i ≤ 0 → cu' i = cu i) ∧ (curG z k subj rch (rch p) now rk (upd col j (nI c)) = true → True) :=
        fun j c hj hc o cu => ⟨_, _, by_eval (d := 2) hn6 hz hk hp (hmvR j c hc) hch (nI r) mbars rk now 1 o cu, fun i hi => rfl, fun _ => trivial⟩
      rcases first2 (fun j c => curP r z k bars subj teach rch (rch p) now rk col j c = true) n z with hno | ⟨j, c, hj, hc, hpp, hpc, hpj⟩
      · -- depth 2
        obtain ⟨o3, cu3, -, e3⟩ := by_none (H := fun _ _ _ => True) hn6 hr9 hz (show 0 < 2 by decide) hbars hsec rk (nI p) now 1 hs1 o2 mcure hno
        rw [c1, e3, bk4, if_pos rfl, lt_t, show (1 : Int32) + 1 = 2 from rfl, u2]
        generalize it4 (m_X6_cures_22 0 mt (nI n) (nI r) (nI z) (nI k) rk row msubj mteach mbars mch (nI p) now) 1097 = rec3 at u3
        unfold m_X6_cures_22
        rw [if_neg (show ¬ (3 : Int32) ≤ 2 by decide), last_none hn6 hr9 hz hk hsec.ok hcw hte hnow' hno, bk3, if_pos rfl]
        have c2 : ∀ o cu, m_X6_curesBy 4 (nI n) (nI r) (nI z) (nI k) rk msubj mteach mcol mbars mch o cu (nI p) now 0 2 = it4 (m_X6_curesBy_40 (nI n) (nI r) (nI z) (nI k) rk msubj mteach mbars mch (nI p) now (nI 0) 2 (it16 m_X6_curesBy_B 3)) 1100 0 mcol o cu := fun o cu => by
          show m_X6_curesBy_B (it16 m_X6_curesBy_B 3) (nI n) (nI r) (nI z) (nI k) rk msubj mteach mcol mbars mch o cu (nI p) now 0 2 = _
          generalize it16 m_X6_curesBy_B 3 = self
          unfold m_X6_curesBy_B
          rw [if_neg (by decide), nI_0]
        have c3 : ∀ mc o cu, it16 m_X6_curesBy_B 3 (nI n) (nI r) (nI z) (nI k) rk msubj mteach mc mbars mch o cu (nI p) now (nI (0 + 1)) 2 = it4 (m_X6_curesBy_40 (nI n) (nI r) (nI z) (nI k) rk msubj mteach mbars mch (nI p) now (nI 1) 2 (it16 m_X6_curesBy_B 2)) 1100 0 mc o cu := fun mc o cu => by
          show m_X6_curesBy_B (it16 m_X6_curesBy_B 2) (nI n) (nI r) (nI z) (nI k) rk msubj mteach mc mbars mch o cu (nI p) now (nI (0 + 1)) 2 = _
          generalize it16 m_X6_curesBy_B 2 = self
          unfold m_X6_curesBy_B
          rw [if_neg (by decide)]
        have hs2 : ∀ j c, j < z → c < n → ∀ o cu, ∃ o' cu', it16 m_X6_curesBy_B 3 (nI n) (nI r) (nI z) (nI k) rk msubj mteach (upd mcol j (nI c)) mbars mch o cu (nI p) now (nI (0 + 1)) 2 = some (fl (anyP (curP r z k bars subj teach rch (rch p) now rk (upd col j (nI c))) n z), upd mcol j (nI c), o', cu') ∧ (∀ i, i ≤ 0 → cu' i = cu i) ∧
            (anyP (curP r z k bars subj teach rch (rch p) now rk (upd col j (nI c))) n z = true → ∃ j2 c2, j2 < z ∧ c2 < n ∧ curP r z k bars subj teach rch (rch p) now rk (upd col j (nI c)) j2 c2 = true ∧ (∀ c', c' < c2 → ¬ curP r z k bars subj teach rch (rch p) now rk (upd col j (nI c)) j2 c' = true) ∧ (∀ j', j' < j2 → ∀ c', c' < n → ¬ curP r z k bars subj teach rch (rch p) now rk (upd col j (nI c)) j' c' = true) ∧ cu' 1 = nI (100 * j2 + c2)) := by
          intro j c hj hc o cu
          rw [c3]
          have hs3 : ∀ j2 c2, j2 < z → c2 < n → ∀ o cu, ∃ o' cu', it16 m_X6_curesBy_B 2 (nI n) (nI r) (nI z) (nI k) rk msubj mteach (upd (upd mcol j (nI c)) j2 (nI c2)) mbars mch o cu (nI p) now (nI (1 + 1)) 2 = some (fl (curG z k subj rch (rch p) now rk (upd (upd col j (nI c)) j2 (nI c2))), upd (upd mcol j (nI c)) j2 (nI c2), o', cu') ∧ (∀ i, i ≤ 1 → cu' i = cu i) ∧ (curG z k subj rch (rch p) now rk (upd (upd col j (nI c)) j2 (nI c2)) = true → True) :=
            fun j2 c2 hj2 hc2 o cu => ⟨_, _, by_eval (d := 1) hn6 hz hk hp ((hmvR j c hc).mv (j := j2) (Or.inr ⟨c2, hc2, rfl, rfl⟩)) hch (nI r) mbars rk now 2 o cu, fun i hi => rfl, fun _ => trivial⟩
          rcases first2 (fun j2 c2 => curP r z k bars subj teach rch (rch p) now rk (upd col j (nI c)) j2 c2 = true) n z with hno2 | ⟨j2, c2, hj2, hc2, hp2, hpc2, hpj2⟩
          · obtain ⟨o', cu', g1, g2⟩ := by_none (H := fun _ _ _ => True) hn6 hr9 hz (show 1 < 2 by decide) hbars (hmvR j c hc) rk (nI p) now 2 hs3 o cu hno2
            rw [anyP_f hno2]
            exact ⟨o', cu', g2, fun i hi => g1 i (by omega), fun e => by cases e⟩
          · obtain ⟨o', cu', g1, g2, -, g3⟩ := by_some (H := fun _ _ _ => True) hn6 hr9 hz (show 1 < 2 by decide) hbars (hmvR j c hc) rk (nI p) now 2 hs3 o cu hj2 hc2 hp2 hpc2 hpj2
            rw [anyP_t hj2 hc2 hp2]
            exact ⟨o', cu', g3, fun i hi => g1 i (by omega), fun _ => ⟨j2, c2, hj2, hc2, hp2, hpc2, hpj2, g2⟩⟩
        rcases first2 (fun j c => curQ n r z k bars subj teach rch (rch p) now rk col j c = true) n z with hnq | ⟨j, c, hj, hc, hq, hqc, hqj⟩
        · obtain ⟨o4, cu4, -, e4⟩ := by_none (H := fun j c cu' => ∃ j2 c2, j2 < z ∧ c2 < n ∧ curP r z k bars subj teach rch (rch p) now rk (upd col j (nI c)) j2 c2 = true ∧ (∀ c', c' < c2 → ¬ curP r z k bars subj teach rch (rch p) now rk (upd col j (nI c)) j2 c' = true) ∧ (∀ j', j' < j2 → ∀ c', c' < n → ¬ curP r z k bars subj teach rch (rch p) now rk (upd col j (nI c)) j' c' = true) ∧ cu' 1 = nI (100 * j2 + c2)) hn6 hr9 hz (show 0 < 2 by decide) hbars hsec rk (nI p) now 2 hs2 o3 cu3 hnq
          rw [two_none hn6 hr9 hz hk hsec.ok hcw hte hnow' tc told hnq, bk5, if_pos rfl, c2, e4, bk4, if_pos rfl, lt_t, show (2 : Int32) + 1 = 3 from rfl, u3]
          exact ⟨_, _, _, _, _, _, _, _, _, _, _, rfl, rfl, hR0⟩
        · obtain ⟨o4, cu4, -, e5, ⟨j2, c2', hj2, hc2, hp2, hpc2, hpj2, e6⟩, e4⟩ := by_some (H := fun j c cu' => ∃ j2 c2, j2 < z ∧ c2 < n ∧ curP r z k bars subj teach rch (rch p) now rk (upd col j (nI c)) j2 c2 = true ∧ (∀ c', c' < c2 → ¬ curP r z k bars subj teach rch (rch p) now rk (upd col j (nI c)) j2 c' = true) ∧ (∀ j', j' < j2 → ∀ c', c' < n → ¬ curP r z k bars subj teach rch (rch p) now rk (upd col j (nI c)) j' c' = true) ∧ cu' 1 = nI (100 * j2 + c2)) hn6 hr9 hz (show 0 < 2 by decide) hbars hsec rk (nI p) now 2 hs2 o3 cu3 hj hc hq hqc hqj
          have hmv : mvOk r z bars teach col j c = true := by
            unfold curQ at hq
            rw [Bool.and_eq_true] at hq
            exact hq.1
          have e100 : (100 : Int32) * nI j + nI c = nI (100 * j + c) := by rw [show (100 : Int32) = nI 100 from rfl, pk_mul, nI_add]
          rw [two_some hn6 hr9 hz hk hsec.ok hcw hte hnow' tc told hj hc hmv hqc hqj hj2 hc2 hp2 hpc2 hpj2]
          unfold m_X5_tellTwoMoves_87
          rw [tell2_eq, bk2, bk5, if_neg (by decide), c2, e4, bk4, if_neg (by decide), (cures_row 0 mcol o4 cu4 row).2.2, e100, e5, e6]
          exact ⟨_, _, _, _, _, _, _, _, _, _, _, rfl, rfl, RRow_2 _ _ _ _, hR0.2⟩
      · obtain ⟨o3, cu3, -, e5, -, e3⟩ := by_some (H := fun _ _ _ => True) hn6 hr9 hz (show 0 < 2 by decide) hbars hsec rk (nI p) now 1 hs1 o2 mcure hj hc hpp hpc hpj
        rw [last_some hn6 hr9 hz hk hsec.ok hcw hte hnow' hj hc hpp hpc hpj, bk3, if_neg (nI_nm2 (by omega)), tell1_eq, bk2, c1, e3, bk4, if_neg (by decide), (cures_row 0 mcol o3 cu3 row).2.1, e5]
        exact ⟨_, _, _, _, _, _, _, _, _, _, _, rfl, rfl, RRow_1 _ _ _, hR0.2⟩
    · rw [if_neg (show ¬ (true = false) by decide), if_neg (show ¬ fl true = 0 by decide), (cures_row 0 mcol _ mcure row).1]
      exact ⟨_, _, _, _, _, _, _, _, _, _, _, rfl, rfl, RRow_0 _ _, hR0.2⟩
  · simp only [X1_has_eq hk', X6_isPupil_eq hk', h, bk1, ↓reduceIte]
    exact ⟨_, _, _, _, _, _, _, _, _, _, _, rfl, rfl, hR0⟩
