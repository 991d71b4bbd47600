/-! steps -/
def run {S : Type} (f : Nat → S → S) : Nat → S → S
  | 0, s => s
  | n + 1, s => f n (run f n s)
theorem run_inv {S : Type} {f : Nat → S → S} {I : S → Prop} : ∀ {n : Nat} {s : S}, (∀ i s, i < n → I s → I (f i s)) → I s → I (run f n s)
  | 0, _, _, h0 => h0
  | n + 1, _, h, h0 => h n _ (by omega) (run_inv (fun i s hi hs => h i s (by omega) hs) h0)
/-! instead -/
theorem xor_or {x : Int32} {a b : Nat} (ha : a < 32) (hb : b < 32) (hab : a ≠ b) : x ^^^ ((1 : Int32) <<< (nI a &&& 31)) ^^^ ((1 : Int32) <<< (nI b &&& 31)) = x ^^^ (((1 : Int32) <<< (nI a &&& 31)) ||| ((1 : Int32) <<< (nI b &&& 31))) := by
  refine b_ext (fun i hi => ?_)
  rw [b_xor, b_xor, b_xor, b_or, p_bit ha hi, p_bit hb hi]
  by_cases e1 : i = a
  · subst e1; simp [hab]
  · by_cases e2 : i = b
    · subst e2; simp [e1]
    · simp [e1, e2]
theorem countP_or_le {p q r : Nat → Bool} : ∀ {l : List Nat}, (∀ x ∈ l, p x = true → q x = true ∨ r x = true) → l.countP p ≤ l.countP q + l.countP r
  | [], _ => Nat.zero_le _
  | a :: l, h => by
    have ih := countP_or_le (l := l) (fun x hx => h x (List.mem_cons_of_mem _ hx))
    have ha := h a List.mem_cons_self
    rw [List.countP_cons, List.countP_cons, List.countP_cons]
    by_cases e : p a = true
    · rcases ha e with e2 | e2
      · simp only [e, e2, if_true]; omega
      · simp only [e, e2, if_true]; omega
    · simp only [e, Bool.false_eq_true, if_false]; omega
theorem count_one : ∀ t, t < 10 → (List.range 10).countP (fun x => decide (x = t)) ≤ 1 := by decide +kernel
theorem exch_small {b a t : Nat} (hb : b < 1024) (ht : t < 10) (ha : a < 10) (hl : (blN b).length ≤ 6) : ∃ q, q < 1024 ∧ nI b ^^^ (((1 : Int32) <<< (nI a &&& 31)) ||| ((1 : Int32) <<< (nI t &&& 31))) = nI q ∧ (bt (nI b) a = true → (blN q).length < 8) := by
  obtain ⟨q, hq, e⟩ := small_of (x := nI b ^^^ (((1 : Int32) <<< (nI a &&& 31)) ||| ((1 : Int32) <<< (nI t &&& 31)))) (k := 10) (by decide) (fun i hi => by
    by_cases h32 : i < 32
    · rw [b_xor, b_or, p_bit (by omega) h32, p_bit (by omega) h32, p_nbit]
      have e1 : b.testBit i = false := Nat.testBit_lt_two_pow (Nat.lt_of_lt_of_le hb (Nat.pow_le_pow_right (by decide) hi : 2 ^ 10 ≤ 2 ^ i))
      have e2 : ¬ i = a := by omega
      have e3 : ¬ i = t := by omega
      simp [e1, e2, e3]
    · exact b_big (by omega))
  refine ⟨q, hq, e, fun hba => ?_⟩
  have hc : (List.range 10).countP (fun s => q.testBit s) ≤ (List.range 10).countP (fun s => b.testBit s) + (List.range 10).countP (fun x => decide (x = t)) := by
    refine countP_or_le (fun x hx hp => ?_)
    have hx : x < 10 := List.mem_range.mp hx
    have h32 : x < 32 := by omega
    have hh : bt (nI q) x = bt (nI b ^^^ (((1 : Int32) <<< (nI a &&& 31)) ||| ((1 : Int32) <<< (nI t &&& 31)))) x := by rw [e]
    rw [b_xor, b_or, p_bit (by omega) h32, p_bit (by omega) h32, p_nbit, hp, p_nbit] at hh
    by_cases e3 : x = t
    · exact Or.inr (decide_eq_true e3)
    · left
      by_cases e2 : x = a
      · subst e2
        rw [p_nbit] at hba
        simpa [h32] using hba
      · have : b.testBit x = true := by simpa [h32, e2, e3] using hh.symm
        exact this
  have h1 := count_one t ht
  unfold blN at hl ⊢
  rw [← List.countP_eq_length_filter] at hl ⊢
  omega
def gI (W : Nat → Nat → Bool) (a b : Nat) (s : Int32 × Int32) : Int32 × Int32 := if W a b = true then (s.1 + 1, if s.1 = 0 then (10 : Int32) * nI a + nI b else s.2) else s
theorem instead_X {cw : Nat → Int32} {x : Int32} {W : Nat → Nat → Bool} {Z : Nat} (hZ : Z = 10) (hW : ∀ a b, W a b = (bt x a && !bt x b && wy cw (bl (x ^^^ (((1 : Int32) <<< (nI a &&& 31)) ||| ((1 : Int32) <<< (nI b &&& 31))))) 0)) (tc : Int32) (told : Nat → Int64) :
    it3 (m_X5_instead_45 tc cw told x) 1100 0 (-1) 0 = m_X5_instead_147 tc told (run (fun a s => run (gI W a) Z s) Z (0, -1)).1 (run (fun a s => run (gI W a) Z s) Z (0, -1)).2 := by
  refine seq3 (z := Z) (fun i => (run (fun a s => run (gI W a) Z s) i (0, -1)).1) (fun i => (run (fun a s => run (gI W a) Z s) i (0, -1)).2) (fun i => nI i) (by omega) (fun rec => ?_) (fun rec a ha => ?_)
  · unfold m_X5_instead_45; rw [hZ, if_pos (by decide)]
  · have g : ¬ (10 : Int32) ≤ nI a := nI_ge (a := a) (b := 10) (by omega) (by decide)
    unfold m_X5_instead_45
    rw [if_neg g, run]
    generalize run (fun a s => run (gI W a) Z s) a (0, -1) = s
    refine seq3 (z := Z) (fun i => (run (gI W a) i s).1) (fun i => (run (gI W a) i s).2) (fun i => nI i) (by omega) (fun rec2 => ?_) (fun rec2 b hb => ?_)
    · unfold m_X5_instead_55; rw [hZ, if_pos (by decide), lt_t, nI_1]
    · have g : ¬ (10 : Int32) ≤ nI b := nI_ge (a := b) (b := 10) (by omega) (by decide)
      unfold m_X5_instead_55 m_X5_instead_84 m_X5_instead_85
      simp only [g, ↓reduceIte, hasBit_eq (show a < 32 by omega), hasBit_eq (show b < 32 by omega), bk1, lt_t, nI_1, e10, hasWayX_eq, fl_0, run, gI, hW]
      cases bt x a
      · simp only [Bool.false_eq_true, ↓reduceIte, Bool.false_and]
      · cases bt x b
        · cases wy cw (bl (x ^^^ (((1 : Int32) <<< (nI a &&& 31)) ||| ((1 : Int32) <<< (nI b &&& 31))))) 0
          · simp only [Bool.false_eq_true, ↓reduceIte, Bool.and_false, e10]
          · simp only [Bool.false_eq_true, ↓reduceIte, Bool.not_false, Bool.and_self, Bool.true_eq_false, e10]
            by_cases h0 : (run (gI W a) b s).1 = 0
            · simp only [if_pos h0]
            · simp only [if_neg h0]
        · simp only [↓reduceIte, Bool.not_true, Bool.and_false, Bool.false_and, Bool.false_eq_true, e10]
theorem instead_M {op mch : Nat → Int32} {j b0 : Nat} (hj : j < 24) (hx : mch j = nI b0) (hb0 : b0 < 1024) (hl : (blN b0).length ≤ 6) (hsm : small6 op) {W : Nat → Nat → Bool} {Z : Nat} (hZ : Z = 10) (hW : ∀ a b, W a b = (bt (nI b0) a && !bt (nI b0) b && wy op (bl (nI b0 ^^^ (((1 : Int32) <<< (nI a &&& 31)) ||| ((1 : Int32) <<< (nI b &&& 31))))) 0)) (mt : Int32) (row : Nat → Int32) :
    it3 (m_X6_instead_33 0 mt row mch op (nI j)) 1100 0 (-1) 0 = m_X6_instead_137 0 mt row op (run (fun a s => run (gI W a) Z s) Z (0, -1)).1 (run (fun a s => run (gI W a) Z s) Z (0, -1)).2 := by
  have i24 : inb (nI j) 24 = true := inb_nI (by omega) (by decide)
  have cl : (nI j).toNatClampNeg = j := nI_clamp (by omega)
  refine seq3 (z := Z) (fun i => (run (fun a s => run (gI W a) Z s) i (0, -1)).1) (fun i => (run (fun a s => run (gI W a) Z s) i (0, -1)).2) (fun i => nI i) (by omega) (fun rec => ?_) (fun rec a ha => ?_)
  · unfold m_X6_instead_33; rw [hZ, if_pos (by decide)]
  · have g : ¬ (10 : Int32) ≤ nI a := nI_ge (a := a) (b := 10) (by omega) (by decide)
    unfold m_X6_instead_33
    rw [if_neg g, run]
    generalize run (fun a s => run (gI W a) Z s) a (0, -1) = s
    refine seq3 (z := Z) (fun i => (run (gI W a) i s).1) (fun i => (run (gI W a) i s).2) (fun i => nI i) (by omega) (fun rec2 => ?_) (fun rec2 b hb => ?_)
    · unfold m_X6_instead_43; rw [hZ, if_pos (by decide), lt_t, nI_1]
    · have g : ¬ (10 : Int32) ≤ nI b := nI_ge (a := b) (b := 10) (by omega) (by decide)
      unfold m_X6_instead_43
      simp only [g, ↓reduceIte, i24, cl, gd_tt, hx, has_eq (show a < 32 by omega), has_eq (show b < 32 by omega), bk1, lt_t, nI_1, run, gI, hW]
      cases ea : bt (nI b0) a
      · simp only [Bool.false_eq_true, ↓reduceIte, Bool.false_and]
      · cases eb : bt (nI b0) b
        · have hab : a ≠ b := by intro e; subst e; rw [ea] at eb; cases eb
          obtain ⟨q, hq, eq1, hq2⟩ := exch_small hb0 (show b < 10 by omega) (show a < 10 by omega) hl
          have e := hasWayM_eq hsm 8 q 0 hq (by decide) (hq2 ea)
          rw [← bl_nI, nI_0, ← eq1, ← xor_or (by omega) (by omega) hab] at e
          rw [← xor_or (show a < 32 by omega) (show b < 32 by omega) hab]
          simp only [e, bk1, fl_0, Bool.false_eq_true, ↓reduceIte, Bool.not_false, Bool.and_self, Bool.true_and, e10]
          cases wy op (bl (nI b0 ^^^ ((1 : Int32) <<< (nI a &&& 31)) ^^^ ((1 : Int32) <<< (nI b &&& 31)))) 0
          · simp only [Bool.false_eq_true, ↓reduceIte]
          · simp only [Bool.true_eq_false, ↓reduceIte]
            by_cases h0 : (run (gI W a) b s).1 = 0
            · simp only [if_pos h0]
            · simp only [if_neg h0]
        · simp only [↓reduceIte, Bool.not_true, Bool.and_false, Bool.false_and, Bool.false_eq_true, e10]
theorem sim_instead : Sim_instead := by
  intro tc told ts tg cc rc sz bars subj teach seats col cw rs rk rch mt row tp tape mc mr mm mbars msubj mteach mseats mcol mp mk mch mth mopen v1 hR
  have hR0 := hR
  obtain ⟨hrow, htext, ⟨rfl, rfl, rfl, n, r, z, ⟨hn1, hn6, rfl⟩, ⟨hr1, hr9, rfl⟩, ⟨hz, rfl⟩, hbars, hsec, hcw, hroom⟩, ⟨rfl, rfl, k, hk, rfl, hch⟩⟩ := hR
  have hk' : k < 2 ^ 31 := by omega
  unfold m_X5_instead m_X6_instead
  by_cases h : 0 ≤ v1.toInt ∧ v1.toInt < k
  · obtain ⟨j, hj, rfl⟩ := rng_of h hk'
    have i24 : inb (nI j) 24 = true := inb_nI (by omega) (by decide)
    have cl : (nI j).toNatClampNeg = j := nI_clamp (by omega)
    obtain ⟨c1, ⟨b, hb1, hb2, c2⟩, c3⟩ := hch j hj
    have hl : (blN b).length ≤ 6 := by have := blN_len b; rw [c2] at c3; omega
    simp only [X1_has_eq hk', X6_isPupil_eq hk', h, and_self, bk1, bk2, ↓reduceIte, e10, i24, gd_tt, cl, lt_t, c1, hasWayX_eq, doesFit_eq hn6 hz hj hk hsec hcw hch mopen, fl_0]
    cases hw : wy cw (bl (mch j)) 0
    · obtain ⟨Z, hZ⟩ : ∃ Z : Nat, Z = 10 := ⟨_, rfl⟩
      rw [if_pos rfl, if_pos rfl, instead_X hZ (W := fun a b' => (bt (mch j) a && !bt (mch j) b' && wy cw (bl (mch j ^^^ (((1 : Int32) <<< (nI a &&& 31)) ||| ((1 : Int32) <<< (nI b' &&& 31))))) 0)) (fun a b => rfl),
        instead_M (show j < 24 by omega) c2 hb2 hl (loN_small hn6 hsec.sub hsec.mcols mopen) hZ (W := fun a b' => (bt (mch j) a && !bt (mch j) b' && wy cw (bl (mch j ^^^ (((1 : Int32) <<< (nI a &&& 31)) ||| ((1 : Int32) <<< (nI b' &&& 31))))) 0)) (fun a b => by rw [c2, wy_eq (cw_open hn6 hsec hcw mopen)])]
      generalize run _ Z (0, -1) = S
      unfold m_X5_instead_147 m_X6_instead_137
      simp only [tell1_eq, notes1_eq, bk2]
      exact ⟨_, _, _, _, _, _, _, rfl, rfl, RRow_1 _ _ _, hR0.2⟩
    · rw [if_neg (by decide), if_neg (by decide)]
      exact ⟨_, _, _, _, _, _, _, rfl, rfl, hR0⟩
  · simp only [X1_has_eq hk', X6_isPupil_eq hk', h, bk1, ↓reduceIte]
    exact ⟨_, _, _, _, _, _, _, rfl, rfl, hR0⟩
