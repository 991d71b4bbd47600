/-! clash -/
theorem lbtab : ∀ f, f < 64 → f ≠ 0 → m_X5_leastBit (nI f) = m_J6_numberOfTrailingZeros_0f7a4 (nI f) ∧ (m_X5_leastBit (nI f)).isSome = true := by decide +kernel
def lbOf (x : Int32) : Int32 := match m_X5_leastBit x with
  | some y => y
  | none => 0
theorem lb_both {cw : Nat → Int32} (hsm : small6 cw) {a : Nat} (ha : a < 10) (h : pop (cw a) = 1) : m_X5_leastBit (cw a) = some (lbOf (cw a)) ∧ m_J6_numberOfTrailingZeros_0f7a4 (cw a) = some (lbOf (cw a)) := by
  obtain ⟨f, hf, e⟩ := small_of (x := cw a) (k := 6) (by decide) (fun i hi => hsm a ha i hi)
  have h0 : f ≠ 0 := by
    rintro rfl
    rw [e] at h
    exact absurd h (by decide)
  obtain ⟨e1, e2⟩ := lbtab f hf h0
  unfold lbOf
  rw [e, ← e1]
  cases e3 : m_X5_leastBit (nI f) with
  | none => rw [e3] at e2; cases e2
  | some y => exact ⟨rfl, rfl⟩
def gC (cw : Nat → Int32) (N : Nat → Nat → Nat) (a b : Nat) (s : Nat × Int32 × Int32 × Int32) : Nat × Int32 × Int32 × Int32 :=
  if cw a = cw b ∧ pop (cw a) = 1 ∧ s.1 < N a b then (N a b, (10 : Int32) * nI a + nI b, lbOf (cw a), lbOf (cw a)) else s
def okC (s : Nat × Int32 × Int32 × Int32) : Prop := s.1 ≤ 32 ∧ (s.2.1 = -2 ∨ (∃ q, q < 200 ∧ s.2.1 = nI q) ∧ s.2.2.1 = s.2.2.2)
theorem gC_ok {cw : Nat → Int32} {N : Nat → Nat → Nat} (hN : ∀ a b, N a b ≤ 32) {a b : Nat} (ha : a < 10) (hb : b < 10) {s : Nat × Int32 × Int32 × Int32} (h : okC s) : okC (gC cw N a b s) := by
  unfold gC
  split
  · refine ⟨hN a b, Or.inr ⟨⟨10 * a + b, by omega, ?_⟩, rfl⟩⟩
    show (10 : Int32) * nI a + nI b = _
    rw [show (10 : Int32) = nI 10 from rfl, pk_mul, nI_add]
  · exact h
def fC (cw : Nat → Int32) (N : Nat → Nat → Nat) (Z a : Nat) (s : Nat × Int32 × Int32 × Int32) : Nat × Int32 × Int32 × Int32 := run (fun j => gC cw N a (a + 1 + j)) (Z - (a + 1)) s
theorem inC_ok {cw : Nat → Int32} {N : Nat → Nat → Nat} (hN : ∀ a b, N a b ≤ 32) {a : Nat} (ha : a < 10) {s : Nat × Int32 × Int32 × Int32} (h : okC s) {j : Nat} (hj : j ≤ 10 - (a + 1)) : okC (run (fun j => gC cw N a (a + 1 + j)) j s) :=
  run_inv (fun i s hi hs => gC_ok hN ha (by omega) hs) h
theorem fC_ok {cw : Nat → Int32} {N : Nat → Nat → Nat} (hN : ∀ a b, N a b ≤ 32) {Z : Nat} (hZ : Z = 10) {s : Nat × Int32 × Int32 × Int32} (h : okC s) {i : Nat} (hi : i ≤ Z) : okC (run (fC cw N Z) i s) :=
  run_inv (fun i s hi hs => inC_ok hN (by omega) hs (by omega)) h
theorem clash_X {cw ch mch : Nat → Int32} {k : Nat} (hk : k ≤ 24) (hr : okRoll k ch mch) (hsm : small6 cw) {N : Nat → Nat → Nat} (hN : ∀ a b, N a b = pop (msk (fun p => bt (mch p) a) k &&& msk (fun p => bt (mch p) b) k)) {Z : Nat} (hZ : Z = 10) (tc : Int32) (told : Nat → Int64) :
    it4 (m_X5_clash_10 tc cw (nI k) ch told) 1100 0 (-2) (-1) 0 = m_X5_clash_113 tc told (nI (run (fC cw N Z) Z (0, -2, -1, 0)).1) (run (fC cw N Z) Z (0, -2, -1, 0)).2.1 (run (fC cw N Z) Z (0, -2, -1, 0)).2.2.1 := by
  have hN32 : ∀ a b, N a b ≤ 32 := fun a b => by rw [hN]; exact pop_le _
  refine seq4 (z := Z) (fun i => nI (run (fC cw N Z) i (0, -2, -1, 0)).1) (fun i => (run (fC cw N Z) i (0, -2, -1, 0)).2.1) (fun i => (run (fC cw N Z) i (0, -2, -1, 0)).2.2.1) (fun i => nI i) (by omega) (fun rec => ?_) (fun rec a ha => ?_)
  · unfold m_X5_clash_10; rw [hZ, if_pos (by decide)]
  · have g : ¬ (10 : Int32) ≤ nI a := nI_ge (a := a) (b := 10) (by omega) (by decide)
    have hok : okC (run (fC cw N Z) a (0, -2, -1, 0)) := fC_ok hN32 hZ ⟨by omega, Or.inl rfl⟩ (by omega)
    unfold m_X5_clash_10
    rw [if_neg g, run, lt_t, nI_1]
    generalize run (fC cw N Z) a (0, -2, -1, 0) = s at hok
    unfold fC
    refine seq4 (z := Z - (a + 1)) (fun i => nI (run (fun j => gC cw N a (a + 1 + j)) i s).1) (fun i => (run (fun j => gC cw N a (a + 1 + j)) i s).2.1) (fun i => (run (fun j => gC cw N a (a + 1 + j)) i s).2.2.1) (fun i => nI (a + 1 + i)) (by omega) (fun rec2 => ?_) (fun rec2 j hj => ?_)
    · unfold m_X5_clash_23
      rw [show a + 1 + (Z - (a + 1)) = 10 by omega, if_pos (by decide), lt_t, nI_1]
    · have hok2 : okC (run (fun j => gC cw N a (a + 1 + j)) j s) := inC_ok hN32 (by omega) hok (by omega)
      generalize hb : a + 1 + j = b
      have hb10 : b < 10 := by omega
      have g : ¬ (10 : Int32) ≤ nI b := nI_ge (a := b) (b := 10) (by omega) (by decide)
      have ia : inb (nI a) 10 = true := inb_nI (by omega) (by decide)
      have ib : inb (nI b) 10 = true := inb_nI (by omega) (by decide)
      have ca : (nI a).toNatClampNeg = a := nI_clamp (by omega)
      have cb : (nI b).toNatClampNeg = b := nI_clamp (by omega)
      have hp := pop_le (cw a)
      unfold m_X5_clash_23 m_X5_clash_67 m_X0_shareTheirOnlyColumn
      rw [run, hb, show a + 1 + (j + 1) = b + 1 by omega]
      generalize run (fun j => gC cw N a (a + 1 + j)) j s = q at hok2
      simp only [g, ↓reduceIte, ia, ib, ca, cb, gd_tt, bk1, lt_t, nI_1, bitCount_eq, choosersOf_eq hk, chosen2 hk hr (show a < 32 by omega) (show b < 32 by omega), ← hN, gC]
      by_cases h1 : cw a = cw b
      · rw [if_pos h1]
        by_cases h2 : pop (cw a) = 1
        · have h2' : nI (pop (cw a)) = 1 := by rw [h2]; rfl
          rw [if_pos h2', bk1, if_neg (by decide)]
          have hle : nI (N a b) ≤ nI q.1 ↔ N a b ≤ q.1 := nI_leI (by have := hN32 a b; omega) (by have := hok2.1; omega)
          by_cases h3 : q.1 < N a b
          · simp only [h1, h2, h3, (lb_both hsm (show b < 10 by omega) (h1 ▸ h2)).1, if_neg (show ¬ nI (N a b) ≤ nI q.1 by rw [hle]; omega), and_self, ↓reduceIte, bk1, h1 ▸ h2]
          · simp only [h3, if_pos (show nI (N a b) ≤ nI q.1 by rw [hle]; omega), and_false, ↓reduceIte]
        · have h2' : ¬ nI (pop (cw a)) = 1 := by rw [show (1 : Int32) = nI 1 from rfl, nI_eq (by omega) (by omega)]; exact h2
          have h0 : (0 : Int32) ≤ nI q.1 := nI_pos' (by have := hok2.1; omega)
          rw [if_neg h2', bk1, if_pos rfl]
          simp only [h2, false_and, and_false, ↓reduceIte, if_pos h0]
      · have h0 : (0 : Int32) ≤ nI q.1 := nI_pos' (by have := hok2.1; omega)
        rw [if_neg h1, bk1, if_pos rfl]
        simp only [h1, false_and, ↓reduceIte, if_pos h0]
theorem clash_M {cw op mch : Nat → Int32} {k : Nat} (hk : k ≤ 24) (hop : ∀ s, s < 10 → op s = cw s) (hsm : small6 cw) {N : Nat → Nat → Nat} (hN : ∀ a b, N a b = pop (msk (fun p => bt (mch p) a) k &&& msk (fun p => bt (mch p) b) k)) {Z : Nat} (hZ : Z = 10) (mt : Int32) (row : Nat → Int32) :
    it4 (m_X6_clash_19 0 mt (nI k) row mch op) 1100 (-2) 0 0 0 = m_X6_clash_132 0 mt row op (run (fC cw N Z) Z (0, -2, -1, 0)).2.1 (nI (run (fC cw N Z) Z (0, -2, -1, 0)).1) (run (fC cw N Z) Z (0, -2, -1, 0)).2.2.2 := by
  have hN32 : ∀ a b, N a b ≤ 32 := fun a b => by rw [hN]; exact pop_le _
  refine seq4 (z := Z) (fun i => (run (fC cw N Z) i (0, -2, -1, 0)).2.1) (fun i => nI (run (fC cw N Z) i (0, -2, -1, 0)).1) (fun i => (run (fC cw N Z) i (0, -2, -1, 0)).2.2.2) (fun i => nI i) (by omega) (fun rec => ?_) (fun rec a ha => ?_)
  · unfold m_X6_clash_19; rw [hZ, if_pos (by decide)]
  · have g : ¬ (10 : Int32) ≤ nI a := nI_ge (a := a) (b := 10) (by omega) (by decide)
    have hok : okC (run (fC cw N Z) a (0, -2, -1, 0)) := fC_ok hN32 hZ ⟨by omega, Or.inl rfl⟩ (by omega)
    unfold m_X6_clash_19
    rw [if_neg g, run, lt_t, nI_1]
    generalize run (fC cw N Z) a (0, -2, -1, 0) = s at hok
    unfold fC
    refine seq4 (z := Z - (a + 1)) (fun i => (run (fun j => gC cw N a (a + 1 + j)) i s).2.1) (fun i => nI (run (fun j => gC cw N a (a + 1 + j)) i s).1) (fun i => (run (fun j => gC cw N a (a + 1 + j)) i s).2.2.2) (fun i => nI (a + 1 + i)) (by omega) (fun rec2 => ?_) (fun rec2 j hj => ?_)
    · unfold m_X6_clash_32
      rw [show a + 1 + (Z - (a + 1)) = 10 by omega, if_pos (by decide), lt_t, nI_1]
    · have hok2 : okC (run (fun j => gC cw N a (a + 1 + j)) j s) := inC_ok hN32 (by omega) hok (by omega)
      generalize hb : a + 1 + j = b
      have hb10 : b < 10 := by omega
      have g : ¬ (10 : Int32) ≤ nI b := nI_ge (a := b) (b := 10) (by omega) (by decide)
      have ia : inb (nI a) 10 = true := inb_nI (by omega) (by decide)
      have ib : inb (nI b) 10 = true := inb_nI (by omega) (by decide)
      have ca : (nI a).toNatClampNeg = a := nI_clamp (by omega)
      have cb : (nI b).toNatClampNeg = b := nI_clamp (by omega)
      have hp := pop_le (cw a)
      unfold m_X6_clash_32
      rw [run, hb, show a + 1 + (j + 1) = b + 1 by omega]
      generalize run (fun j => gC cw N a (a + 1 + j)) j s = q at hok2
      simp only [g, ↓reduceIte, ia, ib, ca, cb, gd_tt, bk1, lt_t, nI_1, bits_eq, chose_eq hk mch (show a < 32 by omega), chose_eq hk mch (show b < 32 by omega), ← hN, gC, hop a (by omega), hop b hb10]
      by_cases h1 : cw a = cw b
      · rw [if_pos h1]
        by_cases h2 : pop (cw a) = 1
        · have h2' : nI (pop (cw a)) = 1 := by rw [h2]; rfl
          rw [if_pos h2']
          have hle : nI q.1 < nI (N a b) ↔ q.1 < N a b := nI_ltI (by have := hok2.1; omega) (by have := hN32 a b; omega)
          by_cases h3 : q.1 < N a b
          · rw [if_pos (hle.mpr h3), if_pos ⟨h1, h2, h3⟩, (lb_both hsm (show a < 10 by omega) h2).2, bk1]
          · rw [if_neg (fun e => h3 (hle.mp e)), if_neg (fun e => h3 e.2.2)]
        · have h2' : ¬ nI (pop (cw a)) = 1 := by rw [show (1 : Int32) = nI 1 from rfl, nI_eq (by omega) (by omega)]; exact h2
          rw [if_neg h2', if_neg (fun e => h2 e.2.1)]
      · rw [if_neg h1, if_neg (fun e => h1 e.1)]
theorem cw_small {n z : Nat} (hn : n ≤ 6) {subj teach seats col cw msubj mteach mseats mcol : Nat → Int32} (h : RSec n z subj teach seats col msubj mteach mseats mcol) (hcw : RCw z subj col cw) : small6 cw := by
  intro s hs c hc
  rw [cw_open hn h hcw (fun _ => 0) s hs]
  exact loN_small hn h.sub h.mcols (fun _ => 0) s hs c hc
theorem sim_clash : Sim_clash := by
  intro tc told ts tg cc rc sz bars subj teach seats col cw rs rk rch mt row tp tape mc mr mm mbars msubj mteach mseats mcol mp mk mch mth mopen hR
  have hR0 := hR
  obtain ⟨hrow, htext, ⟨rfl, rfl, rfl, n, r, z, ⟨hn1, hn6, rfl⟩, ⟨hr1, hr9, rfl⟩, ⟨hz, rfl⟩, hbars, hsec, hcw, hroom⟩, ⟨rfl, rfl, k, hk, rfl, hch⟩⟩ := hR
  unfold m_X5_clash m_X6_clash
  obtain ⟨Z, hZ⟩ : ∃ Z : Nat, Z = 10 := ⟨_, rfl⟩
  rw [laysOpen_eq (show z ≤ 17 by omega) hsec.sub, bk1,
    clash_X hk hch (cw_small hn6 hsec hcw) (N := fun a b => pop (msk (fun p => bt (mch p) a) k &&& msk (fun p => bt (mch p) b) k)) (fun a b => rfl) hZ,
    clash_M hk (fun s hs => (cw_open hn6 hsec hcw mopen s hs).symm) (cw_small hn6 hsec hcw) (N := fun a b => pop (msk (fun p => bt (mch p) a) k &&& msk (fun p => bt (mch p) b) k)) (fun a b => rfl) hZ]
  have hok : okC (run (fC cw (fun a b => pop (msk (fun p => bt (mch p) a) k &&& msk (fun p => bt (mch p) b) k)) Z) Z (0, -2, -1, 0)) := fC_ok (fun a b => pop_le _) hZ ⟨by omega, Or.inl rfl⟩ (Nat.le_refl _)
  generalize run _ Z (0, -2, -1, 0) = S at hok
  unfold m_X5_clash_113 m_X6_clash_132
  rcases hok.2 with e | ⟨⟨q, hq, e⟩, e2⟩
  · rw [e, if_pos rfl, if_pos (by decide)]
    exact ⟨_, _, _, _, _, _, _, rfl, rfl, hR0⟩
  · rw [e, if_neg (nI_nm2 (by omega)), if_neg (nI_neg (by omega)), e2]
    simp only [tell2_eq, notes2_eq, bk2]
    exact ⟨_, _, _, _, _, _, _, rfl, rfl, RRow_2 _ _ _ _, hR0.2⟩
