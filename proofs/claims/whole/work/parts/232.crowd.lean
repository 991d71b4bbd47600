/-! crowd -/
def cany (cw : Nat → Int32) (x : Int32) : Nat → Int32
  | 0 => 0
  | s + 1 => cany cw x s ||| (if bt x s = true then cw s else 0)
theorem cany_bit (cw : Nat → Int32) (x : Int32) (c : Nat) : ∀ k, bt (cany cw x k) c = true ↔ ∃ s, s < k ∧ bt x s = true ∧ bt (cw s) c = true
  | 0 => by
    rw [cany, b_0]
    exact ⟨fun h => (by cases h), fun ⟨s, h, _⟩ => absurd h (by omega)⟩
  | k + 1 => by
    rw [cany, b_or, Bool.or_eq_true, cany_bit cw x c k]
    by_cases hx : bt x k = true
    · rw [if_pos hx]
      constructor
      · rintro (⟨s, h1, h2, h3⟩ | h)
        · exact ⟨s, by omega, h2, h3⟩
        · exact ⟨k, by omega, hx, h⟩
      · rintro ⟨s, h1, h2, h3⟩
        by_cases e : s = k
        · subst e; exact Or.inr h3
        · exact Or.inl ⟨s, by omega, h2, h3⟩
    · rw [if_neg hx, b_0]
      constructor
      · rintro (⟨s, h1, h2, h3⟩ | h)
        · exact ⟨s, by omega, h2, h3⟩
        · cases h
      · rintro ⟨s, h1, h2, h3⟩
        by_cases e : s = k
        · subst e; exact absurd h2 hx
        · exact Or.inl ⟨s, by omega, h2, h3⟩
theorem cany_congr {cw cv : Nat → Int32} {x : Int32} (h : ∀ s, s < 10 → cw s = cv s) : ∀ k, k ≤ 10 → cany cw x k = cany cv x k
  | 0, _ => rfl
  | k + 1, hk => by rw [cany, cany, cany_congr h k (by omega), h k (by omega)]
theorem columnsOfAny_eq (cw : Nat → Int32) (x : Int32) : m_X0_columnsOfAny cw x = some (cany cw x 10) := by
  unfold m_X0_columnsOfAny
  refine seq2 (z := 10) (fun s => cany cw x s) (fun s => nI s) (by decide) (fun rec => ?_) (fun rec s hs => ?_)
  · unfold m_X0_columnsOfAny_4; rw [if_pos (by decide)]
  · have g : ¬ (10 : Int32) ≤ nI s := nI_ge (a := s) (b := 10) hs (by decide)
    have i10 : inb (nI s) 10 = true := inb_nI hs (by decide)
    have cl : (nI s).toNatClampNeg = s := nI_clamp (by omega)
    unfold m_X0_columnsOfAny_4
    simp only [g, ↓reduceIte, hasBit_eq (show s < 32 by omega), bk1, i10, gd_tt, cl, lt_t, nI_1, b_or0]
    rw [cany]
    by_cases hb : bt x s = true
    · simp only [hb, ↓reduceIte, e10]
    · simp only [hb, ↓reduceIte, Bool.false_eq_true, b_or0]
theorem openTo_eq (cw : Nat → Int32) (x : Int32) : m_X6_openTo cw x = some (cany cw x 10) := by
  unfold m_X6_openTo
  refine seq2 (z := 10) (fun s => cany cw x s) (fun s => nI s) (by decide) (fun rec => ?_) (fun rec s hs => ?_)
  · unfold m_X6_openTo_4; rw [if_pos (by decide)]
  · have g : ¬ (10 : Int32) ≤ nI s := nI_ge (a := s) (b := 10) hs (by decide)
    have i10 : inb (nI s) 10 = true := inb_nI hs (by decide)
    have cl : (nI s).toNatClampNeg = s := nI_clamp (by omega)
    unfold m_X6_openTo_4
    simp only [g, ↓reduceIte, has_eq (show s < 32 by omega), bk1, i10, gd_tt, cl, lt_t, nI_1, b_or0]
    rw [cany]
    by_cases hb : bt x s = true
    · simp only [hb, ↓reduceIte, e10]
    · simp only [hb, ↓reduceIte, Bool.false_eq_true, b_or0]
/-- y is crowded -/
def CRD (cw : Nat → Int32) (y : Nat) : Prop := pop (cany cw (nI y) 10) < pop (nI y)
def Qcr (cw : Nat → Int32) (b y : Nat) : Prop := 1 ≤ y ∧ y &&& b = y ∧ CRD cw y
def btr (x y : Nat) : Prop := pop (nI x) < pop (nI y) ∨ (pop (nI x) = pop (nI y) ∧ x ≤ y)
theorem pop_lt31 (x : Int32) : pop x < 2 ^ 31 := by have := pop_le x; omega
theorem isCrowded_t {cw : Nat → Int32} {y : Nat} (h : CRD cw y) : m_X0_isCrowded cw (nI y) = some 1 := by
  unfold m_X0_isCrowded
  rw [columnsOfAny_eq, bk1, bitCount_eq, bk1, bitCount_eq, bk1, if_neg (nI_ge h (pop_lt31 _))]
theorem isCrowded_f {cw : Nat → Int32} {y : Nat} (h : ¬ CRD cw y) : m_X0_isCrowded cw (nI y) = some 0 := by
  unfold m_X0_isCrowded
  rw [columnsOfAny_eq, bk1, bitCount_eq, bk1, bitCount_eq, bk1, if_pos (nI_le (Nat.le_of_not_lt h) (pop_lt31 _))]
theorem sub_iff {y b : Nat} (hy : y < 1024) : (nI y &&& (nI b ^^^ (-1))) = 0 ↔ y &&& b = y := by
  have hy' : y < 2 ^ 10 := hy
  constructor
  · intro h
    refine Nat.eq_of_testBit_eq (fun i => ?_)
    rw [Nat.testBit_and]
    by_cases hi : i < 32
    · have := congrArg (fun x => bt x i) h
      simp only [b_and, p_not _ hi, b_0, p_nbit, hi, decide_true, Bool.true_and] at this
      cases e1 : y.testBit i <;> cases e2 : b.testBit i <;> simp [e1, e2] at this ⊢
    · rw [Nat.testBit_lt_two_pow (Nat.lt_of_lt_of_le hy' (Nat.pow_le_pow_right (by decide) (by omega)))]
      rfl
  · intro h
    refine b_ext (fun i hi => ?_)
    have := congrArg (fun x => x.testBit i) h
    simp only [Nat.testBit_and] at this
    simp only [b_and, p_not _ hi, b_0, p_nbit, hi, decide_true, Bool.true_and]
    cases e1 : y.testBit i <;> cases e2 : b.testBit i <;> simp [e1, e2] at this ⊢
theorem ex2b {S R : Type} {b : (S → Int32 → Option R) → S → Int32 → Option R} {I : Nat → S → Prop} {Q : Option R → Prop} {z : Nat}
    (hexit : ∀ rec t, I z t → Q (b rec t (nI z))) (hstep : ∀ rec i, i < z → ∀ t, I i t → (∃ t', I (i + 1) t' ∧ b rec t (nI i) = rec t' (nI (i + 1))) ∨ Q (b rec t (nI i))) :
    ∀ (d i fuel : Nat) (t : S), i + d = z → d < fuel → I i t → Q (it2 b fuel t (nI i))
  | 0, i, fuel + 1, t, h, _, hI => by
    have : i = z := by omega
    subst this
    exact hexit _ t hI
  | d + 1, i, fuel + 1, t, h, hf, hI => by
    show Q (b (it2 b fuel) t (nI i))
    rcases hstep (it2 b fuel) i (by omega) t hI with ⟨t', h1, h2⟩ | h2
    · rw [h2]
      exact ex2b hexit hstep d (i + 1) fuel t' (by omega) (by omega) h1
    · exact h2
theorem c71_0 {cw : Nat → Int32} {v2 v3 : Int32} {i : Nat} {rec : Int32 → Int32 → Option (Int32 × Int32 × (Nat → Int64))} : m_X5_crowd_71 cw v2 v3 (nI i) 0 rec = rec v3 (nI (i + 1)) := by
  unfold m_X5_crowd_71
  rw [if_pos rfl, lt_t, nI_1]
theorem c71_y {cw : Nat → Int32} {b i : Nat} {v3 : Int32} {rec : Int32 → Int32 → Option (Int32 × Int32 × (Nat → Int64))} (hi : i < 1024) (h1 : i &&& b = i) (h2 : CRD cw i) : m_X5_crowd_71 cw (nI b) v3 (nI i) 1 rec = rec (nI i) (nI (i + 1)) := by
  unfold m_X5_crowd_71
  rw [if_neg (by decide), if_pos ((sub_iff hi).mpr h1), isCrowded_t h2, bk1, if_neg (by decide), lt_t, nI_1]
theorem c71_n {cw : Nat → Int32} {b i : Nat} {v3 : Int32} {rec : Int32 → Int32 → Option (Int32 × Int32 × (Nat → Int64))} (hi : i < 1024) (h : ¬ (i &&& b = i ∧ CRD cw i)) : m_X5_crowd_71 cw (nI b) v3 (nI i) 1 rec = rec v3 (nI (i + 1)) := by
  unfold m_X5_crowd_71
  rw [if_neg (by decide)]
  by_cases h1 : i &&& b = i
  · rw [if_pos ((sub_iff hi).mpr h1), isCrowded_f (fun e => h ⟨h1, e⟩), bk1, if_pos rfl, lt_t, nI_1]
  · rw [if_neg (fun e => h1 ((sub_iff hi).mp e)), lt_t, nI_1]
def Icr (cw : Nat → Int32) (b i : Nat) (t : Int32) : Prop := ∃ x, t = nI x ∧ x < i ∧ ((x = 0 ∧ ∀ y, y < i → ¬ Qcr cw b y) ∨ (Qcr cw b x ∧ ∀ y, y < i → Qcr cw b y → btr x y))
theorem crowd_X (cw : Nat → Int32) (b : Nat) (tc : Int32) (told : Nat → Int64) : ∃ x, it2 (m_X5_crowd_42 tc cw told (nI b)) 1100 0 1 = m_X5_crowd_108 tc cw told (nI x) ∧ x < 1024 ∧ ((x = 0 ∧ ∀ y, y < 1024 → ¬ Qcr cw b y) ∨ (Qcr cw b x ∧ ∀ y, y < 1024 → Qcr cw b y → btr x y)) := by
  obtain ⟨Z, hZ⟩ : ∃ Z : Nat, Z = 1024 := ⟨_, rfl⟩
  have main : ∃ x, it2 (m_X5_crowd_42 tc cw told (nI b)) 1100 0 (nI 1) = m_X5_crowd_108 tc cw told (nI x) ∧ x < Z ∧ ((x = 0 ∧ ∀ y, y < Z → ¬ Qcr cw b y) ∨ (Qcr cw b x ∧ ∀ y, y < Z → Qcr cw b y → btr x y)) := by
    refine ex2b (b := m_X5_crowd_42 tc cw told (nI b)) (I := Icr cw b) (Q := fun X => ∃ x, X = m_X5_crowd_108 tc cw told (nI x) ∧ x < Z ∧ ((x = 0 ∧ ∀ y, y < Z → ¬ Qcr cw b y) ∨ (Qcr cw b x ∧ ∀ y, y < Z → Qcr cw b y → btr x y))) (z := Z) (fun rec t hI => ?_) (fun rec i hi t hI => ?_) (Z - 1) 1 1100 0 (by omega) (by omega) ⟨0, rfl, by omega, Or.inl ⟨rfl, fun y hy hq => absurd hq.1 (by omega)⟩⟩
    · obtain ⟨x, rfl, h1, h2⟩ := hI
      refine ⟨x, ?_, h1, h2⟩
      unfold m_X5_crowd_42
      rw [hZ, if_pos (by decide)]
    · left
      obtain ⟨x, rfl, h1, h2⟩ := hI
      have hi' : i < 1024 := by omega
      have g : ¬ (1023 : Int32) < nI i := by rw [show (1023 : Int32) = nI 1023 from rfl, nI_ltI (by omega) (by omega)]; omega
      have gx : (nI x = 0) ↔ x = 0 := nI_zero (by omega)
      unfold m_X5_crowd_42
      rw [if_neg g]
      by_cases hQ : i &&& b = i ∧ CRD cw i
      · have hQi : Qcr cw b i := ⟨by omega, hQ⟩
        rcases h2 with ⟨h2, h3⟩ | ⟨h2, h3⟩
        · rw [if_pos (gx.mpr h2)]
          unfold m_X5_crowd_66
          rw [c71_y hi' hQ.1 hQ.2]
          refine ⟨nI i, ⟨i, rfl, by omega, Or.inr ⟨hQi, fun y hy hq => ?_⟩⟩, rfl⟩
          by_cases e : y = i
          · subst e; exact Or.inr ⟨rfl, Nat.le_refl _⟩
          · exact absurd hq (h3 y (by omega))
        · rw [if_neg (fun e => absurd (gx.mp e) (by have := h2.1; omega)), bitCount_eq, bk1, bitCount_eq, bk1]
          by_cases hp : pop (nI x) ≤ pop (nI i)
          · rw [if_pos (nI_le hp (pop_lt31 _)), c71_0]
            refine ⟨nI x, ⟨x, rfl, by omega, Or.inr ⟨h2, fun y hy hq => ?_⟩⟩, rfl⟩
            by_cases e : y = i
            · subst e
              rcases Nat.lt_or_eq_of_le hp with h | h
              · exact Or.inl h
              · exact Or.inr ⟨h, by omega⟩
            · exact h3 y (by omega) hq
          · rw [if_neg (nI_ge (Nat.lt_of_not_le hp) (pop_lt31 _))]
            unfold m_X5_crowd_66
            rw [c71_y hi' hQ.1 hQ.2]
            refine ⟨nI i, ⟨i, rfl, by omega, Or.inr ⟨hQi, fun y hy hq => ?_⟩⟩, rfl⟩
            by_cases e : y = i
            · subst e; exact Or.inr ⟨rfl, Nat.le_refl _⟩
            · have := h3 y (by omega) hq
              unfold btr at this ⊢
              omega
      · have keep : Icr cw b (i + 1) (nI x) := by
          refine ⟨x, rfl, by omega, ?_⟩
          rcases h2 with ⟨h2, h3⟩ | ⟨h2, h3⟩
          · refine Or.inl ⟨h2, fun y hy hq => ?_⟩
            by_cases e : y = i
            · subst e; exact hQ hq.2
            · exact h3 y (by omega) hq
          · refine Or.inr ⟨h2, fun y hy hq => ?_⟩
            by_cases e : y = i
            · subst e; exact absurd hq.2 hQ
            · exact h3 y (by omega) hq
        refine ⟨nI x, keep, ?_⟩
        have e71 : m_X5_crowd_66 cw (nI b) (nI x) (nI i) rec = rec (nI x) (nI (i + 1)) := by
          unfold m_X5_crowd_66
          exact c71_n hi' hQ
        by_cases hx : nI x = 0
        · rw [if_pos hx, e71]
        · rw [if_neg hx, bitCount_eq, bk1, bitCount_eq, bk1, c71_0, e71]
          split <;> rfl
  rw [hZ] at main
  exact main
theorem sub_next : ∀ (s c y : Nat), s &&& c = s → y &&& c = y → y < s → y ≤ (s - 1) &&& c := by
  intro s
  induction s using Nat.strongRecOn with
  | _ s ih =>
    intro c y hs hy hlt
    have s1 : s / 2 ^ 1 &&& c / 2 ^ 1 = s / 2 ^ 1 := by rw [← Nat.and_div_two_pow, hs]
    have y1 : y / 2 ^ 1 &&& c / 2 ^ 1 = y / 2 ^ 1 := by rw [← Nat.and_div_two_pow, hy]
    have y2 : y % 2 ^ 1 &&& c % 2 ^ 1 = y % 2 ^ 1 := by rw [← Nat.and_mod_two_pow, hy]
    have y3 : y % 2 ^ 1 ≤ c % 2 ^ 1 := by rw [← y2]; exact Nat.and_le_right
    have m1 : ((s - 1) &&& c) / 2 ^ 1 = (s - 1) / 2 ^ 1 &&& c / 2 ^ 1 := Nat.and_div_two_pow ..
    have m2 : ((s - 1) &&& c) % 2 ^ 1 = (s - 1) % 2 ^ 1 &&& c % 2 ^ 1 := Nat.and_mod_two_pow ..
    rcases Nat.mod_two_eq_zero_or_one s with h | h
    · have e1 : (s - 1) / 2 ^ 1 = s / 2 ^ 1 - 1 := by omega
      have e2 : (s - 1) % 2 ^ 1 = 1 := by omega
      have e3 : 1 &&& c % 2 ^ 1 = c % 2 ^ 1 := by
        rcases Nat.mod_two_eq_zero_or_one c with h | h
        · rw [show c % 2 ^ 1 = 0 from h]; rfl
        · rw [show c % 2 ^ 1 = 1 from h]; rfl
      have := ih (s / 2 ^ 1) (by omega) (c / 2 ^ 1) (y / 2 ^ 1) s1 y1 (by omega)
      rw [e1] at m1
      rw [e2, e3] at m2
      rw [← m1] at this
      omega
    · have e1 : (s - 1) / 2 ^ 1 = s / 2 ^ 1 := by omega
      rw [e1, s1] at m1
      omega
theorem pop_mono {y b : Nat} (h : y &&& b = y) : pop (nI y) ≤ pop (nI b) := by
  unfold pop
  refine countP_mono (fun i _ hi => ?_)
  rw [p_nbit, Bool.and_eq_true] at hi ⊢
  refine ⟨hi.1, ?_⟩
  have := hi.2
  rw [← h, Nat.testBit_and, Bool.and_eq_true] at this
  exact this.2
def Jcr (cw : Nat → Int32) (b s x : Nat) : Prop := x < 1024 ∧ ((x = b ∧ ∀ y, s < y → y < b → ¬ Qcr cw b y) ∨ (Qcr cw b x ∧ x < b ∧ ∀ y, s < y → y < b → Qcr cw b y → btr x y))
theorem crowd_M {op cw : Nat → Int32} (hop : ∀ s, s < 10 → op s = cw s) {b j : Nat} (hb : b < 1024) (hj : j < 24) {mch : Nat → Int32} (hx : mch j = nI b) (mt : Int32) (row : Nat → Int32) :
    ∀ (s : Nat), s &&& b = s → s < b ∨ s = 0 → ∀ (fuel x : Nat), s < fuel → Jcr cw b s x → ∃ x', it2 (m_X6_crowd_49 0 mt row mch op (nI j)) fuel (nI x) (nI s) = m_X6_crowd_95 0 mt row op (nI x') ∧ Jcr cw b 0 x' := by
  intro s
  induction s using Nat.strongRecOn with
  | _ s ih =>
    intro hs hsb fuel x hf hJ
    cases fuel with
    | zero => exact absurd hf (by omega)
    | succ fuel =>
      have s1 : it2 (m_X6_crowd_49 0 mt row mch op (nI j)) (fuel + 1) (nI x) (nI s) = m_X6_crowd_49 0 mt row mch op (nI j) (it2 (m_X6_crowd_49 0 mt row mch op (nI j)) fuel) (nI x) (nI s) := rfl
      rw [s1]
      have i24 : inb (nI j) 24 = true := inb_nI (by omega) (by decide)
      have cj : (nI j).toNatClampNeg = j := nI_clamp (by omega)
      have hsle : s ≤ b := by rw [← hs]; exact Nat.and_le_right
      by_cases h0 : s = 0
      · subst h0
        refine ⟨x, ?_, hJ⟩
        generalize it2 (m_X6_crowd_49 0 mt row mch op (nI j)) fuel = rec
        unfold m_X6_crowd_49
        rw [if_pos (by decide)]
      · have hlt : (s - 1) &&& b < s := Nat.lt_of_le_of_lt Nat.and_le_left (by omega)
        have hnx : (nI s - 1) &&& nI b = nI ((s - 1) &&& b) := by
          obtain ⟨q, rfl⟩ : ∃ q, s = q + 1 := ⟨s - 1, by omega⟩
          rw [nI_pred, p_land, Nat.add_sub_cancel]
        have hss : ((s - 1) &&& b) &&& b = (s - 1) &&& b := by rw [Nat.and_assoc, Nat.and_self]
        have hnext : ∀ y, (s - 1) &&& b < y → y &&& b = y → y = s ∨ s < y := by
          intro y h1 h2
          rcases Nat.lt_trichotomy y s with h | h | h
          · have := sub_next s b y hs h2 h; omega
          · exact Or.inl h
          · exact Or.inr h
        have hrec := fun x' hJ' => ih ((s - 1) &&& b) hlt hss (Or.inl (by omega)) fuel x' (by omega) hJ'
        generalize it2 (m_X6_crowd_49 0 mt row mch op (nI j)) fuel = rec at hrec ⊢
        have e81 : ∀ v : Int32, m_X6_crowd_81 mch (nI j) v (nI s) rec = rec v (nI ((s - 1) &&& b)) := by
          intro v
          unfold m_X6_crowd_81
          rw [i24, gd_tt, cj, hx, hnx, lt_t]
        obtain ⟨hx1, hJ2⟩ := hJ
        unfold m_X6_crowd_49
        rw [if_neg (nI_nle (by omega) (by omega)), openTo_eq, bk1, bits_eq, bk1, bits_eq, bk1, cany_congr hop 10 (Nat.le_refl _)]
        by_cases hC : CRD cw s
        · have hQs : Qcr cw b s := ⟨by omega, hs, hC⟩
          rw [if_neg (nI_ge hC (pop_lt31 _)), bk1, bits_eq, bk1]
          by_cases hp : pop (nI x) < pop (nI s)
          · rw [if_pos (nI_lt hp (pop_lt31 _)), e81]
            refine hrec x ⟨hx1, ?_⟩
            rcases hJ2 with ⟨h1, h2⟩ | ⟨h1, h2, h3⟩
            · subst h1
              have := pop_mono hs
              omega
            · refine Or.inr ⟨h1, h2, fun y y1 y2 y3 => ?_⟩
              rcases hnext y y1 y3.2.1 with e | e
              · subst e; exact Or.inl hp
              · exact h3 y e y2 y3
          · rw [if_neg (nI_nlt (Nat.le_of_not_lt hp) (pop_lt31 _)), e81]
            refine hrec s ⟨by omega, Or.inr ⟨hQs, by omega, fun y y1 y2 y3 => ?_⟩⟩
            rcases hnext y y1 y3.2.1 with e | e
            · subst e; exact Or.inr ⟨rfl, Nat.le_refl _⟩
            · rcases hJ2 with ⟨h1, h2⟩ | ⟨h1, h2, h3⟩
              · exact absurd y3 (h2 y e y2)
              · have := h3 y e y2 y3
                unfold btr at this ⊢
                omega
        · rw [if_pos (nI_le (Nat.le_of_not_lt hC) (pop_lt31 _)), e81]
          refine hrec x ⟨hx1, ?_⟩
          rcases hJ2 with ⟨h1, h2⟩ | ⟨h1, h2, h3⟩
          · refine Or.inl ⟨h1, fun y y1 y2 y3 => ?_⟩
            rcases hnext y y1 y3.2.1 with e | e
            · subst e; exact hC y3.2.2
            · exact h2 y e y2 y3
          · refine Or.inr ⟨h1, h2, fun y y1 y2 y3 => ?_⟩
            rcases hnext y y1 y3.2.1 with e | e
            · subst e; exact absurd y3.2.2 hC
            · exact h3 y e y2 y3
theorem hall_Q {cw : Nat → Int32} (hsm : small6 cw) {b : Nat} (h : wy cw (blN b) 0 = false) : ∃ y, y < 1024 ∧ Qcr cw b y := by
  by_cases hH : ∀ p : Nat → Bool, (blN b).countP p ≤ (List.range 6).countP (nbr cw (blN b) p 0)
  · rw [hall _ (blN b) 0 (Nat.le_refl _) (blN_nd b) hH] at h; cases h
  · obtain ⟨p, hp⟩ := Classical.not_forall.mp hH
    have hp := Nat.lt_of_not_le hp
    obtain ⟨y, hyb⟩ : ∃ y : Nat, ∀ c, y.testBit c = (decide (c < 10) && (b.testBit c && p c)) := ⟨_, mkN_bit (fun s => b.testBit s && p s) 10⟩
    have hy : y < 1024 := Nat.lt_pow_two_of_testBit (n := 10) y (fun i hi => by
      rw [hyb]
      have : ¬ i < 10 := by omega
      simp [this])
    have e1 : pop (nI y) = (blN b).countP p := by
      rw [blN_leq hy]
      unfold blN
      rw [← List.countP_eq_length_filter, List.countP_filter]
      refine List.countP_congr (fun i hi => ?_)
      have hi : i < 10 := List.mem_range.mp hi
      rw [hyb]
      cases b.testBit i <;> cases p i <;> simp [hi]
    have e2 : pop (cany cw (nI y) 10) ≤ (List.range 6).countP (nbr cw (blN b) p 0) := by
      have h2 : List.range 32 = List.range 6 ++ (List.range 26).map (fun x => 6 + x) := by rw [← List.range_add]
      unfold pop
      rw [h2, List.countP_append]
      have z1 : ((List.range 26).map (fun x => 6 + x)).countP (fun i => bt (cany cw (nI y) 10) i) = 0 := by
        rw [List.countP_eq_zero]
        intro a ha hh
        obtain ⟨x, hx, rfl⟩ := List.mem_map.mp ha
        obtain ⟨s, k1, k2, k3⟩ := (cany_bit cw (nI y) _ 10).mp hh
        rw [hsm s k1 _ (by omega)] at k3
        cases k3
      rw [z1, Nat.add_zero]
      refine countP_mono (fun c hc hh => ?_)
      obtain ⟨s, k1, k2, k3⟩ := (cany_bit cw (nI y) c 10).mp hh
      rw [p_nbit, hyb] at k2
      simp only [Bool.and_eq_true, decide_eq_true_eq] at k2
      exact (nbr_iff _ _ _ _ _).mpr ⟨⟨s, List.mem_filter.mpr ⟨List.mem_range.mpr k1, k2.2.2.1⟩, k2.2.2.2, k3⟩, by simp⟩
    refine ⟨y, hy, ?_, ?_, ?_⟩
    · rcases Nat.eq_zero_or_pos y with e | e
      · subst e
        rw [show pop (nI 0) = 0 by decide] at e1
        omega
      · exact e
    · refine Nat.eq_of_testBit_eq (fun i => ?_)
      rw [Nat.testBit_and, hyb]
      cases b.testBit i <;> simp
    · unfold CRD
      omega
theorem sim_crowd : Sim_crowd := by
  intro tc told ts tg cc rc sz bars subj teach seats col cw rs rk rch mt row tp tape mc mr mm mbars msubj mteach mseats mcol mp mk mch mth mopen v1 hR
  have hR0 := hR
  obtain ⟨hrow, htext, ⟨rfl, rfl, rfl, n, r, z, ⟨hn1, hn6, rfl⟩, ⟨hr1, hr9, rfl⟩, ⟨hz, rfl⟩, hbars, hsec, hcw, hroom⟩, ⟨rfl, rfl, k, hk, rfl, hch⟩⟩ := hR
  have hk' : k < 2 ^ 31 := by omega
  by_cases h : 0 ≤ v1.toInt ∧ v1.toInt < k
  · obtain ⟨j, hj, rfl⟩ := rng_of h hk'
    have i24 : inb (nI j) 24 = true := inb_nI (by omega) (by decide)
    have cl : (nI j).toNatClampNeg = j := nI_clamp (by omega)
    have hdf := doesFit_eq hn6 hz hj hk hsec hcw hch mopen
    obtain ⟨he, ⟨b, hb1, hb2, eb⟩, hpop⟩ := hch j hj
    rw [eb] at he hdf
    have hcwo := cw_open hn6 hsec hcw mopen
    generalize loN msubj mcol (loZ mopen 10) z = OP at hcwo hdf
    have hop : ∀ s, s < 10 → OP s = cw s := fun s hs => (hcwo s hs).symm
    have hsm := cw_small hn6 hsec hcw
    cases hw : wy cw (bl (nI b)) 0
    · have hw' : wy cw (blN b) 0 = false := by rw [← bl_nI]; exact hw
      obtain ⟨y0, hy0, hQ0⟩ := hall_Q hsm hw'
      obtain ⟨x, hX, hx1, hx2⟩ := crowd_X cw b tc told
      have hb0 : (b - 1) &&& b < b := Nat.lt_of_le_of_lt Nat.and_le_left (by omega)
      obtain ⟨x', hM, hx1', hx2'⟩ := crowd_M hop hb2 (show j < 24 by omega) eb mt row ((b - 1) &&& b) (by rw [Nat.and_assoc, Nat.and_self]) (Or.inl hb0) 1100 b (by omega) ⟨hb2, Or.inl ⟨rfl, fun y y1 y2 y3 => by
        have := sub_next b b y (Nat.and_self b) y3.2.1 y2
        omega⟩⟩
      have hxx : x' = x := by
        rcases hx2 with ⟨-, h2⟩ | ⟨h1, h2⟩
        · exact absurd hQ0 (h2 y0 hy0)
        · have hxb : x ≤ b := by rw [← h1.2.1]; exact Nat.and_le_right
          rcases hx2' with ⟨g1, g2⟩ | ⟨g1, g2, g3⟩
          · subst g1
            rcases Nat.lt_or_eq_of_le hxb with e | e
            · exact absurd h1 (g2 x h1.1 e)
            · exact e.symm
          · have k1 := h2 x' hx1' g1
            rcases Nat.lt_or_eq_of_le hxb with e | e
            · have k2 := g3 x h1.1 e h1
              unfold btr at k1 k2
              omega
            · subst e
              have k2 := pop_mono g1.2.1
              unfold btr at k1
              omega
      subst hxx
      have hnb : (nI b - 1) &&& nI b = nI ((b - 1) &&& b) := by
        obtain ⟨q, rfl⟩ : ∃ q, b = q + 1 := ⟨b - 1, by omega⟩
        rw [nI_pred, p_land, Nat.add_sub_cancel]
      have ex : m_X5_crowd tc cw (nI k) rch told (nI j) = some (nI x', 2, vp_updL (vp_updL told 0 (nI (pop (nI x'))).toInt64) 1 (cany cw (nI x') 10).toInt64) := by
        unfold m_X5_crowd
        rw [X1_has_eq hk', if_pos h, bk1, if_neg (by decide), i24, gd_tt, cl, he, lt_t, hasWayX_eq, bk1, hw, if_pos (by decide), hX]
        unfold m_X5_crowd_108
        rw [bitCount_eq, bk1, columnsOfAny_eq, bk1, tell2_eq, bk2]
      have em : m_X6_crowd mth mt (nI z) (nI k) row msubj mcol mch mopen (nI j) = some (nI x', 0, 2, upd (upd row 0 (nI (pop (nI x')))) 1 (cany cw (nI x') 10), OP) := by
        unfold m_X6_crowd
        rw [X6_isPupil_eq hk', if_pos h, bk1, if_neg (by decide), hdf, bk2, hw, if_pos (by decide), i24, gd_tt, cl, eb, lt_t, gd_tt, gd_tt, lt_t, hnb, hM]
        unfold m_X6_crowd_95
        rw [bits_eq, bk1, openTo_eq, bk1, notes2_eq, bk2, cany_congr hop 10 (Nat.le_refl _)]
      exact ⟨_, _, _, _, _, _, _, ex, em, RRow_2 _ _ _ _, htext, ⟨rfl, rfl, rfl, n, r, z, ⟨hn1, hn6, rfl⟩, ⟨hr1, hr9, rfl⟩, ⟨hz, rfl⟩, hbars, hsec, hcw, hroom⟩, ⟨rfl, rfl, k, hk, rfl, hch⟩⟩
    · have ex : m_X5_crowd tc cw (nI k) rch told (nI j) = some (-2, tc, told) := by
        unfold m_X5_crowd
        rw [X1_has_eq hk', if_pos h, bk1, if_neg (by decide), i24, gd_tt, cl, he, lt_t, hasWayX_eq, bk1, hw, if_neg (by decide)]
      have em : m_X6_crowd mth mt (nI z) (nI k) row msubj mcol mch mopen (nI j) = some (-2, 0, mt, row, OP) := by
        unfold m_X6_crowd
        rw [X6_isPupil_eq hk', if_pos h, bk1, if_neg (by decide), hdf, bk2, hw, if_neg (by decide)]
      exact ⟨_, _, _, _, _, _, _, ex, em, hR0⟩
  · unfold m_X5_crowd m_X6_crowd
    simp only [X1_has_eq hk', X6_isPupil_eq hk', h, bk1, ↓reduceIte]
    exact ⟨_, _, _, _, _, _, _, rfl, rfl, hR0⟩
