/-! the text, sign by sign -/
def isD (k : Nat) (tape : Nat → Int32) (a d : Nat) : Prop := a < k ∧ d < 10 ∧ tape a = nI (48 + d)
theorem isD_uni {k : Nat} {tape : Nat → Int32} {a d e : Nat} (h1 : isD k tape a d) (h2 : isD k tape a e) : d = e := by
  have g1 := h1.2.1
  have g2 := h2.2.1
  have := nI_inj (by omega) (by omega) (h1.2.2.symm.trans h2.2.2)
  omega
def okT (k : Nat) (sg tape : Nat → Int32) : Prop := k ≤ 240 ∧ ∀ j : Nat, j < k → sg j = tape j ∧ ∃ b : Nat, b < 256 ∧ tape j = nI b
theorem ts_y {k : Nat} {sg tape : Nat → Int32} (hT : okT k sg tape) {a : Nat} {v : Int32} (h : a < k) (hv : tape a = v) : m_X3_takeSign (nI k) (nI a) sg v = some (1, nI (a + 1)) ∧ m_X6_passes (nI a) (nI k) tape v = some (1, nI (a + 1)) := by
  have hk := hT.1
  have i240 : inb (nI a) 240 = true := inb_nI (by omega) (by decide)
  have cl : (nI a).toNatClampNeg = a := nI_clamp (by omega)
  constructor
  · unfold m_X3_takeSign
    rw [if_neg (nI_ge h (by omega)), i240, gd_tt, cl, (hT.2 a h).1, if_pos hv, lt_t, nI_1]
  · unfold m_X6_passes
    rw [if_neg (nI_ge h (by omega)), i240, gd_tt, cl, if_pos hv, lt_t, nI_1]
theorem ts_n {k : Nat} {sg tape : Nat → Int32} (hT : okT k sg tape) {a : Nat} {v : Int32} (ha : a ≤ k) (h : a < k → ¬ tape a = v) : m_X3_takeSign (nI k) (nI a) sg v = some (0, nI a) ∧ m_X6_passes (nI a) (nI k) tape v = some (0, nI a) := by
  have hk := hT.1
  by_cases hak : a < k
  · have i240 : inb (nI a) 240 = true := inb_nI (by omega) (by decide)
    have cl : (nI a).toNatClampNeg = a := nI_clamp (by omega)
    constructor
    · unfold m_X3_takeSign
      rw [if_neg (nI_ge hak (by omega)), i240, gd_tt, cl, (hT.2 a hak).1, if_neg (h hak)]
    · unfold m_X6_passes
      rw [if_neg (nI_ge hak (by omega)), i240, gd_tt, cl, if_neg (h hak)]
  · have hle : nI k ≤ nI a := nI_le (by omega) (by omega)
    constructor
    · unfold m_X3_takeSign
      rw [if_pos hle]
    · unfold m_X6_passes
      rw [if_pos hle]
theorem tdX_y {k : Nat} {sg tape : Nat → Int32} (hT : okT k sg tape) {a d : Nat} {al : Int32} (h : isD k tape a d) (hb : bt al d = true) : m_X3_takeDigit (nI k) (nI a) sg al = some (nI d, nI (a + 1)) := by
  obtain ⟨h1, h2, h3⟩ := h
  have hk := hT.1
  have i240 : inb (nI a) 240 = true := inb_nI (by omega) (by decide)
  have cl : (nI a).toNatClampNeg = a := nI_clamp (by omega)
  have ed : nI (48 + d) - 48 = nI d := by
    rw [show (48 : Int32) = nI 48 from rfl, pk_sub (by omega), Nat.add_sub_cancel_left]
  have g9 : ¬ (9 : Int32) < nI d := nI_nlt (a := 9) (b := d) (by omega) (by decide)
  unfold m_X3_takeDigit m_X3_takeDigit_27
  rw [if_neg (nI_ge h1 (by omega)), i240, gd_tt, cl, (hT.2 a h1).1, h3, ed, if_neg (nI_pos (by omega)), if_neg g9, hasBit_eq (by omega), if_pos hb, bk1, if_neg (by decide), lt_t, nI_1]
theorem tdX_n {k : Nat} {sg tape : Nat → Int32} (hT : okT k sg tape) {a : Nat} {al : Int32} (ha : a ≤ k) (h : ∀ d, isD k tape a d → bt al d = false) : m_X3_takeDigit (nI k) (nI a) sg al = some (-1, nI a) := by
  have hk := hT.1
  by_cases hak : a < k
  · have i240 : inb (nI a) 240 = true := inb_nI (by omega) (by decide)
    have cl : (nI a).toNatClampNeg = a := nI_clamp (by omega)
    obtain ⟨e, b, hb, eb⟩ := hT.2 a hak
    unfold m_X3_takeDigit m_X3_takeDigit_27
    rw [if_neg (nI_ge hak (by omega)), i240, gd_tt, cl, e, eb]
    by_cases h1 : b < 48
    · have : nI b - 48 < 0 := by
        rw [Int32.lt_iff_toInt_lt, show (48 : Int32) = nI 48 from rfl, pk_sub_toInt (by omega) (by decide), Int32.toInt_zero]
        omega
      rw [if_pos this]
    · have e2 : nI b - 48 = nI (b - 48) := by rw [show (48 : Int32) = nI 48 from rfl, pk_sub (by omega)]
      rw [e2, if_neg (nI_pos (by omega))]
      by_cases h2 : 9 < b - 48
      · rw [if_pos (show (9 : Int32) < nI (b - 48) from nI_lt (a := 9) h2 (by omega))]
      · rw [if_neg (show ¬ (9 : Int32) < nI (b - 48) from nI_nlt (a := 9) (b := b - 48) (by omega) (by decide)), hasBit_eq (by omega), h (b - 48) ⟨hak, by omega, by rw [eb]; congr 1; omega⟩, if_neg (by decide), bk1, if_pos rfl]
  · unfold m_X3_takeDigit m_X3_takeDigit_27
    rw [if_pos (show nI k ≤ nI a from nI_le (by omega) (by omega)), if_pos (by decide)]
theorem tdM_y {k : Nat} {sg tape : Nat → Int32} (hT : okT k sg tape) {a d : Nat} {lo hi : Int32} {l u : Nat} (hlo : lo.toInt = (l : Int)) (hhi : hi.toInt = (u : Int)) (h : isD k tape a d) (h1 : l ≤ d) (h2 : d ≤ u) (dg : Int32) : m_X6_takesDigit (nI a) (nI k) dg tape lo hi = some (1, nI (a + 1), nI d) := by
  obtain ⟨g1, g2, g3⟩ := h
  have hk := hT.1
  have i240 : inb (nI a) 240 = true := inb_nI (by omega) (by decide)
  have cl : (nI a).toNatClampNeg = a := nI_clamp (by omega)
  have ed : nI (48 + d) - 48 = nI d := by
    rw [show (48 : Int32) = nI 48 from rfl, pk_sub (by omega), Nat.add_sub_cancel_left]
  unfold m_X6_takesDigit
  rw [if_neg (nI_ge g1 (by omega)), i240, gd_tt, cl, g3, ed, in_eq, Int32.toInt_toInt64, Int32.toInt_toInt64, hlo, hhi, nI_toInt (by omega), if_pos (by omega), bk1, if_neg (by decide), gd_tt, lt_t, lt_t, nI_1]
theorem tdM_n {k : Nat} {sg tape : Nat → Int32} (hT : okT k sg tape) {a : Nat} {lo hi : Int32} {l u : Nat} (hlo : lo.toInt = (l : Int)) (hhi : hi.toInt = (u : Int)) (hu : u ≤ 9) (ha : a ≤ k) (h : ∀ d, isD k tape a d → ¬ (l ≤ d ∧ d ≤ u)) (dg : Int32) : m_X6_takesDigit (nI a) (nI k) dg tape lo hi = some (0, nI a, dg) := by
  have hk := hT.1
  by_cases hak : a < k
  · have i240 : inb (nI a) 240 = true := inb_nI (by omega) (by decide)
    have cl : (nI a).toNatClampNeg = a := nI_clamp (by omega)
    obtain ⟨e, b, hb, eb⟩ := hT.2 a hak
    have hx : (nI b - 48).toInt = (b : Int) - 48 := by
      rw [show (48 : Int32) = nI 48 from rfl, pk_sub_toInt (by omega) (by decide)]; rfl
    have hno : ¬ ((l : Int) ≤ (b : Int) - 48 ∧ (b : Int) - 48 ≤ (u : Int)) := by
      rintro ⟨q1, q2⟩
      exact h (b - 48) ⟨hak, by omega, by rw [eb]; congr 1; omega⟩ ⟨by omega, by omega⟩
    unfold m_X6_takesDigit
    rw [if_neg (nI_ge hak (by omega)), i240, gd_tt, cl, eb, in_eq, Int32.toInt_toInt64, Int32.toInt_toInt64, hlo, hhi, hx, if_neg hno, bk1, if_pos rfl]
  · unfold m_X6_takesDigit
    rw [if_pos (show nI k ≤ nI a from nI_le (by omega) (by omega))]
theorem id_y {k : Nat} {sg tape : Nat → Int32} (hT : okT k sg tape) {a d : Nat} (h : isD k tape a d) : m_X6_isDigit (nI a) (nI k) tape = some 1 := by
  obtain ⟨g1, g2, g3⟩ := h
  have hk := hT.1
  have i240 : inb (nI a) 240 = true := inb_nI (by omega) (by decide)
  have cl : (nI a).toNatClampNeg = a := nI_clamp (by omega)
  unfold m_X6_isDigit
  rw [if_neg (nI_ge g1 (by omega)), i240, gd_tt, cl, g3, in_eq, nI_toInt (by omega), show (48 : Int64).toInt = 48 from rfl, show (57 : Int64).toInt = 57 from rfl, if_pos (by omega), bk1, if_neg (by decide)]
theorem id_n {k : Nat} {sg tape : Nat → Int32} (hT : okT k sg tape) {a : Nat} (ha : a ≤ k) (h : ¬ ∃ d, isD k tape a d) : m_X6_isDigit (nI a) (nI k) tape = some 0 := by
  have hk := hT.1
  by_cases hak : a < k
  · have i240 : inb (nI a) 240 = true := inb_nI (by omega) (by decide)
    have cl : (nI a).toNatClampNeg = a := nI_clamp (by omega)
    obtain ⟨e, b, hb, eb⟩ := hT.2 a hak
    have hno : ¬ ((48 : Int) ≤ (b : Int) ∧ (b : Int) ≤ 57) := by
      rintro ⟨q1, q2⟩
      exact h ⟨b - 48, hak, by omega, by rw [eb]; congr 1; omega⟩
    unfold m_X6_isDigit
    rw [if_neg (nI_ge hak (by omega)), i240, gd_tt, cl, eb, in_eq, nI_toInt (by omega), show (48 : Int64).toInt = 48 from rfl, show (57 : Int64).toInt = 57 from rfl, if_neg hno, bk1, if_pos rfl]
  · unfold m_X6_isDigit
    rw [if_pos (show nI k ≤ nI a from nI_le (by omega) (by omega))]
/-! choices -/
def dAb (d : Nat) : Int32 := (1023 : Int32) &&& (-((2 : Int32) <<< (nI d &&& 31)))
theorem dAb_bt : ∀ d, d < 10 → ∀ e, e < 10 → bt (dAb d) e = decide (d < e) := by decide +kernel
theorem digitsAbove_eq (d : Nat) : m_X5_digitsAbove (nI d) = some (dAb d) := rfl
theorem one_shl10 : ∀ c, c < 10 → (1 : Int32) <<< (nI c &&& 31) = nI (2 ^ c) ∧ 2 ^ c < 1024 := by decide +kernel
theorem countP_or1 {p : Nat → Bool} {d : Nat} (hp : p d = false) : ∀ n, (List.range n).countP (fun i => p i || decide (i = d)) = (List.range n).countP p + (if d < n then 1 else 0)
  | 0 => by simp
  | n + 1 => by
    rw [List.range_succ, List.countP_append, List.countP_append, countP_or1 hp n]
    by_cases e : n = d
    · subst e
      simp [hp]
    · have h1 : (d < n + 1) ↔ d < n := by omega
      simp only [h1, List.countP_cons, List.countP_nil, e, decide_false, Bool.or_false]
      omega
theorem pop_or1 {b d : Nat} (hd : d < 32) (hb : b.testBit d = false) : pop (nI (b ||| 2 ^ d)) = pop (nI b) + 1 := by
  have h := countP_or1 (p := fun i => bt (nI b) i) (d := d) (by show bt (nI b) d = false; rw [p_nbit, hb]; simp) 32
  rw [if_pos hd] at h
  unfold pop
  rw [← h]
  refine List.countP_congr (fun i hi => ?_)
  have hi : i < 32 := List.mem_range.mp hi
  rw [p_nbit, p_nbit, tb_or]
  have h2 : (d = i) ↔ (i = d) := ⟨Eq.symm, Eq.symm⟩
  simp only [hi, decide_true, Bool.true_and, h2]
theorem choices_loop {k : Nat} {sg tape : Nat → Int32} (hT : okT k sg tape) {m : Nat} (hm : m < 24) (rc : Nat → Int32) :
    ∀ (e i a b l fX fM : Nat) (al dg : Int32), i + e = 6 → e < fX → e < fM → a ≤ k → b < 1024 → pop (nI b) = i → l ≤ 10 → (∀ s, b.testBit s = true → s < l) → (∀ d, d < 10 → bt al d = decide (l ≤ d)) →
    ∃ b' a', a ≤ a' ∧ a' ≤ k ∧ b' < 1024 ∧ pop (nI b') ≤ 6 ∧ it4 (m_X1_readChoices_8 (nI k) sg) fX (nI b) al (nI i) (nI a) = some (nI b', nI a') ∧
      ((¬ (∃ d, isD k tape a' d) ∧ b' ≠ 0 ∧ ∃ dg', it4 (m_X6_takesChoices_4 (nI k) (nI m) tape rc) fM (nI l) (nI b) (nI a) dg = some (1, nI a', dg', nI (m + 1), upd rc m (nI b'))) ∨ ((b' = 0 ∨ ∃ d, isD k tape a' d) ∧ ∃ dg', it4 (m_X6_takesChoices_4 (nI k) (nI m) tape rc) fM (nI l) (nI b) (nI a) dg = some (0, nI a', dg', nI m, rc))) := by
  have i24 : inb (nI m) 24 = true := inb_nI hm (by decide)
  have cm : (nI m).toNatClampNeg = m := nI_clamp (by omega)
  have e55 : ∀ (at_ dg v : Int32), m_X6_takesChoices_55 at_ dg (nI m) rc v = some (1, at_, dg, nI (m + 1), upd rc m v) := by
    intro at_ dg v
    unfold m_X6_takesChoices_55
    rw [i24, gd_tt, lt_t, nI_1, cm]
  intro e
  induction e with
  | zero =>
    intro i a b l fX fM al dg hi hX hM ha hb hp hl hs hal
    have : i = 6 := by omega
    subst this
    have hb0 : b ≠ 0 := by
      rintro rfl
      rw [show pop (nI 0) = 0 by decide +kernel] at hp
      omega
    have hne : ¬ nI b = 0 := by rw [nI_zero (by omega)]; exact hb0
    cases fX with
    | zero => exact absurd hX (by omega)
    | succ fX =>
      cases fM with
      | zero => exact absurd hM (by omega)
      | succ fM =>
        refine ⟨b, a, Nat.le_refl _, ha, hb, by omega, ?_, ?_⟩
        · show m_X1_readChoices_8 (nI k) sg (it4 (m_X1_readChoices_8 (nI k) sg) fX) (nI b) al (nI 6) (nI a) = _
          generalize it4 (m_X1_readChoices_8 (nI k) sg) fX = rec
          unfold m_X1_readChoices_8
          rw [if_pos (by decide)]
        · have sM : it4 (m_X6_takesChoices_4 (nI k) (nI m) tape rc) (fM + 1) (nI l) (nI b) (nI a) dg = m_X6_takesChoices_4 (nI k) (nI m) tape rc (it4 (m_X6_takesChoices_4 (nI k) (nI m) tape rc) fM) (nI l) (nI b) (nI a) dg := rfl
          rw [sM]
          generalize it4 (m_X6_takesChoices_4 (nI k) (nI m) tape rc) fM = rec
          unfold m_X6_takesChoices_4
          rw [if_neg hne]
          by_cases hd : ∃ d, isD k tape a d
          · right
            obtain ⟨d, hd'⟩ := hd
            refine ⟨Or.inr ⟨d, hd'⟩, dg, ?_⟩
            rw [id_y hT hd', bk1, if_neg (by decide)]
            unfold m_X6_takesChoices_15
            rw [bits_eq, bk1, hp, if_pos (by decide)]
          · left
            refine ⟨hd, hb0, dg, ?_⟩
            rw [id_n hT ha hd, bk1, if_pos rfl, e55]
  | succ e ih =>
    intro i a b l fX fM al dg hi hX hM ha hb hp hl hs hal
    cases fX with
    | zero => exact absurd hX (by omega)
    | succ fX =>
      cases fM with
      | zero => exact absurd hM (by omega)
      | succ fM =>
        have sX : it4 (m_X1_readChoices_8 (nI k) sg) (fX + 1) (nI b) al (nI i) (nI a) = m_X1_readChoices_8 (nI k) sg (it4 (m_X1_readChoices_8 (nI k) sg) fX) (nI b) al (nI i) (nI a) := rfl
        have sM : it4 (m_X6_takesChoices_4 (nI k) (nI m) tape rc) (fM + 1) (nI l) (nI b) (nI a) dg = m_X6_takesChoices_4 (nI k) (nI m) tape rc (it4 (m_X6_takesChoices_4 (nI k) (nI m) tape rc) fM) (nI l) (nI b) (nI a) dg := rfl
        rw [sX, sM]
        have hIH := fun a' b' l' al' dg' => ih (i + 1) a' b' l' fX fM al' dg'
        generalize it4 (m_X1_readChoices_8 (nI k) sg) fX = recX at hIH ⊢
        generalize it4 (m_X6_takesChoices_4 (nI k) (nI m) tape rc) fM = recM at hIH ⊢
        have g6 : ¬ (6 : Int32) ≤ nI i := nI_ge (a := i) (b := 6) (by omega) (by decide)
        have n6 : ¬ nI (pop (nI b)) = 6 := by
          rw [hp, show (6 : Int32) = nI 6 from rfl, nI_eq (by omega) (by decide)]
          omega
        have hlo : (nI l).toInt = (l : Int) := nI_toInt (by omega)
        have hhi : (9 : Int32).toInt = ((9 : Nat) : Int) := rfl
        by_cases hd : ∃ d, isD k tape a d ∧ l ≤ d
        · obtain ⟨d, hd', hld⟩ := hd
          have hd10 := hd'.2.1
          have hbd : b.testBit d = false := by
            cases e : b.testBit d
            · rfl
            · have := hs d e; omega
          obtain ⟨b', a', r1, r2, r3, r4, r5, r6⟩ := hIH (a + 1) (b ||| 2 ^ d) (d + 1) (dAb d) (nI d) (by omega) (by omega) (by omega) (by have := hd'.1; omega) (Nat.or_lt_two_pow (n := 10) hb (one_shl10 d hd10).2) (by rw [pop_or1 (by omega) hbd, hp]) (by omega) (fun s h => by
            rw [tb_or, Bool.or_eq_true] at h
            rcases h with h | h
            · have := hs s h; omega
            · have : d = s := of_decide_eq_true h
              omega) (fun q hq => by
            rw [dAb_bt d hd10 q hq]
            exact decide_eq_decide.mpr (by omega))
          have e15 : m_X6_takesChoices_15 (nI a) (nI k) dg (nI m) tape rc (nI l) (nI b) recM = recM (nI (d + 1)) (nI (b ||| 2 ^ d)) (nI (a + 1)) (nI d) := by
            unfold m_X6_takesChoices_15
            rw [bits_eq, bk1, if_neg n6, tdM_y hT hlo hhi hd' hld (by omega), bk3, if_neg (by decide), lt_t, lt_t, (one_shl10 d hd10).1, p_lor, nI_1]
          refine ⟨b', a', by omega, r2, r3, r4, ?_, ?_⟩
          · unfold m_X1_readChoices_8
            rw [if_neg g6, tdX_y hT hd' (by rw [hal d hd10]; exact decide_eq_true hld), bk2, if_neg (nI_nm1 (by omega)), lt_t, digitsAbove_eq, bk1, lt_t, (one_shl10 d hd10).1, p_lor, nI_1]
            exact r5
          · have e4 : m_X6_takesChoices_4 (nI k) (nI m) tape rc recM (nI l) (nI b) (nI a) dg = recM (nI (d + 1)) (nI (b ||| 2 ^ d)) (nI (a + 1)) (nI d) := by
              unfold m_X6_takesChoices_4
              rw [e15, id_y hT hd', bk1, if_neg (show ¬ (1 : Int32) = 0 by decide)]
              split <;> rfl
            rw [e4]
            exact r6
        · have hnd : ∀ d, isD k tape a d → ¬ (l ≤ d ∧ d ≤ 9) := fun d h1 h2 => hd ⟨d, h1, h2.1⟩
          refine ⟨b, a, Nat.le_refl _, ha, hb, by omega, ?_, ?_⟩
          · unfold m_X1_readChoices_8
            rw [if_neg g6, tdX_n hT ha (fun d h => by rw [hal d h.2.1]; exact decide_eq_false (fun q => hd ⟨d, h, q⟩)), bk2, if_pos rfl]
          · have e15 : m_X6_takesChoices_15 (nI a) (nI k) dg (nI m) tape rc (nI l) (nI b) recM = some (0, nI a, dg, nI m, rc) := by
              unfold m_X6_takesChoices_15
              rw [bits_eq, bk1, if_neg n6, tdM_n hT hlo hhi (Nat.le_refl 9) ha hnd, bk3, if_pos rfl]
            unfold m_X6_takesChoices_4
            by_cases hb0 : b = 0
            · right
              refine ⟨Or.inl hb0, dg, ?_⟩
              rw [if_pos (by rw [hb0]; rfl), e15]
            · rw [if_neg (fun q => hb0 ((nI_zero (by omega)).mp q))]
              by_cases hdd : ∃ d, isD k tape a d
              · right
                refine ⟨Or.inr hdd, dg, ?_⟩
                obtain ⟨d, hd'⟩ := hdd
                rw [id_y hT hd', bk1, if_neg (by decide), e15]
              · left
                refine ⟨hdd, hb0, dg, ?_⟩
                rw [id_n hT ha hdd, bk1, if_pos rfl, e55]
theorem bt1023 : ∀ d, d < 10 → bt 1023 d = decide (0 ≤ d) := by decide +kernel
theorem choices_eq {k : Nat} {sg tape : Nat → Int32} (hT : okT k sg tape) {m : Nat} (hm : m < 24) (rc : Nat → Int32) {a : Nat} (ha : a ≤ k) (dg : Int32) :
    ∃ b' a', a ≤ a' ∧ a' ≤ k ∧ b' < 1024 ∧ pop (nI b') ≤ 6 ∧ m_X1_readChoices (nI k) (nI a) sg = some (nI b', nI a') ∧
      ((¬ (∃ d, isD k tape a' d) ∧ b' ≠ 0 ∧ ∃ dg', m_X6_takesChoices (nI a) (nI k) dg (nI m) tape rc = some (1, nI a', dg', nI (m + 1), upd rc m (nI b'))) ∨ ((b' = 0 ∨ ∃ d, isD k tape a' d) ∧ ∃ dg', m_X6_takesChoices (nI a) (nI k) dg (nI m) tape rc = some (0, nI a', dg', nI m, rc))) :=
  choices_loop hT hm rc 6 0 a 0 0 1100 1100 1023 dg rfl (by decide) (by decide) ha (by decide) (by decide +kernel) (by decide) (fun s h => by rw [Nat.zero_testBit] at h; cases h) bt1023
/-! pupils -/
theorem pupils_loop {k : Nat} {sg tape : Nat → Int32} (hT : okT k sg tape) :
    ∀ (e m a fX fM : Nat) (ch rc : Nat → Int32) (dg : Int32), m + e = 23 → e + 1 < fX → e + 1 < fM → a ≤ k → okRoll m ch rc →
    ∃ ok m1 ch' a' dg' m2 rc', it3 (m_X1_readFrom_13 0 (nI k) sg) fX (nI m) ch (nI a) = some (fl ok, nI m1, 0, ch', nI a') ∧ it5 (m_X6_takesPupils_18 (nI k) tape) fM 1 (nI a) dg (nI m) rc = some (fl ok, nI a', dg', nI m2, rc') ∧ (ok = true → m1 = m2 ∧ m2 ≤ 24 ∧ okRoll m2 ch' rc') := by
  intro e
  induction e with
  | zero =>
    intro m a fX fM ch rc dg hme hX hM ha hr
    have : m = 23 := by omega
    subst this
    obtain ⟨fX, rfl⟩ : ∃ q, fX = q + 1 + 1 := ⟨fX - 2, by omega⟩
    obtain ⟨fM, rfl⟩ : ∃ q, fM = q + 1 + 1 := ⟨fM - 2, by omega⟩
    obtain ⟨b', a', q1, q2, q3, q4, q5, q6⟩ := choices_eq hT (show 23 < 24 by decide) rc ha dg
    have hk := hT.1
    have i24 : inb (nI 23) 24 = true := inb_nI (by decide) (by decide)
    have cm : (nI 23).toNatClampNeg = 23 := nI_clamp (by decide)
    have sX : ∀ (ch : Nat → Int32) (a : Nat), it3 (m_X1_readFrom_13 0 (nI k) sg) (fX + 1) (nI 24) ch (nI a) = some (0, nI 24, 0, ch, nI a) := by
      intro ch a
      show m_X1_readFrom_13 0 (nI k) sg (it3 (m_X1_readFrom_13 0 (nI k) sg) fX) (nI 24) ch (nI a) = _
      generalize it3 (m_X1_readFrom_13 0 (nI k) sg) fX = rec
      unfold m_X1_readFrom_13
      rw [if_pos (by decide)]
    have sM : ∀ (a dg rm : Int32) (rc : Nat → Int32), it5 (m_X6_takesPupils_18 (nI k) tape) (fM + 1) 0 a dg rm rc = m_X6_takesPupils_58 a (nI k) dg rm rc := by
      intro a dg rm rc
      show m_X6_takesPupils_18 (nI k) tape (it5 (m_X6_takesPupils_18 (nI k) tape) fM) 0 a dg rm rc = _
      generalize it5 (m_X6_takesPupils_18 (nI k) tape) fM = rec
      unfold m_X6_takesPupils_18
      rw [if_pos rfl]
    have tX : it3 (m_X1_readFrom_13 0 (nI k) sg) (fX + 1 + 1) (nI 23) ch (nI a) = m_X1_readFrom_13 0 (nI k) sg (it3 (m_X1_readFrom_13 0 (nI k) sg) (fX + 1)) (nI 23) ch (nI a) := rfl
    have tM : it5 (m_X6_takesPupils_18 (nI k) tape) (fM + 1 + 1) 1 (nI a) dg (nI 23) rc = m_X6_takesPupils_18 (nI k) tape (it5 (m_X6_takesPupils_18 (nI k) tape) (fM + 1)) 1 (nI a) dg (nI 23) rc := rfl
    rw [tX, tM]
    generalize it3 (m_X1_readFrom_13 0 (nI k) sg) (fX + 1) = recX at sX ⊢
    generalize it5 (m_X6_takesPupils_18 (nI k) tape) (fM + 1) = recM at sM ⊢
    unfold m_X1_readFrom_13 m_X6_takesPupils_18
    rw [if_neg (show ¬ (24 : Int32) ≤ nI 23 by decide), q5, bk2, if_neg (show ¬ (1 : Int32) = 0 by decide)]
    rcases q6 with ⟨g1, g2, dg', g3⟩ | ⟨g1, dg', g3⟩
    · have hne : ¬ nI b' = 0 := by rw [nI_zero (by omega)]; exact g2
      rw [if_neg hne, i24, gd_tt, lt_t, nI_1, cm, g3, bk5, if_neg (show ¬ (1 : Int32) = 0 by decide), if_pos (show (24 : Int32) ≤ nI (23 + 1) by decide), sM]
      unfold m_X3_isRead m_X6_takesPupils_58
      by_cases hak : a' < k
      · rw [if_pos (nI_lt hak (by omega)), bk1, if_pos rfl, if_pos (show (24 : Int32) ≤ nI (23 + 1) by decide), sX, if_neg (fun q => by have := nI_inj (by omega) (by omega) q; omega)]
        exact ⟨false, _, _, _, _, _, _, rfl, rfl, fun h => by cases h⟩
      · have : a' = k := by omega
        subst this
        rw [if_neg (nI_nlt (Nat.le_refl _) (by omega)), bk1, if_neg (by decide), if_pos rfl]
        refine ⟨true, _, _, _, _, _, _, rfl, rfl, fun _ => ⟨rfl, by decide, fun p hp => ?_⟩⟩
        by_cases ep : p = 23
        · subst ep
          rw [upd_s, upd_s]
          exact ⟨rfl, ⟨b', by omega, q3, rfl⟩, q4⟩
        · rw [upd_n ep, upd_n ep]
          exact hr p (by omega)
    · rw [g3, bk5, if_pos rfl]
      by_cases hb0 : b' = 0
      · rw [if_pos (show nI b' = 0 by rw [hb0]; rfl)]
        exact ⟨false, _, _, _, _, _, _, rfl, rfl, fun h => by cases h⟩
      · have hne : ¬ nI b' = 0 := by rw [nI_zero (by omega)]; exact hb0
        obtain ⟨d, hd⟩ : ∃ d, isD k tape a' d := by
          rcases g1 with g1 | g1
          · exact absurd g1 hb0
          · exact g1
        have hak := hd.1
        unfold m_X3_isRead
        rw [if_neg hne, i24, gd_tt, lt_t, nI_1, cm, if_pos (nI_lt hak (by omega)), bk1, if_pos rfl, if_pos (show (24 : Int32) ≤ nI (23 + 1) by decide), sX]
        exact ⟨false, _, _, _, _, _, _, rfl, rfl, fun h => by cases h⟩
  | succ e ih =>
    intro m a fX fM ch rc dg hme hX hM ha hr
    obtain ⟨fX, rfl⟩ : ∃ q, fX = q + 1 + 1 := ⟨fX - 2, by omega⟩
    obtain ⟨fM, rfl⟩ : ∃ q, fM = q + 1 + 1 := ⟨fM - 2, by omega⟩
    have hm24 : m < 24 := by omega
    have hm24' : m + 1 < 24 := by omega
    obtain ⟨b', a', q1, q2, q3, q4, q5, q6⟩ := choices_eq hT hm24 rc ha dg
    have hk := hT.1
    have i24 : inb (nI m) 24 = true := inb_nI hm24 (by decide)
    have cm : (nI m).toNatClampNeg = m := nI_clamp (by omega)
    have l24 : ¬ (24 : Int32) ≤ nI m := nI_ge (a := m) (b := 24) hm24 (by decide)
    have l24' : ¬ (24 : Int32) ≤ nI (m + 1) := nI_ge (a := m + 1) (b := 24) hm24' (by decide)
    have sM : ∀ (a dg rm : Int32) (rc : Nat → Int32), it5 (m_X6_takesPupils_18 (nI k) tape) (fM + 1) 0 a dg rm rc = m_X6_takesPupils_58 a (nI k) dg rm rc := by
      intro a dg rm rc
      show m_X6_takesPupils_18 (nI k) tape (it5 (m_X6_takesPupils_18 (nI k) tape) fM) 0 a dg rm rc = _
      generalize it5 (m_X6_takesPupils_18 (nI k) tape) fM = rec
      unfold m_X6_takesPupils_18
      rw [if_pos rfl]
    have tX : it3 (m_X1_readFrom_13 0 (nI k) sg) (fX + 1 + 1) (nI m) ch (nI a) = m_X1_readFrom_13 0 (nI k) sg (it3 (m_X1_readFrom_13 0 (nI k) sg) (fX + 1)) (nI m) ch (nI a) := rfl
    have tM : it5 (m_X6_takesPupils_18 (nI k) tape) (fM + 1 + 1) 1 (nI a) dg (nI m) rc = m_X6_takesPupils_18 (nI k) tape (it5 (m_X6_takesPupils_18 (nI k) tape) (fM + 1)) 1 (nI a) dg (nI m) rc := rfl
    rw [tX, tM]
    have hIH := fun a' ch' rc' dg' => ih (m + 1) a' (fX + 1) (fM + 1) ch' rc' dg' (by omega) (by omega) (by omega)
    generalize it3 (m_X1_readFrom_13 0 (nI k) sg) (fX + 1) = recX at hIH ⊢
    generalize it5 (m_X6_takesPupils_18 (nI k) tape) (fM + 1) = recM at sM hIH ⊢
    unfold m_X1_readFrom_13 m_X6_takesPupils_18
    rw [if_neg l24, q5, bk2, if_neg (show ¬ (1 : Int32) = 0 by decide)]
    rcases q6 with ⟨g1, g2, dg', g3⟩ | ⟨g1, dg', g3⟩
    · have hne : ¬ nI b' = 0 := by rw [nI_zero (by omega)]; exact g2
      have hr' : okRoll (m + 1) (upd ch m (nI b')) (upd rc m (nI b')) := fun p hp => by
        by_cases ep : p = m
        · subst ep
          rw [upd_s, upd_s]
          exact ⟨rfl, ⟨b', by omega, q3, rfl⟩, q4⟩
        · rw [upd_n ep, upd_n ep]
          exact hr p (by omega)
      rw [if_neg hne, i24, gd_tt, lt_t, nI_1, cm, g3, bk5, if_neg (show ¬ (1 : Int32) = 0 by decide), if_neg l24']
      unfold m_X3_isRead
      by_cases hak : a' < k
      · rw [if_pos (nI_lt hak (by omega)), bk1, if_pos rfl, if_neg l24']
        by_cases hc : tape a' = 44
        · obtain ⟨y1, y2⟩ := ts_y hT hak hc
          rw [y1, y2, bk2, bk2, if_neg (show ¬ (1 : Int32) = 0 by decide), if_neg (show ¬ (1 : Int32) = 0 by decide)]
          exact hIH (a' + 1) (upd ch m (nI b')) (upd rc m (nI b')) dg' (by omega) hr'
        · obtain ⟨y1, y2⟩ := ts_n hT q2 (fun _ => hc)
          rw [y1, y2, bk2, bk2, if_pos rfl, if_pos rfl, sM]
          unfold m_X6_takesPupils_58
          rw [if_neg (fun q => by have := nI_inj (by omega) (by omega) q; omega)]
          exact ⟨false, _, _, _, _, _, _, rfl, rfl, fun h => by cases h⟩
      · have : a' = k := by omega
        subst this
        obtain ⟨y1, y2⟩ := ts_n (v := 44) hT q2 (fun h => absurd h hak)
        rw [if_neg (nI_nlt (Nat.le_refl _) (by omega)), bk1, if_neg (show ¬ (1 : Int32) = 0 by decide), if_neg l24', y2, bk2, if_pos rfl, sM]
        unfold m_X6_takesPupils_58
        rw [if_pos rfl]
        exact ⟨true, _, _, _, _, _, _, rfl, rfl, fun _ => ⟨rfl, by omega, hr'⟩⟩
    · rw [g3, bk5, if_pos rfl]
      by_cases hb0 : b' = 0
      · rw [if_pos (show nI b' = 0 by rw [hb0]; rfl)]
        exact ⟨false, _, _, _, _, _, _, rfl, rfl, fun h => by cases h⟩
      · have hne : ¬ nI b' = 0 := by rw [nI_zero (by omega)]; exact hb0
        obtain ⟨d, hd⟩ : ∃ d, isD k tape a' d := by
          rcases g1 with g1 | g1
          · exact absurd g1 hb0
          · exact g1
        have hak := hd.1
        have hc : ¬ tape a' = 44 := by
          rw [hd.2.2, show (44 : Int32) = nI 44 from rfl, nI_eq (by have := hd.2.1; omega) (by decide)]
          omega
        obtain ⟨y1, y2⟩ := ts_n hT q2 (fun _ => hc)
        unfold m_X3_isRead
        rw [if_neg hne, i24, gd_tt, lt_t, nI_1, cm, if_pos (nI_lt hak (by omega)), bk1, if_pos rfl, if_neg l24', y1, bk2, if_pos rfl]
        exact ⟨false, _, _, _, _, _, _, rfl, rfl, fun h => by cases h⟩
theorem pupils_copy {m : Nat} (hm : m ≤ 24) (taped at_ to_ dg : Int32) (rc mch : Nat → Int32) : it2 (m_X6_pupils_39 0 (nI m) 0 taped at_ to_ dg (nI m) rc) 1100 0 mch = some (nI m, 0, nI m, 0, taped, at_, to_, dg, nI m, copyF mch rc m, rc) := by
  have main : it2 (m_X6_pupils_39 0 (nI m) 0 taped at_ to_ dg (nI m) rc) 1100 0 (copyF mch rc 0) = some (nI m, 0, nI m, 0, taped, at_, to_, dg, nI m, copyF mch rc m, rc) := by
    refine seq2 (z := m) (fun i => nI i) (fun i => copyF mch rc i) (by omega) (fun rec => ?_) (fun rec i hi => ?_)
    · unfold m_X6_pupils_39; rw [if_pos (Int32.le_refl _)]
    · have i24 : inb (nI i) 24 = true := inb_nI (by omega) (by decide)
      have cl : (nI i).toNatClampNeg = i := nI_clamp (by omega)
      unfold m_X6_pupils_39
      rw [if_neg (nI_ge hi (by omega)), i24, gd_tt, gd_tt, lt_t, nI_1, cl, copyF_s]
  rw [copyF_0] at main
  exact main
theorem RText_0 (sg tape : Nat → Int32) : RText 0 sg 0 tape := ⟨rfl, 0, by decide, rfl, fun j hj => absurd hj (by omega)⟩
theorem sim_pupils : Sim_pupils := by
  intro tc told ts tg cc rc sz bars subj teach seats col cw rs rk rch xat ds dk dch mt row tp tape mc mr mm mbars msubj mteach mseats mcol mp mk mch mth mat mto mdg mrm mrc hR
  obtain ⟨hrow, ⟨rfl, k, hk, rfl, ht⟩, hplan, hroll⟩ := hR
  have hT : okT k tg tape := ⟨hk, ht⟩
  have key : ∃ ok m1 ch' a' dg' m2 rc', m_X1_readFrom ds dk dch (nI k) 0 tg = some (fl ok, nI m1, 0, ch', nI a') ∧ m_X6_takesPupils 0 (nI k) mdg mrm tape mrc = some (fl ok, nI a', dg', nI m2, rc') ∧ (ok = true → m1 = m2 ∧ m2 ≤ 24 ∧ okRoll m2 ch' rc') := by
    unfold m_X1_readFrom m_X6_takesPupils m_X1_empty m_X3_isRead
    by_cases h0 : k = 0
    · subst h0
      have eM : it5 (m_X6_takesPupils_18 (nI 0) tape) 1100 0 0 mdg 0 mrc = some (1, 0, mdg, 0, mrc) := by
        show m_X6_takesPupils_18 (nI 0) tape (it5 (m_X6_takesPupils_18 (nI 0) tape) 1099) 0 0 mdg 0 mrc = _
        generalize it5 (m_X6_takesPupils_18 (nI 0) tape) 1099 = rec
        unfold m_X6_takesPupils_18 m_X6_takesPupils_58
        rw [if_pos rfl, if_pos (by decide)]
      rw [bk2, if_neg (by decide), bk1, if_neg (by decide), if_pos (by decide), eM]
      exact ⟨true, 0, dch, 0, mdg, 0, mrc, rfl, rfl, fun _ => ⟨rfl, by decide, fun p hp => absurd hp (by omega)⟩⟩
    · have hpos : (0 : Int32) < nI k := nI_lt (a := 0) (by omega) (by omega)
      rw [bk2, if_pos hpos, bk1, if_pos rfl, if_neg (nI_nle (by omega) (by omega))]
      exact pupils_loop hT 23 0 0 1100 1100 dch mrc mdg rfl (by decide) (by decide) (by omega) (fun p hp => absurd hp (by omega))
  obtain ⟨ok, m1, ch', a', dg', m2, rc', e1, e2, e3⟩ := key
  cases ok with
  | false =>
    have ex : m_X5_pupils (nI k) xat tg rs rk rch ds dk dch = some ((-21 : Int32) - nI a', 0, nI a', rs, rk, rch, nI m1, 0, ch') := by
      unfold m_X5_pupils m_X3_rewind
      rw [bk1, e1, bk5, if_pos (by decide)]
      rfl
    have em : m_X6_pupils mth mp mk (nI k) mat mto mdg mrm mch tape mrc = some ((-21 : Int32) - nI a', 0, mp, mk, 0, nI a', nI k, dg', nI m2, mch, rc') := by
      unfold m_X6_pupils m_X6_reads
      rw [bk3, e2, bk5, if_pos (by decide)]
    exact ⟨_, _, _, _, _, _, _, _, _, _, _, _, _, _, _, _, _, _, _, ex, em, hrow, RText_0 _ _, hplan, hroll⟩
  | true =>
    obtain ⟨rfl, h24, hr'⟩ := e3 rfl
    have ex : m_X5_pupils (nI k) xat tg rs rk rch ds dk dch = some (nI m1, 0, nI a', nI m1, 0, va_cpy ch' rch 0 0 24, nI m1, 0, ch') := by
      unfold m_X5_pupils m_X3_rewind
      rw [bk1, e1, bk5, if_neg (by decide)]
      rfl
    have em : m_X6_pupils mth mp mk (nI k) mat mto mdg mrm mch tape mrc = some (nI m1, 0, nI m1, 0, 0, nI a', nI k, dg', nI m1, copyF mch rc' m1, rc') := by
      unfold m_X6_pupils m_X6_reads
      rw [bk3, e2, bk5, if_neg (by decide), pupils_copy h24]
    refine ⟨_, _, _, _, _, _, _, _, _, _, _, _, _, _, _, _, _, _, _, ex, em, hrow, RText_0 _ _, hplan, ⟨rfl, rfl, m1, h24, rfl, fun p hp => ?_⟩⟩
    rw [pk_cpy_in (by omega) (by omega), copyF_at hp, show 0 + (p - 0) = p by omega]
    exact hr' p hp
