/-! loops as sequences -/
theorem seq1' {A0 R : Type} {b : (A0 → Option R) → A0 → Option R} {z : Nat} {E : Option R} (s0 : Nat → A0)
    (hexit : ∀ rec, b rec (s0 z) = E) (hstep : ∀ rec i, i < z → b rec (s0 i) = rec (s0 (i + 1))) : ∀ (j i fuel : Nat), i + j = z → j < fuel → it1 b fuel (s0 i) = E
  | 0, i, fuel + 1, h, _ => by
    have : i = z := by omega
    subst this
    exact hexit _
  | j + 1, i, fuel + 1, h, hf => by
    show b (it1 b fuel) (s0 i) = _
    rw [hstep _ i (by omega)]
    exact seq1' s0 hexit hstep j (i + 1) fuel (by omega) (by omega)
theorem seq1 {A0 R : Type} {b : (A0 → Option R) → A0 → Option R} {z : Nat} {E : Option R} (s0 : Nat → A0) (hz : z < 1100)
    (hexit : ∀ rec, b rec (s0 z) = E) (hstep : ∀ rec i, i < z → b rec (s0 i) = rec (s0 (i + 1))) : it1 b 1100 (s0 0) = E := seq1' s0 hexit hstep z 0 1100 (by omega) hz
theorem seq2' {A0 A1 R : Type} {b : (A0 → A1 → Option R) → A0 → A1 → Option R} {z : Nat} {E : Option R} (s0 : Nat → A0) (s1 : Nat → A1)
    (hexit : ∀ rec, b rec (s0 z) (s1 z) = E) (hstep : ∀ rec i, i < z → b rec (s0 i) (s1 i) = rec (s0 (i + 1)) (s1 (i + 1))) : ∀ (j i fuel : Nat), i + j = z → j < fuel → it2 b fuel (s0 i) (s1 i) = E
  | 0, i, fuel + 1, h, _ => by
    have : i = z := by omega
    subst this
    exact hexit _
  | j + 1, i, fuel + 1, h, hf => by
    show b (it2 b fuel) (s0 i) (s1 i) = _
    rw [hstep _ i (by omega)]
    exact seq2' s0 s1 hexit hstep j (i + 1) fuel (by omega) (by omega)
theorem seq2 {A0 A1 R : Type} {b : (A0 → A1 → Option R) → A0 → A1 → Option R} {z : Nat} {E : Option R} (s0 : Nat → A0) (s1 : Nat → A1) (hz : z < 1100)
    (hexit : ∀ rec, b rec (s0 z) (s1 z) = E) (hstep : ∀ rec i, i < z → b rec (s0 i) (s1 i) = rec (s0 (i + 1)) (s1 (i + 1))) : it2 b 1100 (s0 0) (s1 0) = E := seq2' s0 s1 hexit hstep z 0 1100 (by omega) hz
theorem seq3' {A0 A1 A2 R : Type} {b : (A0 → A1 → A2 → Option R) → A0 → A1 → A2 → Option R} {z : Nat} {E : Option R} (s0 : Nat → A0) (s1 : Nat → A1) (s2 : Nat → A2)
    (hexit : ∀ rec, b rec (s0 z) (s1 z) (s2 z) = E) (hstep : ∀ rec i, i < z → b rec (s0 i) (s1 i) (s2 i) = rec (s0 (i + 1)) (s1 (i + 1)) (s2 (i + 1))) : ∀ (j i fuel : Nat), i + j = z → j < fuel → it3 b fuel (s0 i) (s1 i) (s2 i) = E
  | 0, i, fuel + 1, h, _ => by
    have : i = z := by omega
    subst this
    exact hexit _
  | j + 1, i, fuel + 1, h, hf => by
    show b (it3 b fuel) (s0 i) (s1 i) (s2 i) = _
    rw [hstep _ i (by omega)]
    exact seq3' s0 s1 s2 hexit hstep j (i + 1) fuel (by omega) (by omega)
theorem seq3 {A0 A1 A2 R : Type} {b : (A0 → A1 → A2 → Option R) → A0 → A1 → A2 → Option R} {z : Nat} {E : Option R} (s0 : Nat → A0) (s1 : Nat → A1) (s2 : Nat → A2) (hz : z < 1100)
    (hexit : ∀ rec, b rec (s0 z) (s1 z) (s2 z) = E) (hstep : ∀ rec i, i < z → b rec (s0 i) (s1 i) (s2 i) = rec (s0 (i + 1)) (s1 (i + 1)) (s2 (i + 1))) : it3 b 1100 (s0 0) (s1 0) (s2 0) = E := seq3' s0 s1 s2 hexit hstep z 0 1100 (by omega) hz
theorem seq4' {A0 A1 A2 A3 R : Type} {b : (A0 → A1 → A2 → A3 → Option R) → A0 → A1 → A2 → A3 → Option R} {z : Nat} {E : Option R} (s0 : Nat → A0) (s1 : Nat → A1) (s2 : Nat → A2) (s3 : Nat → A3)
    (hexit : ∀ rec, b rec (s0 z) (s1 z) (s2 z) (s3 z) = E) (hstep : ∀ rec i, i < z → b rec (s0 i) (s1 i) (s2 i) (s3 i) = rec (s0 (i + 1)) (s1 (i + 1)) (s2 (i + 1)) (s3 (i + 1))) : ∀ (j i fuel : Nat), i + j = z → j < fuel → it4 b fuel (s0 i) (s1 i) (s2 i) (s3 i) = E
  | 0, i, fuel + 1, h, _ => by
    have : i = z := by omega
    subst this
    exact hexit _
  | j + 1, i, fuel + 1, h, hf => by
    show b (it4 b fuel) (s0 i) (s1 i) (s2 i) (s3 i) = _
    rw [hstep _ i (by omega)]
    exact seq4' s0 s1 s2 s3 hexit hstep j (i + 1) fuel (by omega) (by omega)
theorem seq4 {A0 A1 A2 A3 R : Type} {b : (A0 → A1 → A2 → A3 → Option R) → A0 → A1 → A2 → A3 → Option R} {z : Nat} {E : Option R} (s0 : Nat → A0) (s1 : Nat → A1) (s2 : Nat → A2) (s3 : Nat → A3) (hz : z < 1100)
    (hexit : ∀ rec, b rec (s0 z) (s1 z) (s2 z) (s3 z) = E) (hstep : ∀ rec i, i < z → b rec (s0 i) (s1 i) (s2 i) (s3 i) = rec (s0 (i + 1)) (s1 (i + 1)) (s2 (i + 1)) (s3 (i + 1))) : it4 b 1100 (s0 0) (s1 0) (s2 0) (s3 0) = E := seq4' s0 s1 s2 s3 hexit hstep z 0 1100 (by omega) hz
theorem seq5' {A0 A1 A2 A3 A4 R : Type} {b : (A0 → A1 → A2 → A3 → A4 → Option R) → A0 → A1 → A2 → A3 → A4 → Option R} {z : Nat} {E : Option R} (s0 : Nat → A0) (s1 : Nat → A1) (s2 : Nat → A2) (s3 : Nat → A3) (s4 : Nat → A4)
    (hexit : ∀ rec, b rec (s0 z) (s1 z) (s2 z) (s3 z) (s4 z) = E) (hstep : ∀ rec i, i < z → b rec (s0 i) (s1 i) (s2 i) (s3 i) (s4 i) = rec (s0 (i + 1)) (s1 (i + 1)) (s2 (i + 1)) (s3 (i + 1)) (s4 (i + 1))) : ∀ (j i fuel : Nat), i + j = z → j < fuel → it5 b fuel (s0 i) (s1 i) (s2 i) (s3 i) (s4 i) = E
  | 0, i, fuel + 1, h, _ => by
    have : i = z := by omega
    subst this
    exact hexit _
  | j + 1, i, fuel + 1, h, hf => by
    show b (it5 b fuel) (s0 i) (s1 i) (s2 i) (s3 i) (s4 i) = _
    rw [hstep _ i (by omega)]
    exact seq5' s0 s1 s2 s3 s4 hexit hstep j (i + 1) fuel (by omega) (by omega)
theorem seq5 {A0 A1 A2 A3 A4 R : Type} {b : (A0 → A1 → A2 → A3 → A4 → Option R) → A0 → A1 → A2 → A3 → A4 → Option R} {z : Nat} {E : Option R} (s0 : Nat → A0) (s1 : Nat → A1) (s2 : Nat → A2) (s3 : Nat → A3) (s4 : Nat → A4) (hz : z < 1100)
    (hexit : ∀ rec, b rec (s0 z) (s1 z) (s2 z) (s3 z) (s4 z) = E) (hstep : ∀ rec i, i < z → b rec (s0 i) (s1 i) (s2 i) (s3 i) (s4 i) = rec (s0 (i + 1)) (s1 (i + 1)) (s2 (i + 1)) (s3 (i + 1)) (s4 (i + 1))) : it5 b 1100 (s0 0) (s1 0) (s2 0) (s3 0) (s4 0) = E := seq5' s0 s1 s2 s3 s4 hexit hstep z 0 1100 (by omega) hz
theorem seq6' {A0 A1 A2 A3 A4 A5 R : Type} {b : (A0 → A1 → A2 → A3 → A4 → A5 → Option R) → A0 → A1 → A2 → A3 → A4 → A5 → Option R} {z : Nat} {E : Option R} (s0 : Nat → A0) (s1 : Nat → A1) (s2 : Nat → A2) (s3 : Nat → A3) (s4 : Nat → A4) (s5 : Nat → A5)
    (hexit : ∀ rec, b rec (s0 z) (s1 z) (s2 z) (s3 z) (s4 z) (s5 z) = E) (hstep : ∀ rec i, i < z → b rec (s0 i) (s1 i) (s2 i) (s3 i) (s4 i) (s5 i) = rec (s0 (i + 1)) (s1 (i + 1)) (s2 (i + 1)) (s3 (i + 1)) (s4 (i + 1)) (s5 (i + 1))) : ∀ (j i fuel : Nat), i + j = z → j < fuel → it6 b fuel (s0 i) (s1 i) (s2 i) (s3 i) (s4 i) (s5 i) = E
  | 0, i, fuel + 1, h, _ => by
    have : i = z := by omega
    subst this
    exact hexit _
  | j + 1, i, fuel + 1, h, hf => by
    show b (it6 b fuel) (s0 i) (s1 i) (s2 i) (s3 i) (s4 i) (s5 i) = _
    rw [hstep _ i (by omega)]
    exact seq6' s0 s1 s2 s3 s4 s5 hexit hstep j (i + 1) fuel (by omega) (by omega)
theorem seq6 {A0 A1 A2 A3 A4 A5 R : Type} {b : (A0 → A1 → A2 → A3 → A4 → A5 → Option R) → A0 → A1 → A2 → A3 → A4 → A5 → Option R} {z : Nat} {E : Option R} (s0 : Nat → A0) (s1 : Nat → A1) (s2 : Nat → A2) (s3 : Nat → A3) (s4 : Nat → A4) (s5 : Nat → A5) (hz : z < 1100)
    (hexit : ∀ rec, b rec (s0 z) (s1 z) (s2 z) (s3 z) (s4 z) (s5 z) = E) (hstep : ∀ rec i, i < z → b rec (s0 i) (s1 i) (s2 i) (s3 i) (s4 i) (s5 i) = rec (s0 (i + 1)) (s1 (i + 1)) (s2 (i + 1)) (s3 (i + 1)) (s4 (i + 1)) (s5 (i + 1))) : it6 b 1100 (s0 0) (s1 0) (s2 0) (s3 0) (s4 0) (s5 0) = E := seq6' s0 s1 s2 s3 s4 s5 hexit hstep z 0 1100 (by omega) hz
theorem seq7' {A0 A1 A2 A3 A4 A5 A6 R : Type} {b : (A0 → A1 → A2 → A3 → A4 → A5 → A6 → Option R) → A0 → A1 → A2 → A3 → A4 → A5 → A6 → Option R} {z : Nat} {E : Option R} (s0 : Nat → A0) (s1 : Nat → A1) (s2 : Nat → A2) (s3 : Nat → A3) (s4 : Nat → A4) (s5 : Nat → A5) (s6 : Nat → A6)
    (hexit : ∀ rec, b rec (s0 z) (s1 z) (s2 z) (s3 z) (s4 z) (s5 z) (s6 z) = E) (hstep : ∀ rec i, i < z → b rec (s0 i) (s1 i) (s2 i) (s3 i) (s4 i) (s5 i) (s6 i) = rec (s0 (i + 1)) (s1 (i + 1)) (s2 (i + 1)) (s3 (i + 1)) (s4 (i + 1)) (s5 (i + 1)) (s6 (i + 1))) : ∀ (j i fuel : Nat), i + j = z → j < fuel → it7 b fuel (s0 i) (s1 i) (s2 i) (s3 i) (s4 i) (s5 i) (s6 i) = E
  | 0, i, fuel + 1, h, _ => by
    have : i = z := by omega
    subst this
    exact hexit _
  | j + 1, i, fuel + 1, h, hf => by
    show b (it7 b fuel) (s0 i) (s1 i) (s2 i) (s3 i) (s4 i) (s5 i) (s6 i) = _
    rw [hstep _ i (by omega)]
    exact seq7' s0 s1 s2 s3 s4 s5 s6 hexit hstep j (i + 1) fuel (by omega) (by omega)
theorem seq7 {A0 A1 A2 A3 A4 A5 A6 R : Type} {b : (A0 → A1 → A2 → A3 → A4 → A5 → A6 → Option R) → A0 → A1 → A2 → A3 → A4 → A5 → A6 → Option R} {z : Nat} {E : Option R} (s0 : Nat → A0) (s1 : Nat → A1) (s2 : Nat → A2) (s3 : Nat → A3) (s4 : Nat → A4) (s5 : Nat → A5) (s6 : Nat → A6) (hz : z < 1100)
    (hexit : ∀ rec, b rec (s0 z) (s1 z) (s2 z) (s3 z) (s4 z) (s5 z) (s6 z) = E) (hstep : ∀ rec i, i < z → b rec (s0 i) (s1 i) (s2 i) (s3 i) (s4 i) (s5 i) (s6 i) = rec (s0 (i + 1)) (s1 (i + 1)) (s2 (i + 1)) (s3 (i + 1)) (s4 (i + 1)) (s5 (i + 1)) (s6 (i + 1))) : it7 b 1100 (s0 0) (s1 0) (s2 0) (s3 0) (s4 0) (s5 0) (s6 0) = E := seq7' s0 s1 s2 s3 s4 s5 s6 hexit hstep z 0 1100 (by omega) hz
theorem seq8' {A0 A1 A2 A3 A4 A5 A6 A7 R : Type} {b : (A0 → A1 → A2 → A3 → A4 → A5 → A6 → A7 → Option R) → A0 → A1 → A2 → A3 → A4 → A5 → A6 → A7 → Option R} {z : Nat} {E : Option R} (s0 : Nat → A0) (s1 : Nat → A1) (s2 : Nat → A2) (s3 : Nat → A3) (s4 : Nat → A4) (s5 : Nat → A5) (s6 : Nat → A6) (s7 : Nat → A7)
    (hexit : ∀ rec, b rec (s0 z) (s1 z) (s2 z) (s3 z) (s4 z) (s5 z) (s6 z) (s7 z) = E) (hstep : ∀ rec i, i < z → b rec (s0 i) (s1 i) (s2 i) (s3 i) (s4 i) (s5 i) (s6 i) (s7 i) = rec (s0 (i + 1)) (s1 (i + 1)) (s2 (i + 1)) (s3 (i + 1)) (s4 (i + 1)) (s5 (i + 1)) (s6 (i + 1)) (s7 (i + 1))) : ∀ (j i fuel : Nat), i + j = z → j < fuel → it8 b fuel (s0 i) (s1 i) (s2 i) (s3 i) (s4 i) (s5 i) (s6 i) (s7 i) = E
  | 0, i, fuel + 1, h, _ => by
    have : i = z := by omega
    subst this
    exact hexit _
  | j + 1, i, fuel + 1, h, hf => by
    show b (it8 b fuel) (s0 i) (s1 i) (s2 i) (s3 i) (s4 i) (s5 i) (s6 i) (s7 i) = _
    rw [hstep _ i (by omega)]
    exact seq8' s0 s1 s2 s3 s4 s5 s6 s7 hexit hstep j (i + 1) fuel (by omega) (by omega)
theorem seq8 {A0 A1 A2 A3 A4 A5 A6 A7 R : Type} {b : (A0 → A1 → A2 → A3 → A4 → A5 → A6 → A7 → Option R) → A0 → A1 → A2 → A3 → A4 → A5 → A6 → A7 → Option R} {z : Nat} {E : Option R} (s0 : Nat → A0) (s1 : Nat → A1) (s2 : Nat → A2) (s3 : Nat → A3) (s4 : Nat → A4) (s5 : Nat → A5) (s6 : Nat → A6) (s7 : Nat → A7) (hz : z < 1100)
    (hexit : ∀ rec, b rec (s0 z) (s1 z) (s2 z) (s3 z) (s4 z) (s5 z) (s6 z) (s7 z) = E) (hstep : ∀ rec i, i < z → b rec (s0 i) (s1 i) (s2 i) (s3 i) (s4 i) (s5 i) (s6 i) (s7 i) = rec (s0 (i + 1)) (s1 (i + 1)) (s2 (i + 1)) (s3 (i + 1)) (s4 (i + 1)) (s5 (i + 1)) (s6 (i + 1)) (s7 (i + 1))) : it8 b 1100 (s0 0) (s1 0) (s2 0) (s3 0) (s4 0) (s5 0) (s6 0) (s7 0) = E := seq8' s0 s1 s2 s3 s4 s5 s6 s7 hexit hstep z 0 1100 (by omega) hz
theorem nI_nm1 {c : Nat} (h : c < 2 ^ 31) : ¬ nI c = -1 := by
  intro e
  have := congrArg Int32.toInt e
  rw [nI_toInt h, show (-1 : Int32).toInt = -1 from rfl] at this
  omega
theorem nI_nm2 {c : Nat} (h : c < 2 ^ 31) : ¬ nI c = -2 := by
  intro e
  have := congrArg Int32.toInt e
  rw [nI_toInt h, show (-2 : Int32).toInt = -2 from rfl] at this
  omega
theorem pop_pos {x : Int32} (h : x ≠ 0) : 1 ≤ pop x := by
  rcases Nat.eq_zero_or_pos (pop x) with e | e
  · exfalso
    apply h
    refine b_ext (fun i hi => ?_)
    rw [b_0]
    have := (List.countP_eq_zero.mp e) i (List.mem_range.mpr hi)
    simpa using this
  · exact e
theorem small_of {x : Int32} {k : Nat} (hk : k < 32) (h : ∀ i, k ≤ i → bt x i = false) : ∃ q, q < 2 ^ k ∧ x = nI q := by
  refine ⟨x.toBitVec.toNat, ?_, Int32.toBitVec_inj.mp (by simp [nI])⟩
  refine Nat.lt_pow_two_of_testBit _ (fun i hi => ?_)
  have := h i hi
  unfold bt at this
  rw [← BitVec.testBit_toNat] at this
  exact this

theorem upd_s {f : Nat → Int32} {k : Nat} {x : Int32} : upd f k x k = x := pk_us
theorem upd_n {f : Nat → Int32} {k j : Nat} {x : Int32} (h : j ≠ k) : upd f k x j = f j := pk_un h
theorem e10 : ((1 : Int32) = 0) = False := by simp
theorem e01 : ((0 : Int32) = 1) = False := by simp
theorem e00 : ((0 : Int32) = 0) = True := by simp
theorem e11 : ((1 : Int32) = 1) = True := by simp
theorem sim_seats : Sim_seats := by
  intro tc told ts tg cc rc sz bars subj teach seats col cw rs rk rch mt row tp tape mc mr mm mbars msubj mteach mseats mcol mp mk mch mth v1 v2 hR
  have hR0 := hR
  obtain ⟨hrow, htext, ⟨rfl, rfl, rfl, n, r, z, hn, hr, ⟨hz, rfl⟩, hbars, hsec, hcw, hroom⟩, hroll⟩ := hR
  have hz' : z < 2 ^ 31 := by omega
  unfold m_X5_seats m_X6_seats
  by_cases h : 0 ≤ v1.toInt ∧ v1.toInt < z
  · obtain ⟨j, hj, rfl⟩ := rng_of h hz'
    have i16 : inb (nI j) 16 = true := inb_nI (by omega) (by decide)
    have i17 : inb (nI j) 17 = true := inb_nI (by omega) (by decide)
    have cl : (nI j).toNatClampNeg = j := nI_clamp (by omega)
    by_cases h2 : 1 ≤ v2.toInt ∧ v2.toInt ≤ 30
    · simp only [X0_has_eq hz', X6_isSection_eq hz', X5_areSeats_eq, in_seats, h, h2, and_self, bk1, ↓reduceIte, e10, lt_t, i16, i17, gd_tt, cl]
      obtain ⟨a, ha1, ha2, rfl⟩ := seats_of h2
      refine ⟨mseats j, upd seats j (nI a), 0, upd mseats j (nI a), by rw [(hsec j hj).2.2.2.2.1], rfl, hrow, htext, ⟨rfl, rfl, rfl, n, r, z, hn, hr, ⟨hz, rfl⟩, hbars, ?_, hcw, hroom⟩, hroll⟩
      intro i hi
      obtain ⟨q1, q2, q3, q4, q5, q6, q7⟩ := hsec i hi
      by_cases e : i = j
      · subst e
        exact ⟨q1, q2, q3, q4, by rw [upd_s, upd_s], ⟨a, ha1, ha2, by rw [upd_s]⟩, q7⟩
      · exact ⟨q1, q2, q3, q4, by rw [upd_n e, upd_n e]; exact q5, by rw [upd_n e]; exact q6, q7⟩
    · simp only [X0_has_eq hz', X6_isSection_eq hz', X5_areSeats_eq, in_seats, h, h2, and_self, bk1, ↓reduceIte, e10]
      exact ⟨_, _, _, _, rfl, rfl, hR0⟩
  · simp only [X0_has_eq hz', X6_isSection_eq hz', h, bk1, ↓reduceIte]
    exact ⟨_, _, _, _, rfl, rfl, hR0⟩
theorem sim_section : Sim_section := by
  intro tc told ts tg cc rc sz bars subj teach seats col cw rs rk rch mt row tp tape mc mr mm mbars msubj mteach mseats mcol mp mk mch mth v1 v2 hR
  have hR0 := hR
  obtain ⟨hrow, htext, ⟨rfl, rfl, rfl, n, r, z, hn, hr, ⟨hz, rfl⟩, hbars, hsec, hcw, hroom⟩, hroll⟩ := hR
  have hz' : z < 2 ^ 31 := by omega
  unfold m_X5_section m_X6_section
  by_cases h : 0 ≤ v1.toInt ∧ v1.toInt < z
  · obtain ⟨j, hj, rfl⟩ := rng_of h hz'
    have i16 : inb (nI j) 16 = true := inb_nI (by omega) (by decide)
    have i17 : inb (nI j) 17 = true := inb_nI (by omega) (by decide)
    have cl : (nI j).toNatClampNeg = j := nI_clamp (by omega)
    simp only [X0_has_eq hz', X6_isSection_eq hz', h, and_self, bk1, ↓reduceIte, e10, i16, i17, gd_tt, cl]
    obtain ⟨q1, q2, q3, q4, q5, q6, q7⟩ := hsec j hj
    by_cases h0 : v2 = 0
    · simp only [h0, ↓reduceIte]; exact ⟨_, _, by rw [q1], rfl, hR0⟩
    by_cases h1 : v2 = 1
    · simp only [h1, ↓reduceIte, e10]; exact ⟨_, _, by rw [q3], rfl, hR0⟩
    by_cases h2 : v2 = 2
    · simp only [if_neg h0, if_neg h1, if_pos h2]
      exact ⟨_, _, by rw [q5], rfl, hR0⟩
    by_cases h3 : v2 = 3
    · rcases q7 with ⟨a1, a2⟩ | ⟨c, hc, a1, a2⟩
      · simp only [if_neg h0, if_neg h1, if_neg h2, if_pos h3, a1, a2, ↓reduceIte]; exact ⟨_, _, rfl, rfl, hR0⟩
      · simp only [if_neg h0, if_neg h1, if_neg h2, if_pos h3, a1, a2, nI_nm1 (show c < 2 ^ 31 by omega), ↓reduceIte]; exact ⟨_, _, rfl, rfl, hR0⟩
    simp only [if_neg h0, if_neg h1, if_neg h2, if_neg h3]
    exact ⟨_, _, rfl, rfl, hR0⟩
  · simp only [X0_has_eq hz', X6_isSection_eq hz', h, bk1, ↓reduceIte]
    exact ⟨_, _, rfl, rfl, hR0⟩
theorem sim_chooses : Sim_chooses := by
  intro tc told ts tg cc rc sz bars subj teach seats col cw rs rk rch mt row tp tape mc mr mm mbars msubj mteach mseats mcol mp mk mch mth v1 v2 v3 hv hR
  have hR0 := hR
  obtain ⟨hrow, htext, hplan, ⟨rfl, rfl, k, hk, rfl, hch⟩⟩ := hR
  have hz : k < 2 ^ 31 := by omega
  unfold m_X5_chooses m_X6_chooses
  by_cases h : 0 ≤ v1.toInt ∧ v1.toInt < k
  · obtain ⟨j, hj, rfl⟩ := rng_of h hz
    by_cases h2 : 0 ≤ v2.toInt ∧ v2.toInt < (10 : Nat)
    · obtain ⟨s, hs, rfl⟩ := rng_of h2 (by decide)
      obtain ⟨c1, ⟨b, hb1, hb2, c2⟩, c3⟩ := hch j hj
      have i24 : inb (nI j) 24 = true := inb_nI (by omega) (by decide)
      have cl : (nI j).toNatClampNeg = j := nI_clamp (by omega)
      simp only [X1_has_eq hz, X6_isPupil_eq hz, X5_isSubject_eq, X6_isSubject_eq, h, h2, and_self, bk1, ↓reduceIte, e10, lt_t, i24, gd_tt, cl, c1, hasBit_eq (show s < 32 by omega), has_eq (show s < 32 by omega), bits_eq, bitCount_eq]
      by_cases h3 : (if bt (mch j) s = true then (1 : Int32) else 0) = v3
      · simp only [if_pos h3]
        exact ⟨_, _, _, _, rfl, rfl, hR0⟩
      · simp only [if_neg h3]
        generalize hx : mch j ^^^ ((1 : Int32) <<< (nI s &&& 31)) = x
        have hpop : (nI (pop x)).toInt = (pop x : Int) := nI_toInt (by have := pop_le x; omega)
        have hle : (nI (pop x) ≤ 6) ↔ pop x ≤ 6 := by
          rw [Int32.le_iff_toInt_le, hpop, show (6 : Int32).toInt = 6 from rfl]; omega
        have hin : m_X6_in (nI (pop x)).toInt64 1 6 = some (if 1 ≤ pop x ∧ pop x ≤ 6 then 1 else 0) := by
          rw [in_eq, hpop, show (1 : Int64).toInt = 1 from rfl, show (6 : Int64).toInt = 6 from rfl]
          congr 1
          by_cases q : 1 ≤ pop x ∧ pop x ≤ 6
          · rw [if_pos q, if_pos (by omega)]
          · rw [if_neg q, if_neg (by omega)]
        by_cases h0 : x = 0
        · have p0 : ¬ (1 ≤ pop x ∧ pop x ≤ 6) := by rw [h0]; decide
          simp only [if_pos h0, hin, if_neg p0, bk1, ↓reduceIte]
          exact ⟨_, _, _, _, rfl, rfl, hR0⟩
        · have p1 : 1 ≤ pop x := pop_pos h0
          by_cases h6 : pop x ≤ 6
          · simp only [if_neg h0, hin, if_pos (hle.mpr h6), if_pos (And.intro p1 h6), bk1, ↓reduceIte, e10]
            refine ⟨x, upd rch j x, 0, upd mch j x, rfl, rfl, hrow, htext, hplan, ⟨rfl, rfl, k, hk, rfl, ?_⟩⟩
            intro p hp
            by_cases e : p = j
            · subst e
              rw [upd_s, upd_s]
              refine ⟨rfl, ?_, h6⟩
              have hsm : ∀ i, 10 ≤ i → bt x i = false := by
                intro i hi
                by_cases hi32 : i < 32
                · rw [← hx, b_xor, c2, p_nbit, p_bit (by omega) hi32]
                  have e1 : b.testBit i = false := Nat.testBit_lt_two_pow (Nat.lt_of_lt_of_le hb2 (Nat.pow_le_pow_right (by decide) hi : 2 ^ 10 ≤ 2 ^ i))
                  have e2 : ¬ i = s := by omega
                  simp [e1, e2]
                · exact b_big (by omega)
              obtain ⟨q, hq, hqx⟩ := small_of (k := 10) (by decide) hsm
              refine ⟨q, ?_, hq, hqx⟩
              rcases Nat.eq_zero_or_pos q with e0 | e0
              · rw [e0] at hqx; exact absurd hqx h0
              · exact e0
            · rw [upd_n e, upd_n e]; exact hch p hp
          · simp only [if_neg h0, hin, if_neg (fun q => h6 (hle.mp q)), if_neg (fun (q : 1 ≤ pop x ∧ pop x ≤ 6) => h6 q.2), bk1, ↓reduceIte]
            exact ⟨_, _, _, _, rfl, rfl, hR0⟩
    · simp only [X1_has_eq hz, X6_isPupil_eq hz, X5_isSubject_eq, X6_isSubject_eq, h, h2, and_self, bk1, ↓reduceIte, e10]
      exact ⟨_, _, _, _, rfl, rfl, hR0⟩
  · simp only [X1_has_eq hz, X6_isPupil_eq hz, h, bk1, ↓reduceIte]
    exact ⟨_, _, _, _, rfl, rfl, hR0⟩
