/-! how many ways, by the class -/
def sumI (f : Nat → Int32) : Nat → Int32
  | 0 => 0
  | m + 1 => sumI f m + f m
theorem sumI_congr {f g : Nat → Int32} : ∀ {z : Nat}, (∀ m, m < z → f m = g m) → sumI f z = sumI g z
  | 0, _ => rfl
  | z + 1, h => by rw [sumI, sumI, sumI_congr (fun m hm => h m (by omega)), h z (by omega)]
theorem sumI_zero {f : Nat → Int32} : ∀ {z : Nat}, (∀ m, m < z → f m = 0) → sumI f z = 0
  | 0, _ => rfl
  | z + 1, h => by rw [sumI, sumI_zero (fun m hm => h m (by omega)), h z (by omega)]; rfl
def Psi (j : Nat) (w t : Nat → Int32) : Int32 := sumI (fun m => if pop (nI m) = j then t m * w m else 0) 64
theorem psi_upd {P : Nat → Prop} [DecidablePred P] {w t : Nat → Int32} {q : Nat} {x : Int32} : ∀ z, sumI (fun m => if P m then upd t q (t q + x) m * w m else 0) z = sumI (fun m => if P m then t m * w m else 0) z + (if q < z ∧ P q then x * w q else 0)
  | 0 => by rw [sumI, sumI, if_neg (fun e => absurd e.1 (by omega))]; rfl
  | z + 1 => by
    rw [sumI, sumI, psi_upd z]
    by_cases e : z = q
    · subst e
      rw [upd_s, if_neg (fun e => absurd e.1 (by omega)), Int32.add_zero]
      by_cases hp : P z
      · rw [if_pos hp, if_pos hp, if_pos ⟨by omega, hp⟩, Int32.add_mul, Int32.add_assoc]
      · rw [if_neg hp, if_neg hp, if_neg (fun e => hp e.2), Int32.add_zero, Int32.add_zero]
    · rw [upd_n e]
      have hlt : (q < z + 1 ∧ P q) ↔ (q < z ∧ P q) := by
        constructor
        · rintro ⟨a, b⟩; exact ⟨by omega, b⟩
        · rintro ⟨a, b⟩; exact ⟨by omega, b⟩
      simp only [hlt]
      rw [Int32.add_assoc, Int32.add_assoc, Int32.add_comm (if q < z ∧ P q then x * w q else 0)]
theorem pop_or : ∀ m, m < 64 → ∀ c, c < 6 → m.testBit c = false → pop (nI (m ||| 2 ^ c)) = pop (nI m) + 1 := by decide +kernel
theorem pop_bnd (m : Nat) : nI (pop (nI m)) = nI (pop (nI m)) := rfl
def WI (cols : Int32) (w : Nat → Int32) (m : Nat) : Int32 := sumI (fun c => if (bt cols c && !m.testBit c) = true then w (m ||| 2 ^ c) else 0) 6
theorem place1_eq {i : Nat} (hi : i ≤ 10) (cols : Int32) (w t0 : Nat → Int32) :
    ∃ t', m_X4_placeOneMore t0 (nI i) cols = some t' ∧ (∀ m, m < 64 → i + 1 < pop (nI m) → t' m = t0 m) ∧ Psi (i + 1) w t' = Psi (i + 1) w t0 + sumI (fun m => if pop (nI m) = i then t0 m * WI cols w m else 0) 64 := by
  obtain ⟨Z, hZ⟩ : ∃ Z : Nat, Z = 64 := ⟨_, rfl⟩
  have main : ∃ t', m_X4_placeOneMore t0 (nI i) cols = some t' ∧ ((∀ m, m < 64 → pop (nI m) ≤ i → t' m = t0 m) ∧ (∀ m, m < 64 → i + 1 < pop (nI m) → t' m = t0 m) ∧ Psi (i + 1) w t' = Psi (i + 1) w t0 + sumI (fun m => if pop (nI m) = i then t0 m * WI cols w m else 0) Z) := by
    unfold m_X4_placeOneMore
    refine ex2 (b := m_X4_placeOneMore_2 (nI i) cols) (I := fun q t => (∀ m, m < 64 → pop (nI m) ≤ i → t m = t0 m) ∧ (∀ m, m < 64 → i + 1 < pop (nI m) → t m = t0 m) ∧ Psi (i + 1) w t = Psi (i + 1) w t0 + sumI (fun m => if pop (nI m) = i then t0 m * WI cols w m else 0) q)
      (Q := fun X => ∃ t', X = some t' ∧ ((∀ m, m < 64 → pop (nI m) ≤ i → t' m = t0 m) ∧ (∀ m, m < 64 → i + 1 < pop (nI m) → t' m = t0 m) ∧ Psi (i + 1) w t' = Psi (i + 1) w t0 + sumI (fun m => if pop (nI m) = i then t0 m * WI cols w m else 0) Z)) (z := Z) (by omega) (fun rec t hI => ?_) (fun rec q hq t hI => ?_) t0 ⟨fun _ _ _ => rfl, fun _ _ _ => rfl, by rw [sumI, Int32.add_zero]⟩
    · unfold m_X4_placeOneMore_2
      refine ⟨t, ?_, hI⟩
      rw [hZ, if_pos (by decide)]
    · left
      have hq64 : q < 64 := by omega
      have g : ¬ (63 : Int32) < nI q := by rw [show (63 : Int32) = nI 63 from rfl, nI_ltI (by omega) (by omega)]; omega
      have i64 : inb (nI q) 64 = true := inb_nI hq64 (by decide)
      have cq : (nI q).toNatClampNeg = q := nI_clamp (by omega)
      have hpq : nI (pop (nI q)) = nI i ↔ pop (nI q) = i := nI_eq (by have := pop_le (nI q); omega) (by omega)
      obtain ⟨h1, h2, h3⟩ := hI
      unfold m_X4_placeOneMore_2
      rw [if_neg g, bitCount_eq, bk1, i64, gd_tt, cq, sumI]
      by_cases hp : pop (nI q) = i
      · rw [if_pos (hpq.mpr hp), if_pos hp]
        have htq : t q = t0 q := h1 q hq64 (by omega)
        by_cases hz : t q = 0
        · rw [if_pos hz, lt_t, nI_1]
          refine ⟨t, ⟨h1, h2, ?_⟩, rfl⟩
          rw [h3, ← htq, hz, Int32.zero_mul, Int32.add_zero]
        · rw [if_neg hz]
          obtain ⟨Y, hY⟩ : ∃ Y : Nat, Y = 6 := ⟨_, rfl⟩
          refine ex2 (b := m_X4_placeOneMore_28 cols (nI q) rec) (I := fun c t => (∀ m, m < 64 → pop (nI m) ≤ i → t m = t0 m) ∧ (∀ m, m < 64 → i + 1 < pop (nI m) → t m = t0 m) ∧ Psi (i + 1) w t = Psi (i + 1) w t0 + sumI (fun m => if pop (nI m) = i then t0 m * WI cols w m else 0) q + t0 q * sumI (fun c => if (bt cols c && !q.testBit c) = true then w (q ||| 2 ^ c) else 0) c)
            (Q := fun X => ∃ t', ((∀ m, m < 64 → pop (nI m) ≤ i → t' m = t0 m) ∧ (∀ m, m < 64 → i + 1 < pop (nI m) → t' m = t0 m) ∧ Psi (i + 1) w t' = Psi (i + 1) w t0 + (sumI (fun m => if pop (nI m) = i then t0 m * WI cols w m else 0) q + t0 q * WI cols w q)) ∧ X = rec (nI (q + 1)) t') (z := Y) (by omega) (fun rec2 t hI => ?_) (fun rec2 c hc t hI => ?_) t ⟨h1, h2, by rw [sumI, Int32.mul_zero, Int32.add_zero]; exact h3⟩
          · unfold m_X4_placeOneMore_28
            obtain ⟨k1, k2, k3⟩ := hI
            refine ⟨t, ⟨k1, k2, ?_⟩, ?_⟩
            · rw [k3, hY, Int32.add_assoc]; rfl
            · rw [hY, if_pos (by decide), lt_t, nI_1]
          · left
            have hc6 : c < 6 := by omega
            obtain ⟨k1, k2, k3⟩ := hI
            have g2 : ¬ (6 : Int32) ≤ nI c := nI_ge (a := c) (b := 6) hc6 (by decide)
            have hb : bt (cols &&& (nI q ^^^ (-1))) c = (bt cols c && !q.testBit c) := by
              rw [b_and, p_not _ (by omega), p_nbit]
              have : c < 32 := by omega
              simp [this]
            have hor : nI q ||| ((1 : Int32) <<< (nI c &&& 31)) = nI (q ||| 2 ^ c) := by rw [(one_shl c hc6).1, p_lor]
            have hlt := or_lt64 hq64 hc6
            have io : inb (nI (q ||| 2 ^ c)) 64 = true := inb_nI hlt (by decide)
            have co : (nI (q ||| 2 ^ c)).toNatClampNeg = q ||| 2 ^ c := nI_clamp (by omega)
            unfold m_X4_placeOneMore_28
            rw [if_neg g2, hasBit_eq (by omega), bk1, hb, hor, io, gd_tt, i64, gd_tt, gd_tt, lt_t, lt_t, nI_1, co, cq, sumI]
            by_cases hbb : (bt cols c && !q.testBit c) = true
            · simp only [hbb, ↓reduceIte, e10]
              have hqc : q.testBit c = false := by
                rw [Bool.and_eq_true, Bool.not_eq_true'] at hbb
                exact hbb.2
              have hpm : pop (nI (q ||| 2 ^ c)) = i + 1 := by rw [pop_or q hq64 c hc6 hqc, hp]
              refine ⟨_, ⟨fun m hm hpm' => ?_, fun m hm hpm' => ?_, ?_⟩, rfl⟩
              · rw [upd_n (by rintro rfl; omega)]; exact k1 m hm hpm'
              · rw [upd_n (by rintro rfl; omega)]; exact k2 m hm hpm'
              · have := psi_upd (P := fun m => pop (nI m) = i + 1) (w := w) (t := t) (q := q ||| 2 ^ c) (x := t q) 64
                unfold Psi at k3 ⊢
                rw [this, if_pos ⟨hlt, hpm⟩, k3, k1 q hq64 (by omega), Int32.mul_add]
                simp only [Int32.add_assoc]
            · simp only [hbb, ↓reduceIte, Int32.add_zero, Bool.false_eq_true]
              exact ⟨t, ⟨k1, k2, k3⟩, rfl⟩
      · rw [if_neg (fun e => hp (hpq.mp e)), lt_t, nI_1, if_neg hp, Int32.add_zero]
        exact ⟨t, ⟨h1, h2, h3⟩, rfl⟩
  rw [hZ] at main
  obtain ⟨t', a, -, b, c⟩ := main
  exact ⟨t', a, b, c⟩
theorem nI_if (p : Prop) [Decidable p] (a : Nat) : nI (if p then a else 0) = if p then nI a else 0 := by
  by_cases h : p
  · rw [if_pos h, if_pos h]
  · rw [if_neg h, if_neg h]; rfl
theorem nI_sum (f : Nat → Nat) : ∀ k, nI ((List.range k).map f).sum = sumI (fun c => nI (f c)) k
  | 0 => rfl
  | k + 1 => by
    rw [List.range_succ, List.map_append, List.sum_append, sumI, ← nI_sum f k, nI_add]
    simp
theorem nw_WI (cw : Nat → Int32) (s : Nat) (S : List Nat) (m : Nat) : nI (nw cw (s :: S) m) = WI (cw s) (fun m => nI (nw cw S m)) m := by
  rw [nw, nI_sum]
  unfold WI
  exact sumI_congr (fun c _ => nI_if _ _)
theorem pop_small : ∀ m, m < 64 → pop (nI m) ≤ 6 := by decide +kernel
theorem sum_loop {i : Nat} (hi : i ≤ 10) (t : Nat → Int32) : it2 (m_X4_numberOf_73 t (nI i)) 1100 0 0 = some (Psi i (fun _ => nI 1) t, t) := by
  obtain ⟨Z, hZ⟩ : ∃ Z : Nat, Z = 64 := ⟨_, rfl⟩
  have : it2 (m_X4_numberOf_73 t (nI i)) 1100 0 0 = some (sumI (fun m => if pop (nI m) = i then t m * nI 1 else 0) Z, t) := by
    refine seq2 (z := Z) (fun q => sumI (fun m => if pop (nI m) = i then t m * nI 1 else 0) q) (fun q => nI q) (by omega) (fun rec => ?_) (fun rec q hq => ?_)
    · unfold m_X4_numberOf_73; rw [hZ, if_pos (by decide)]
    · have g : ¬ (63 : Int32) < nI q := by rw [show (63 : Int32) = nI 63 from rfl, nI_ltI (by omega) (by omega)]; omega
      have i64 : inb (nI q) 64 = true := inb_nI (by omega) (by decide)
      have cq : (nI q).toNatClampNeg = q := nI_clamp (by omega)
      have hpq : nI (pop (nI q)) = nI i ↔ pop (nI q) = i := nI_eq (by have := pop_le (nI q); omega) (by omega)
      have h1 : t q * nI 1 = t q := Int32.mul_one _
      unfold m_X4_numberOf_73
      rw [if_neg g, bitCount_eq, bk1, i64, gd_tt, cq, sumI]
      simp only [lt_t, nI_1, hpq, h1]
      by_cases hp : pop (nI q) = i
      · simp only [if_pos hp]
      · simp only [if_neg hp]
  rw [this, hZ]
  rfl
theorem num_loop (cw : Nat → Int32) (ch : Int32) : ∀ (d fuel i : Nat) (t : Nat → Int32), d ≤ 10 → d < fuel → i + d ≤ 10 → (∀ m, m < 64 → i < pop (nI m) → t m = 0) →
    ∃ t', it3 (m_X4_numberOf_33 cw ch) fuel (nI i) (nI (10 - d)) t = some (Psi i (fun m => nI (nw cw (sfx ch d) m)) t, t') := by
  intro d
  induction d with
  | zero =>
    intro fuel i t _ hf hi ht
    cases fuel with
    | zero => exact absurd hf (by omega)
    | succ fuel =>
      refine ⟨t, ?_⟩
      show m_X4_numberOf_33 cw ch (it3 (m_X4_numberOf_33 cw ch) fuel) (nI i) (nI (10 - 0)) t = _
      generalize it3 (m_X4_numberOf_33 cw ch) fuel = rec
      unfold m_X4_numberOf_33
      rw [if_pos (by decide), sum_loop (by omega)]
      rfl
  | succ d ih =>
    intro fuel i t hd hf hi ht
    cases fuel with
    | zero => exact absurd hf (by omega)
    | succ fuel =>
      have s1 : it3 (m_X4_numberOf_33 cw ch) (fuel + 1) (nI i) (nI (10 - (d + 1))) t = m_X4_numberOf_33 cw ch (it3 (m_X4_numberOf_33 cw ch) fuel) (nI i) (nI (10 - (d + 1))) t := rfl
      rw [s1]
      have hIH := ih fuel
      generalize it3 (m_X4_numberOf_33 cw ch) fuel = rec at hIH ⊢
      have es : 10 - (d + 1) = 9 - d := by omega
      have g1 : ¬ (10 : Int32) ≤ nI (9 - d) := nI_ge (a := 9 - d) (b := 10) (by omega) (by decide)
      have i10 : inb (nI (9 - d)) 10 = true := inb_nI (by omega) (by decide)
      have c9 : (nI (9 - d)).toNatClampNeg = 9 - d := nI_clamp (by omega)
      unfold m_X4_numberOf_33
      rw [es, if_neg g1, hasBit_eq (by omega), bk1, sfx]
      by_cases hb : bt ch (9 - d) = true
      · rw [if_pos hb, if_pos hb, if_neg (by decide), i10, gd_tt, c9]
        obtain ⟨t1, a1, a2, a3⟩ := place1_eq (show i ≤ 10 by omega) (cw (9 - d)) (fun m => nI (nw cw (sfx ch d) m)) t
        rw [a1, bk1, lt_t, lt_t, nI_1, nI_1, show 9 - d + 1 = 10 - d by omega]
        obtain ⟨t', e⟩ := hIH (i + 1) t1 (by omega) (by omega) (by omega) (fun m hm hp => by rw [a2 m hm hp]; exact ht m hm (by omega))
        refine ⟨t', ?_⟩
        have z1 : Psi (i + 1) (fun m => nI (nw cw (sfx ch d) m)) t = 0 := sumI_zero (fun m hm => by
          by_cases hp : pop (nI m) = i + 1
          · rw [if_pos hp, ht m hm (by omega), Int32.zero_mul]
          · rw [if_neg hp])
        have z2 : Psi (i + 1) (fun m => nI (nw cw (sfx ch d) m)) t1 = Psi i (fun m => nI (nw cw ((9 - d) :: sfx ch d) m)) t := by
          rw [a3, z1, Int32.zero_add]
          unfold Psi
          exact sumI_congr (fun m _ => by simp only [nw_WI])
        rw [e, z2]
      · rw [if_neg hb, if_neg hb, if_pos rfl, lt_t, nI_1, show 9 - d + 1 = 10 - d by omega]
        exact hIH i t (by omega) (by omega) (by omega) ht
theorem pop_0 : ∀ m, m < 64 → pop (nI m) = 0 → m = 0 := by decide +kernel
theorem numberOf_eq (cw : Nat → Int32) (ch : Int32) (tally : Nat → Int32) : ∃ t', m_X4_numberOf tally cw ch = some (nI (nw cw (bl ch) 0), t') := by
  obtain ⟨Z, hZ⟩ : ∃ Z : Nat, Z = 64 := ⟨_, rfl⟩
  have e0 : m_X4_numberOf tally cw ch = m_X4_numberOf_21 (outF tally 0 Z) cw ch := by
    unfold m_X4_numberOf
    have := seq2 (b := m_X4_numberOf_2 cw ch) (z := Z) (E := m_X4_numberOf_21 (outF tally 0 Z) cw ch) (fun q => nI q) (fun q => outF tally 0 q) (by omega) (fun rec => ?_) (fun rec q hq => ?_)
    · simp only [outF_0] at this; exact this
    · unfold m_X4_numberOf_2; rw [hZ, if_pos (by decide)]
    · have g : ¬ (63 : Int32) < nI q := by rw [show (63 : Int32) = nI 63 from rfl, nI_ltI (by omega) (by omega)]; omega
      have i64 : inb (nI q) 64 = true := inb_nI (by omega) (by decide)
      have cq : (nI q).toNatClampNeg = q := nI_clamp (by omega)
      unfold m_X4_numberOf_2
      rw [if_neg g, i64, gd_tt, lt_t, nI_1, cq, outF_s]
  rw [e0]
  unfold m_X4_numberOf_21
  rw [gd_t (by decide), show (0 : Int32).toNatClampNeg = 0 from rfl]
  have hz : ∀ m, m < 64 → outF tally 0 Z m = 0 := fun m hm => by unfold outF; rw [if_pos (by omega)]
  obtain ⟨t', e⟩ := num_loop cw ch 10 1100 0 (upd (outF tally 0 Z) 0 1) (Nat.le_refl _) (by decide) (by decide) (fun m hm hp => by
    have : m ≠ 0 := by
      rintro rfl
      exact absurd hp (by decide)
    rw [upd_n this]; exact hz m hm)
  have h1 : (1 : Int32) = outF tally 0 Z 0 + 1 := by rw [hz 0 (by decide)]; rfl
  have h2 : Psi 0 (fun m => nI (nw cw (sfx ch 10) m)) (upd (outF tally 0 Z) 0 1) = nI (nw cw (bl ch) 0) := by
    unfold Psi
    rw [show upd (outF tally 0 Z) 0 1 = upd (outF tally 0 Z) 0 (outF tally 0 Z 0 + 1) by rw [← h1], psi_upd (P := fun m => pop (nI m) = 0) 64, if_pos ⟨by decide, by decide⟩, sumI_zero (fun m hm => by rw [hz m hm, Int32.zero_mul]; split <;> rfl), Int32.zero_add, Int32.one_mul, bl_sfx]
  rw [h2] at e
  exact ⟨t', e⟩
