/-! sign -/
def putSg (f : Nat → Int32) (k : Nat) (g : Nat → Int32) : Nat → (Nat → Int32)
  | 0 => f
  | i + 1 => upd (putSg f k g i) (k + i) (g i)
theorem putSg_lo (f : Nat → Int32) (k : Nat) (g : Nat → Int32) {q : Nat} (h : q < k) : ∀ i, putSg f k g i q = f q
  | 0 => rfl
  | i + 1 => by rw [putSg, upd_n (by omega), putSg_lo f k g h i]
theorem putSg_at (f : Nat → Int32) (k : Nat) (g : Nat → Int32) : ∀ i q, q < i → putSg f k g i (k + q) = g q
  | 0, _, h => absurd h (by omega)
  | i + 1, q, h => by
    rw [putSg]
    by_cases e : q = i
    · subst e; rw [upd_s]
    · rw [upd_n (by omega), putSg_at f k g i q (by omega)]
def byt (m i : Nat) : Nat := (m / 2 ^ (24 - 8 * i)) % 256
theorem byt_lt (m i : Nat) : byt m i < 256 := Nat.mod_lt _ (by decide)
theorem chr8 : ∀ b, b < 256 → vp_nar .char (i2c (nI b)) = nI b := by decide +kernel
theorem an255 (a : Nat) : nI a &&& 255 = nI (a % 256) := by
  rw [show (255 : Int32) = nI 255 from rfl, p_land, show (255 : Nat) = 2 ^ 8 - 1 from rfl, Nat.and_two_pow_sub_one_eq_mod]
theorem bytX {m : Nat} (hm : m < 2 ^ 32) {i : Nat} (hi : i < 4) : vp_nar .char (i2c ((iushr (nI m) (nI (24 - 8 * i))) &&& 255)) = nI (byt m i) := by
  rw [iushr_eq hm (nI (24 - 8 * i)) (24 - 8 * i) (s_u (24 - 8 * i) (by omega)), an255]
  exact chr8 _ (byt_lt m i)
theorem bytM {m : Nat} {i : Nat} (hi : i < 4) : (nI m >>> (nI (24 - 8 * i) &&& 31)) &&& 255 = nI (byt m i) := by
  refine b_ext (fun q hq => ?_)
  have e : bt (nI (byt m i)) q = (decide (q < 32) && (decide (q < 8) && m.testBit (24 - 8 * i + q))) := by
    rw [p_nbit]
    unfold byt
    rw [show (256 : Nat) = 2 ^ 8 from rfl, Nat.testBit_mod_two_pow, Nat.testBit_div_two_pow, Nat.add_comm q]
  rw [e, b_and, b_255, b_sshr (24 - 8 * i) (by omega) (nI m) hq]
  by_cases h : q < 8
  · have h1 : 24 - 8 * i + q < 32 := by omega
    rw [if_pos h1, p_nbit]
    simp only [h, h1, hq, decide_true, Bool.true_and, Bool.and_true]
  · simp [h]
theorem dsc8 : ∀ i, i < 4 → (24 : Int32) - ((8 : Int32) * nI i) = nI (24 - 8 * i) := by decide +kernel
def shD (i : Nat) : Int32 := if i < 4 then nI (24 - 8 * i) else -8
theorem shD_s : ∀ i, i < 4 → nI (24 - 8 * i) + (-8) = shD (i + 1) := by decide +kernel
theorem sim_sign : Sim_sign := by
  intro tc told ts tg cc rc sz bars subj teach seats col cw rs rk rch mt row tp tape mc mr mm mbars msubj mteach mseats mcol mp mk mch mth v1 hR
  have hR0 := hR
  obtain ⟨hrow, ⟨rfl, k, hk, rfl, ht⟩, hplan, hroll⟩ := hR
  obtain ⟨m, hm, rfl⟩ := wb_of32 v1
  have hle : (nI k ≤ 236) ↔ k ≤ 236 := nI_leI (b := 236) (by omega) (by decide)
  by_cases h : k ≤ 236
  · have eX : m_X3_append (nI k) tg (nI m) = some (1, nI (k + 4), putSg tg k (fun i => nI (byt m i)) 4) := by
      unfold m_X3_append
      rw [if_pos (hle.mpr h)]
      refine seq3 (z := 4) shD (fun i => nI (k + i)) (fun i => putSg tg k (fun i => nI (byt m i)) i) (by decide) (fun rec => ?_) (fun rec i hi => ?_)
      · unfold m_X3_append_15
        rw [if_pos (by decide)]
      · have e : shD i = nI (24 - 8 * i) := by unfold shD; rw [if_pos hi]
        have i240 : inb (nI (k + i)) 240 = true := inb_nI (by omega) (by decide)
        have cl : (nI (k + i)).toNatClampNeg = k + i := nI_clamp (by omega)
        unfold m_X3_append_15
        rw [e, if_neg (nI_pos (by omega)), i240, gd_tt, lt_t, lt_t, nI_1, cl, bytX hm hi, shD_s i hi]
        rfl
    have eM : m_X6_sign mth (nI k) tape (nI m) = some (nI (k + 4), 0, nI (k + 4), putSg tape k (fun i => nI (byt m i)) 4) := by
      unfold m_X6_sign
      rw [if_pos (hle.mpr h)]
      refine seq2 (z := 4) (fun i => nI i) (fun i => putSg tape k (fun i => nI (byt m i)) i) (by decide) (fun rec => ?_) (fun rec i hi => ?_)
      · unfold m_X6_sign_19 m_X6_sign_54
        rw [if_pos (by decide), lt_t, show (4 : Int32) = nI 4 from rfl, nI_add]
      · have i240 : inb (nI (k + i)) 240 = true := inb_nI (by omega) (by decide)
        have cl : (nI (k + i)).toNatClampNeg = k + i := nI_clamp (by omega)
        unfold m_X6_sign_19
        rw [if_neg (show ¬ (4 : Int32) ≤ nI i from nI_ge (a := i) (b := 4) hi (by decide)), nI_add, i240, gd_tt, lt_t, nI_1, cl, dsc8 i hi, bytM hi]
        rfl
    have ex : m_X5_sign (nI k) tg (nI m) = some (nI (k + 4), nI (k + 4), putSg tg k (fun i => nI (byt m i)) 4) := by
      unfold m_X5_sign
      rw [eX, bk3, if_neg (by decide)]
    refine ⟨_, _, _, _, _, _, ex, eM, hrow, ⟨rfl, k + 4, by omega, rfl, fun j hj => ?_⟩, hplan, hroll⟩
    by_cases hjk : j < k
    · rw [putSg_lo _ _ _ hjk, putSg_lo _ _ _ hjk]
      exact ht j hjk
    · obtain ⟨q, rfl⟩ : ∃ q, j = k + q := ⟨j - k, by omega⟩
      rw [putSg_at _ _ _ 4 q (by omega), putSg_at _ _ _ 4 q (by omega)]
      exact ⟨rfl, byt m q, byt_lt m q, rfl⟩
  · have ex : m_X5_sign (nI k) tg (nI m) = some (-1, nI k, tg) := by
      unfold m_X5_sign m_X3_append
      rw [if_neg (fun e => h (hle.mp e)), bk3, if_pos rfl]
    have em : m_X6_sign mth (nI k) tape (nI m) = some (-1, 0, nI k, tape) := by
      unfold m_X6_sign
      rw [if_neg (fun e => h (hle.mp e))]
    exact ⟨_, _, _, _, _, _, ex, em, hR0⟩
