/-! pure facts: bits, masks, counts -/
theorem p_one : ∀ i, i < 32 → bt 1 i = decide (i = 0) := by decide +kernel
theorem p_and1 (x : Int32) : (x &&& 1) = 0 ↔ bt x 0 = false := by
  constructor
  · intro h
    have h2 : bt (x &&& 1) 0 = false := by rw [h]; exact b_0 0
    rw [b_and, p_one 0 (by decide)] at h2
    simpa using h2
  · intro h
    refine b_ext (fun i hi => ?_)
    rw [b_and, p_one i hi, b_0]
    by_cases e : i = 0
    · subst e; simp [h]
    · simp [e]
theorem p_and1' (x : Int32) : (x &&& 1) = 1 ↔ bt x 0 = true := by
  constructor
  · intro h
    have h2 : bt (x &&& 1) 0 = true := by rw [h]; rfl
    rw [b_and, p_one 0 (by decide)] at h2
    simpa using h2
  · intro h
    refine b_ext (fun i hi => ?_)
    rw [b_and, p_one i hi]
    by_cases e : i = 0
    · subst e; simp [h]
    · simp [e]
theorem p_shr0 (v : Int32) {k : Nat} (hk : k < 32) : bt (v >>> (nI k &&& 31)) 0 = bt v k := by
  rw [b_sshr k hk v (by decide : (0 : Nat) < 32)]
  simp [hk]
theorem hasBit_eq {v : Int32} {k : Nat} (hk : k < 32) : m_X5_hasBit v (nI k) = some (if bt v k = true then 1 else 0) := by
  unfold m_X5_hasBit
  by_cases hb : bt v k = true
  · rw [if_neg (by rw [p_and1, p_shr0 v hk, hb]; decide), if_pos hb]
  · rw [if_pos (by rw [p_and1, p_shr0 v hk]; simpa using hb), if_neg hb]
theorem has_eq {v : Int32} {k : Nat} (hk : k < 32) : m_X6_has v (nI k) = some (if bt v k = true then 1 else 0) := by
  unfold m_X6_has
  by_cases hb : bt v k = true
  · rw [if_pos (by rw [p_and1', p_shr0 v hk]; exact hb), if_pos hb]
  · rw [if_neg (by rw [p_and1', p_shr0 v hk]; exact hb), if_neg hb]
theorem p_bit {k : Nat} (hk : k < 32) {i : Nat} (hi : i < 32) : bt ((1 : Int32) <<< (nI k &&& 31)) i = decide (i = k) := by
  rw [b_shl k hk 1 hi]
  by_cases e : i = k
  · subst e; simp [p_one 0 (by decide)]
  · by_cases h : k ≤ i
    · have e2 : ¬ i - k = 0 := by omega
      rw [p_one (i - k) (by omega)]; simp [e, e2]
    · simp [h, e]
theorem p_not (x : Int32) {i : Nat} (hi : i < 32) : bt (x ^^^ (-1)) i = !bt x i := by
  rw [b_xor, b_m1 i hi]; cases bt x i <;> rfl
theorem p_nbit {n i : Nat} : bt (nI n) i = (decide (i < 32) && n.testBit i) := by
  unfold bt nI
  rw [show (Int32.ofNat n).toBitVec = BitVec.ofNat 32 n from rfl, BitVec.getLsbD_ofNat]
/-! the mask of a predicate over 0 .. n - 1 -/
def msk (P : Nat → Bool) : Nat → Int32
  | 0 => 0
  | n + 1 => msk P n ||| (if P n = true then (1 : Int32) <<< (nI n &&& 31) else 0)
theorem msk_bt (P : Nat → Bool) : ∀ n, n ≤ 32 → ∀ i, bt (msk P n) i = (decide (i < n) && P i)
  | 0, _, i => by simp [msk, b_0]
  | n + 1, h, i => by
    by_cases hi : i < 32
    · rw [msk, b_or, msk_bt P n (by omega) i]
      by_cases hp : P n = true
      · rw [if_pos hp, p_bit (by omega) hi]
        by_cases e : i = n
        · subst e; simp [hp]
        · have : (i < n + 1) ↔ i < n := by omega
          simp [e, this]
      · rw [if_neg hp, b_0]
        by_cases e : i = n
        · subst e; simp [hp]
        · have : (i < n + 1) ↔ i < n := by omega
          simp [this]
    · rw [b_big (by omega)]
      have : ¬ i < n + 1 := by omega
      simp [this]
theorem msk_congr {P Q : Nat → Bool} : ∀ {n : Nat}, (∀ i, i < n → P i = Q i) → msk P n = msk Q n
  | 0, _ => rfl
  | n + 1, h => by rw [msk, msk, msk_congr (fun i hi => h i (by omega)), h n (by omega)]
theorem msk_ext {x : Int32} {P : Nat → Bool} {n : Nat} (hn : n ≤ 32) (h : ∀ i, i < 32 → bt x i = (decide (i < n) && P i)) : x = msk P n :=
  b_ext (fun i hi => by rw [h i hi, msk_bt P n hn i])
/-- loops that gather a mask: acc, i -/
theorem mask_loop {R : Type} {b : (Int32 → Int32 → Option R) → Int32 → Int32 → Option R} {z : Nat} {P : Nat → Bool} {E : Int32 → Option R}
    (hexit : ∀ rec acc, b rec acc (nI z) = E acc)
    (hstep : ∀ rec i, i < z → ∀ acc, b rec acc (nI i) = rec (acc ||| (if P i = true then (1 : Int32) <<< (nI i &&& 31) else 0)) (nI i + 1)) :
    ∀ (j i fuel : Nat), i + j = z → j < fuel → it2 b fuel (msk P i) (nI i) = E (msk P z)
  | 0, i, fuel + 1, h, _ => by
    have : i = z := by omega
    subst this
    exact hexit _ _
  | j + 1, i, fuel + 1, h, hf => by
    show b (it2 b fuel) (msk P i) (nI i) = _
    rw [hstep _ i (by omega), nI_1]
    exact mask_loop hexit hstep j (i + 1) fuel (by omega) (by omega)
theorem mask_loop0 {R : Type} {b : (Int32 → Int32 → Option R) → Int32 → Int32 → Option R} {z : Nat} {P : Nat → Bool} {E : Int32 → Option R} (hz : z < 1100)
    (hexit : ∀ rec acc, b rec acc (nI z) = E acc)
    (hstep : ∀ rec i, i < z → ∀ acc, b rec acc (nI i) = rec (acc ||| (if P i = true then (1 : Int32) <<< (nI i &&& 31) else 0)) (nI i + 1)) : it2 b 1100 0 0 = E (msk P z) :=
  mask_loop hexit hstep z 0 1100 (by omega) hz
/-! Integer.bitCount -/
theorem iushr_eq {n : Nat} (hn : n < 2 ^ 32) (s : Int32) (k : Nat) (hs : ((s.toUInt32 &&& Int32.toUInt32 31).toBitVec % 32).toNat = k) : iushr (nI n) s = nI (n / 2 ^ k) := pk_ushrN hn s k hs
theorem p_land (a b : Nat) : nI a &&& nI b = nI (a &&& b) := by
  refine b_ext (fun i hi => ?_)
  rw [b_and, p_nbit, p_nbit, p_nbit, Nat.testBit_and]
  simp [hi]
/-- x split at 2^8 -/
theorem sp_and {a b c d : Nat} (ha : a < 256) (hc : c < 256) : (a + 256 * b) &&& (c + 256 * d) = (a &&& c) + 256 * (b &&& d) := by
  have h1 : ((a + 256 * b) &&& (c + 256 * d)) % 2 ^ 8 = a &&& c := by
    rw [Nat.and_mod_two_pow]
    congr 1 <;> omega
  have h2 : ((a + 256 * b) &&& (c + 256 * d)) / 2 ^ 8 = b &&& d := by
    rw [Nat.and_div_two_pow]
    congr 1 <;> omega
  have h3 := Nat.mod_add_div ((a + 256 * b) &&& (c + 256 * d)) (2 ^ 8)
  rw [h1, h2] at h3
  omega
