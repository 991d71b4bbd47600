/-! Integer.bitCount counts the bits -/
def D4 (a b c d : Nat) : Nat := a + 256 * (b + 256 * (c + 256 * d))
theorem D4_and {a b c d m : Nat} (ha : a < 256) (hb : b < 256) (hc : c < 256) (hm : m < 256) : D4 a b c d &&& D4 m m m m = D4 (a &&& m) (b &&& m) (c &&& m) (d &&& m) := by
  unfold D4
  rw [sp_and ha hm, sp_and hb hm, sp_and hc hm]
theorem t_1 : ∀ t, t < 2 → ∀ a, a < 256 → (a / 2 + 128 * t) &&& 85 = (a / 2) &&& 85 := by decide +kernel
theorem t_2 : ∀ t, t < 4 → ∀ a, a < 256 → (a / 4 + 64 * t) &&& 51 = (a / 4) &&& 51 := by decide +kernel
def g_1 (a : Nat) : Nat := a - ((a / 2) &&& 85)
def g_2 (a : Nat) : Nat := (a &&& 51) + ((a / 4) &&& 51)
def g_3 (a : Nat) : Nat := (g_2 (g_1 a) + g_2 (g_1 a) / 16) % 16
theorem g_b : ∀ a, a < 256 → g_1 a < 256 ∧ g_2 (g_1 a) ≤ 68 ∧ g_2 (g_1 a) % 16 ≤ 4 ∧ g_3 a ≤ 8 := by decide +kernel
def cnt8 (a : Nat) : Nat := (List.range 8).countP (fun i => a.testBit i)
theorem g_c : ∀ a, a < 256 → g_3 a = cnt8 a := by decide +kernel
theorem and_le85 (a : Nat) : (a / 2) &&& 85 ≤ a := Nat.le_trans Nat.and_le_left (Nat.div_le_self a 2)
theorem bc_1 {a b c d : Nat} (ha : a < 256) (hb : b < 256) (hc : c < 256) (hd : d < 256) : D4 a b c d - ((D4 a b c d / 2) &&& 1431655765) = D4 (g_1 a) (g_1 b) (g_1 c) (g_1 d) ∧ ((D4 a b c d / 2) &&& 1431655765) ≤ D4 a b c d := by
  have e : D4 a b c d / 2 = D4 (a / 2 + 128 * (b % 2)) (b / 2 + 128 * (c % 2)) (c / 2 + 128 * (d % 2)) (d / 2) := by unfold D4; omega
  have e2 : (1431655765 : Nat) = D4 85 85 85 85 := rfl
  rw [e, e2, D4_and (by omega) (by omega) (by omega) (by omega), t_1 _ (by omega) a ha, t_1 _ (by omega) b hb, t_1 _ (by omega) c hc]
  have h1 := and_le85 a
  have h2 := and_le85 b
  have h3 := and_le85 c
  have h4 := and_le85 d
  unfold D4 g_1
  constructor <;> omega
theorem bc_2 {a b c d : Nat} (ha : a < 256) (hb : b < 256) (hc : c < 256) (hd : d < 256) : (D4 a b c d &&& 858993459) + ((D4 a b c d / 4) &&& 858993459) = D4 (g_2 a) (g_2 b) (g_2 c) (g_2 d) := by
  have e : D4 a b c d / 4 = D4 (a / 4 + 64 * (b % 4)) (b / 4 + 64 * (c % 4)) (c / 4 + 64 * (d % 4)) (d / 4) := by unfold D4; omega
  have e2 : (858993459 : Nat) = D4 51 51 51 51 := rfl
  rw [e, e2, D4_and ha hb hc (by omega), D4_and (by omega) (by omega) (by omega) (by omega), t_2 _ (by omega) a ha, t_2 _ (by omega) b hb, t_2 _ (by omega) c hc]
  unfold D4 g_2
  omega
theorem bc_3 {a b c d : Nat} (ha : a ≤ 68) (hb : b ≤ 68) (hc : c ≤ 68) (hd : d ≤ 68) (hb' : b % 16 ≤ 4) (hc' : c % 16 ≤ 4) (hd' : d % 16 ≤ 4) : (D4 a b c d + D4 a b c d / 16) &&& 252645135 = D4 ((a + a / 16) % 16) ((b + b / 16) % 16) ((c + c / 16) % 16) ((d + d / 16) % 16) := by
  have e : D4 a b c d + D4 a b c d / 16 = D4 (a + a / 16 + 16 * (b % 16)) (b + b / 16 + 16 * (c % 16)) (c + c / 16 + 16 * (d % 16)) (d + d / 16) := by unfold D4; omega
  have e2 : (252645135 : Nat) = D4 15 15 15 15 := rfl
  have m15 : ∀ x : Nat, x &&& 15 = x % 16 := fun x => Nat.and_two_pow_sub_one_eq_mod x 4
  rw [e, e2, D4_and (by omega) (by omega) (by omega) (by omega), m15, m15, m15, m15]
  unfold D4
  omega
theorem pop_D4 {a b c d : Nat} (ha : a < 256) (hb : b < 256) (hc : c < 256) (hd : d < 256) : pop (nI (D4 a b c d)) = cnt8 a + cnt8 b + cnt8 c + cnt8 d := by
  have hbt : ∀ i, i < 32 → bt (nI (D4 a b c d)) i = (D4 a b c d).testBit i := fun i hi => by rw [p_nbit]; simp [hi]
  have low : ∀ (x y : Nat), x < 256 → ∀ j, j < 8 → (x + 256 * y).testBit j = x.testBit j := by
    intro x y hx j hj
    have h : ((x + 256 * y) % 2 ^ 8).testBit j = (decide (j < 8) && (x + 256 * y).testBit j) := Nat.testBit_mod_two_pow (x + 256 * y) 8 j
    rw [show (x + 256 * y) % 2 ^ 8 = x by omega] at h
    rw [h]; simp [hj]
  have high : ∀ (x y : Nat), x < 256 → ∀ j, (x + 256 * y).testBit (8 + j) = y.testBit j := by
    intro x y hx j
    rw [Nat.add_comm 8 j, Nat.testBit_add]
    congr 1
    omega
  unfold pop
  rw [show (32 : Nat) = 8 + (8 + (8 + 8)) from rfl, List.range_add, List.range_add (n := 8) (m := 8 + 8), List.range_add (n := 8) (m := 8)]
  simp only [List.countP_append, List.countP_map, List.map_append, List.map_map]
  have e0 : (List.range 8).countP (fun i => bt (nI (D4 a b c d)) i) = cnt8 a := by
    refine List.countP_congr (fun i hi => ?_)
    have hi := List.mem_range.mp hi
    rw [hbt i (by omega)]; unfold D4; rw [low a _ ha i hi]
  have e1 : (List.range 8).countP ((fun i => bt (nI (D4 a b c d)) i) ∘ (fun x => 8 + x)) = cnt8 b := by
    refine List.countP_congr (fun i hi => ?_)
    have hi := List.mem_range.mp hi
    show bt (nI (D4 a b c d)) (8 + i) = true ↔ _
    rw [hbt _ (by omega)]; unfold D4; rw [high a _ ha, low b _ hb i hi]
  have e2 : (List.range 8).countP ((fun i => bt (nI (D4 a b c d)) i) ∘ (fun x => 8 + x) ∘ (fun x => 8 + x)) = cnt8 c := by
    refine List.countP_congr (fun i hi => ?_)
    have hi := List.mem_range.mp hi
    show bt (nI (D4 a b c d)) (8 + (8 + i)) = true ↔ _
    rw [hbt _ (by omega)]; unfold D4; rw [high a _ ha, high b _ hb, low c _ hc i hi]
  have e3 : (List.range 8).countP ((fun i => bt (nI (D4 a b c d)) i) ∘ (fun x => 8 + x) ∘ (fun x => 8 + x) ∘ (fun x => 8 + x)) = cnt8 d := by
    refine List.countP_congr (fun i hi => ?_)
    have hi := List.mem_range.mp hi
    show bt (nI (D4 a b c d)) (8 + (8 + (8 + i))) = true ↔ _
    rw [hbt _ (by omega)]; unfold D4; rw [high a _ ha, high b _ hb, high c _ hc]
  rw [e0]
  first
  | (rw [e1, e2, e3]; omega)
  | (simp only [Function.comp_def] at e1 e2 e3 ⊢; omega)
theorem bitCount_eq (x : Int32) : m_J6_bitCount_0f7a4 x = some (nI (pop x)) := by
  obtain ⟨n, hn, rfl⟩ : ∃ n, n < 2 ^ 32 ∧ x = nI n := ⟨x.toBitVec.toNat, x.toBitVec.isLt, Int32.toBitVec_inj.mp (by simp [nI])⟩
  obtain ⟨a, b, c, d, ha, hb, hc, hd, rfl⟩ : ∃ a b c d, a < 256 ∧ b < 256 ∧ c < 256 ∧ d < 256 ∧ n = D4 a b c d :=
    ⟨n % 256, n / 256 % 256, n / 65536 % 256, n / 16777216, by omega, by omega, by omega, by omega, by unfold D4; omega⟩
  have hlt : ∀ {a b c d : Nat}, a < 256 → b < 256 → c < 256 → d < 256 → D4 a b c d < 2 ^ 32 := by intro a b c d h1 h2 h3 h4; unfold D4; omega
  obtain ⟨a1, a2, a3, a4⟩ := g_b a ha
  obtain ⟨b1, b2, b3, b4⟩ := g_b b hb
  obtain ⟨c1, c2, c3, c4⟩ := g_b c hc
  obtain ⟨d1, d2, d3, d4⟩ := g_b d hd
  have s1 : nI (D4 a b c d) - ((iushr (nI (D4 a b c d)) 1) &&& 1431655765) = nI (D4 (g_1 a) (g_1 b) (g_1 c) (g_1 d)) := by
    rw [iushr_eq hn 1 1 (by decide), show (1431655765 : Int32) = nI 1431655765 from rfl, p_land, pk_sub (bc_1 ha hb hc hd).2, (bc_1 ha hb hc hd).1]
  have s2 : (nI (D4 (g_1 a) (g_1 b) (g_1 c) (g_1 d)) &&& 858993459) + ((iushr (nI (D4 (g_1 a) (g_1 b) (g_1 c) (g_1 d))) 2) &&& 858993459) = nI (D4 (g_2 (g_1 a)) (g_2 (g_1 b)) (g_2 (g_1 c)) (g_2 (g_1 d))) := by
    rw [iushr_eq (hlt a1 b1 c1 d1) 2 2 (by decide), show (858993459 : Int32) = nI 858993459 from rfl, p_land, p_land, nI_add, bc_2 a1 b1 c1 d1]
  have s3 : (nI (D4 (g_2 (g_1 a)) (g_2 (g_1 b)) (g_2 (g_1 c)) (g_2 (g_1 d))) + iushr (nI (D4 (g_2 (g_1 a)) (g_2 (g_1 b)) (g_2 (g_1 c)) (g_2 (g_1 d)))) 4) &&& 252645135 = nI (D4 (g_3 a) (g_3 b) (g_3 c) (g_3 d)) := by
    rw [iushr_eq (hlt (by omega) (by omega) (by omega) (by omega)) 4 4 (by decide), show (252645135 : Int32) = nI 252645135 from rfl, nI_add, p_land, bc_3 a2 b2 c2 d2 b3 c3 d3]
    rfl
  have s4 : nI (D4 (g_3 a) (g_3 b) (g_3 c) (g_3 d)) + iushr (nI (D4 (g_3 a) (g_3 b) (g_3 c) (g_3 d))) 8 = nI (D4 (g_3 a + g_3 b) (g_3 b + g_3 c) (g_3 c + g_3 d) (g_3 d)) := by
    rw [iushr_eq (hlt (by omega) (by omega) (by omega) (by omega)) 8 8 (by decide), nI_add]
    congr 1; unfold D4; omega
  have s5 : nI (D4 (g_3 a + g_3 b) (g_3 b + g_3 c) (g_3 c + g_3 d) (g_3 d)) + iushr (nI (D4 (g_3 a + g_3 b) (g_3 b + g_3 c) (g_3 c + g_3 d) (g_3 d))) 16 = nI (D4 (g_3 a + g_3 b + (g_3 c + g_3 d)) (g_3 b + g_3 c + g_3 d) (g_3 c + g_3 d) (g_3 d)) := by
    rw [iushr_eq (hlt (by omega) (by omega) (by omega) (by omega)) 16 16 (by decide), nI_add]
    congr 1; unfold D4; omega
  have s6 : nI (D4 (g_3 a + g_3 b + (g_3 c + g_3 d)) (g_3 b + g_3 c + g_3 d) (g_3 c + g_3 d) (g_3 d)) &&& 63 = nI (g_3 a + g_3 b + (g_3 c + g_3 d)) := by
    rw [show (63 : Int32) = nI 63 from rfl, p_land, show (63 : Nat) = 2 ^ 6 - 1 from rfl, Nat.and_two_pow_sub_one_eq_mod]
    congr 1; unfold D4; omega
  unfold m_J6_bitCount_0f7a4
  simp only [lt', s1, s2, s3, s4, s5, s6]
  rw [pop_D4 ha hb hc hd, g_c a ha, g_c b hb, g_c c hc, g_c d hd]
  congr 2; omega
theorem bits_eq (x : Int32) : m_X6_bits x = some (nI (pop x)) := by
  unfold m_X6_bits
  rw [bitCount_eq]
  rfl
theorem pop_le (x : Int32) : pop x ≤ 32 := by
  unfold pop
  exact Nat.le_trans List.countP_le_length (by simp)
