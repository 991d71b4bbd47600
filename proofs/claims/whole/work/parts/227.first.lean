/-! the first way -/
def isFW (cw : Nat → Int32) : List Nat → Nat → List Nat → Prop
  | [], _, L => L = []
  | s :: S, u, L => ∃ c L', L = c :: L' ∧ c < 6 ∧ bt (cw s) c = true ∧ u.testBit c = false ∧ wy cw S (u ||| 2 ^ c) = true ∧ (∀ k, k < c → ¬ (bt (cw s) k = true ∧ u.testBit k = false ∧ wy cw S (u ||| 2 ^ k) = true)) ∧ isFW cw S (u ||| 2 ^ c) L'
theorem isFW_uni {cw : Nat → Int32} : ∀ {S : List Nat} {u : Nat} {L M : List Nat}, isFW cw S u L → isFW cw S u M → L = M
  | [], _, L, M, h1, h2 => by
    have h1 : L = [] := h1
    have h2 : M = [] := h2
    rw [h1, h2]
  | s :: S, u, L, M, h1, h2 => by
    obtain ⟨c, L', rfl, a1, a2, a3, a4, a5, a6⟩ := h1
    obtain ⟨d, M', rfl, b1, b2, b3, b4, b5, b6⟩ := h2
    have e : c = d := by
      rcases Nat.lt_trichotomy c d with h | h | h
      · exact absurd ⟨a2, a3, a4⟩ (b5 c h)
      · exact h
      · exact absurd ⟨b2, b3, b4⟩ (a5 d h)
    subst e
    rw [isFW_uni a6 b6]
theorem isFW_len {cw : Nat → Int32} : ∀ {S : List Nat} {u : Nat} {L : List Nat}, isFW cw S u L → L.length = S.length
  | [], _, L, h => by
    have h : L = [] := h
    rw [h]
  | s :: S, u, L, h => by
    obtain ⟨c, L', rfl, a1, a2, a3, a4, a5, a6⟩ := h
    rw [List.length_cons, List.length_cons, isFW_len a6]
theorem isFW_congr {cw cv : Nat → Int32} : ∀ {S : List Nat} {u : Nat} {L : List Nat}, (∀ s ∈ S, ∀ c, c < 6 → bt (cw s) c = bt (cv s) c) → isFW cw S u L → isFW cv S u L
  | [], _, _, _, h => h
  | s :: S, u, L, he, h => by
    obtain ⟨c, L', rfl, a1, a2, a3, a4, a5, a6⟩ := h
    have he' : ∀ s' ∈ S, ∀ c, c < 6 → bt (cw s') c = bt (cv s') c := fun s' hs' => he s' (List.mem_cons_of_mem _ hs')
    refine ⟨c, L', rfl, a1, by rw [← he s List.mem_cons_self c a1]; exact a2, a3, by rw [← wy_congr he']; exact a4, fun k hk hh => a5 k hk ?_, isFW_congr he' a6⟩
    rw [he s List.mem_cons_self k (by omega), wy_congr he']
    exact hh
/-- the subjects of a set from 10 - d on -/
def sfx (ch : Int32) : Nat → List Nat
  | 0 => []
  | d + 1 => if bt ch (9 - d) = true then (9 - d) :: sfx ch d else sfx ch d
theorem bl_sfx (ch : Int32) : bl ch = sfx ch 10 := by
  unfold bl
  rw [show List.range 10 = [0, 1, 2, 3, 4, 5, 6, 7, 8, 9] from rfl]
  simp only [List.filter_cons, List.filter_nil, sfx]
def gN (cw : Nat → Int32) (ch : Int32) : Nat → Nat
  | 0 => 2 ^ 64 - 1
  | d + 1 => if bt ch (9 - d) = true then sbN (gN cw ch d) (cw (9 - d)) 6 else gN cw ch d
theorem gN_lt (cw : Nat → Int32) (ch : Int32) : ∀ d, gN cw ch d < 2 ^ 64
  | 0 => by rw [gN]; decide
  | d + 1 => by
    rw [gN]; split
    · exact sbN_lt _ 6 (by decide)
    · exact gN_lt cw ch d
theorem gN_bit (cw : Nat → Int32) (ch : Int32) : ∀ d m, m < 64 → (gN cw ch d).testBit m = wy cw (sfx ch d) m
  | 0, m, hm => by
    rw [gN, sfx, wy, Nat.testBit_two_pow_sub_one]
    simp [hm]
  | d + 1, m, hm => by
    rw [gN, sfx]
    by_cases h : bt ch (9 - d) = true
    · rw [if_pos h, if_pos h, sbN_bit (cw (9 - d)) hm 6 (by decide), wy]
      refine any_congr' (fun c hc => ?_)
      have hc : c < 6 := List.mem_range.mp hc
      cases e : m.testBit c
      · obtain ⟨e1, e2⟩ := sw_or c hc m hm e
        rw [gN_bit cw ch d _ (by rw [← e1]; exact e2)]
      · simp
    · rw [if_neg h, if_neg h, gN_bit cw ch d m hm]
def stA (cw : Nat → Int32) (ch : Int32) (sa : Nat → Int64) : Nat → (Nat → Int64)
  | 0 => vp_updL sa 10 (-1)
  | d + 1 => vp_updL (stA cw ch sa d) (9 - d) (lN (gN cw ch (d + 1)))
theorem stA_at (cw : Nat → Int32) (ch : Int32) (sa : Nat → Int64) : ∀ d, d ≤ 10 → ∀ q, q ≤ d → stA cw ch sa d (10 - q) = lN (gN cw ch q)
  | 0, _, q, hq => by
    have : q = 0 := by omega
    subst this
    rw [stA, gN]
    exact pk_uLs
  | d + 1, hd, q, hq => by
    rw [stA]
    by_cases e : q = d + 1
    · subst e
      rw [show 10 - (d + 1) = 9 - d by omega, pk_uLs]
    · rw [pk_uLn (by omega), stA_at cw ch sa d (by omega) q (by omega)]
def ixD (i : Nat) : Int32 := if i < 10 then nI (9 - i) else -1
theorem ixD_s {i : Nat} (h : i < 10) : nI (9 - i) + (-1) = ixD (i + 1) := by
  unfold ixD
  by_cases e : i = 9
  · subst e; decide
  · rw [if_pos (by omega), show 9 - i = (9 - (i + 1)) + 1 by omega, pk_m1]
def putL (f : Nat → Int32) (q : Nat) : List Nat → (Nat → Int32)
  | [] => f
  | c :: L => putL (upd f q (nI c)) (q + 1) L
theorem putL_lo : ∀ (L : List Nat) (f : Nat → Int32) (q i : Nat), i < q → putL f q L i = f i
  | [], _, _, _, _ => rfl
  | c :: L, f, q, i, h => by rw [putL, putL_lo L _ _ i (by omega), upd_n (by omega)]
theorem putL_at : ∀ (L : List Nat) (f : Nat → Int32) (q i c : Nat), L[i]? = some c → putL f q L (q + i) = nI c
  | [], _, _, _, _, h => by simp at h
  | d :: L, f, q, 0, c, h => by
    simp only [List.getElem?_cons_zero, Option.some.injEq] at h
    subst h
    show putL (upd f q (nI d)) (q + 1) L q = nI d
    rw [putL_lo L _ _ q (by omega), upd_s]
  | d :: L, f, q, i + 1, c, h => by
    rw [List.getElem?_cons_succ] at h
    rw [putL, show q + (i + 1) = (q + 1) + i by omega]
    exact putL_at L _ (q + 1) i c h
theorem firstColumn_eq {cols : Int32} {u g : Nat} (hu : u < 64) (hg : g < 2 ^ 64) {c : Nat} (hc : c < 6) (h1 : bt cols c = true) (h2 : u.testBit c = false) (h3 : g.testBit (u ||| 2 ^ c) = true) (hmin : ∀ k, k < c → ¬ (bt cols k = true ∧ u.testBit k = false ∧ g.testBit (u ||| 2 ^ k) = true)) :
    m_X4_firstColumn (cols &&& (nI u ^^^ (-1))) (nI u) (lN g) = some (nI c) := by
  have step : ∀ (rec : Int32 → Option Int32) (k : Nat), k < 6 → m_X4_firstColumn_3 (cols &&& (nI u ^^^ (-1))) (nI u) (lN g) rec (nI k) = if bt cols k = true ∧ u.testBit k = false ∧ g.testBit (u ||| 2 ^ k) = true then some (nI k) else rec (nI k + 1) := by
    intro rec k hk
    have hb : bt (cols &&& (nI u ^^^ (-1))) k = (bt cols k && !u.testBit k) := by
      rw [b_and, p_not _ (by omega), p_nbit]
      have : k < 32 := by omega
      simp [this]
    have gg : ¬ (6 : Int32) ≤ nI k := nI_ge (a := k) (b := 6) hk (by decide)
    unfold m_X4_firstColumn_3
    rw [if_neg gg, hasBit_eq (by omega), bk1, hb, (one_shl k hk).1, p_lor, isStart_eq hg (or_lt64 hu hk), bk1]
    simp only [fl_0, lt_t]
    cases bt cols k <;> cases u.testBit k <;> cases g.testBit (u ||| 2 ^ k) <;> simp
  unfold m_X4_firstColumn
  exact find1_no (z := c) (by omega) (fun rec => by rw [step rec c hc, if_pos ⟨h1, h2, h3⟩]) (fun rec k hk => by rw [step rec k (by omega), if_neg (hmin k hk)])
theorem fw_first {cw : Nat → Int32} {s : Nat} {S : List Nat} {u : Nat} (h : wy cw (s :: S) u = true) : ∃ c, c < 6 ∧ bt (cw s) c = true ∧ u.testBit c = false ∧ wy cw S (u ||| 2 ^ c) = true ∧ (∀ k, k < c → ¬ (bt (cw s) k = true ∧ u.testBit k = false ∧ wy cw S (u ||| 2 ^ k) = true)) := by
  obtain ⟨c0, hc0, g1, g2, g3⟩ := (wy_iff cw s S u).mp h
  rcases first_or (fun c => bt (cw s) c = true ∧ u.testBit c = false ∧ wy cw S (u ||| 2 ^ c) = true) 6 with hno | ⟨c, hc, ⟨a1, a2, a3⟩, hm⟩
  · exact absurd ⟨g1, g2, g3⟩ (hno c0 hc0)
  · exact ⟨c, hc, a1, a2, a3, hm⟩
theorem ff_loop {cw : Nat → Int32} {ch : Int32} {A : Nat → Int64} (hA : ∀ q, q ≤ 10 → A (10 - q) = lN (gN cw ch q)) :
    ∀ (d fuel u f : Nat) (first : Nat → Int32), d ≤ 10 → d < fuel → u < 64 → f + (sfx ch d).length ≤ 6 → wy cw (sfx ch d) u = true →
    ∃ L, isFW cw (sfx ch d) u L ∧ it4 (m_X4_findFirst_83 A cw ch) fuel (nI u) (nI f) (nI (10 - d)) first = some (1, putL first f L, A) := by
  intro d
  induction d with
  | zero =>
    intro fuel u f first _ hf hu hl hw
    cases fuel with
    | zero => exact absurd hf (by omega)
    | succ fuel =>
      refine ⟨[], rfl, ?_⟩
      show m_X4_findFirst_83 A cw ch (it4 (m_X4_findFirst_83 A cw ch) fuel) (nI u) (nI f) (nI (10 - 0)) first = _
      generalize it4 (m_X4_findFirst_83 A cw ch) fuel = rec
      unfold m_X4_findFirst_83
      rw [if_pos (by decide)]
      rfl
  | succ d ih =>
    intro fuel u f first hd hf hu hl hw
    cases fuel with
    | zero => exact absurd hf (by omega)
    | succ fuel =>
      have s1 : it4 (m_X4_findFirst_83 A cw ch) (fuel + 1) (nI u) (nI f) (nI (10 - (d + 1))) first = m_X4_findFirst_83 A cw ch (it4 (m_X4_findFirst_83 A cw ch) fuel) (nI u) (nI f) (nI (10 - (d + 1))) first := rfl
      rw [s1]
      have hIH := ih fuel
      generalize it4 (m_X4_findFirst_83 A cw ch) fuel = rec at hIH ⊢
      have es : 10 - (d + 1) = 9 - d := by omega
      have g1 : ¬ (10 : Int32) ≤ nI (9 - d) := nI_ge (a := 9 - d) (b := 10) (by omega) (by decide)
      have i10 : inb (nI (9 - d)) 10 = true := inb_nI (by omega) (by decide)
      have i11 : inb (nI (9 - d) + 1) 11 = true := by rw [nI_1]; exact inb_nI (by omega) (by decide)
      have c9 : (nI (9 - d)).toNatClampNeg = 9 - d := nI_clamp (by omega)
      have c10 : (nI (9 - d) + 1).toNatClampNeg = 10 - d := by rw [nI_1, nI_clamp (by omega)]; omega
      unfold m_X4_findFirst_83
      rw [es, if_neg g1]
      rw [sfx] at hl hw ⊢
      by_cases hf6 : f < 6
      · have g2 : ¬ (6 : Int32) ≤ nI f := nI_ge (a := f) (b := 6) hf6 (by decide)
        rw [if_neg g2, hasBit_eq (by omega), bk1]
        by_cases hb : bt ch (9 - d) = true
        · rw [if_pos hb] at hl hw ⊢
          rw [if_pos hb, if_neg (by decide)]
          obtain ⟨c, hc, a1, a2, a3, a4⟩ := fw_first hw
          have gb : ∀ k, k < 6 → (gN cw ch d).testBit (u ||| 2 ^ k) = wy cw (sfx ch d) (u ||| 2 ^ k) := fun k hk => gN_bit cw ch d _ (or_lt64 hu hk)
          have hl' : f + 1 + (sfx ch d).length ≤ 6 := by rw [List.length_cons] at hl; omega
          obtain ⟨L, e1, e2⟩ := hIH (u ||| 2 ^ c) (f + 1) (upd first f (nI c)) (by omega) (by omega) (or_lt64 hu hc) hl' a3
          refine ⟨c :: L, ⟨c, L, rfl, hc, a1, a2, a3, a4, e1⟩, ?_⟩
          have i6 : inb (nI f) 6 = true := inb_nI hf6 (by decide)
          have cf : (nI f).toNatClampNeg = f := nI_clamp (by omega)
          rw [i10, gd_tt, i11, gd_tt, c9, c10, hA d (by omega), firstColumn_eq hu (gN_lt cw ch d) hc a1 a2 (by rw [gb c hc]; exact a3) (fun k hk hh => a4 k hk (by rw [gb k (by omega)] at hh; exact hh)), bk1, i6, gd_tt, lt_t, lt_t, lt_t, (one_shl c hc).1, p_lor, nI_1, nI_1, cf, show 9 - d + 1 = 10 - d by omega, e2, putL]
        · rw [if_neg hb] at hl hw ⊢
          rw [if_neg hb, if_pos rfl, lt_t, nI_1, show 9 - d + 1 = 10 - d by omega]
          exact hIH u f first (by omega) (by omega) hu hl hw
      · have f6 : f = 6 := by omega
        subst f6
        rw [if_pos (show (6 : Int32) ≤ nI 6 by decide)]
        have hn : (if bt ch (9 - d) = true then (9 - d) :: sfx ch d else sfx ch d) = [] := List.eq_nil_of_length_eq_zero (by omega)
        rw [hn]
        exact ⟨[], rfl, rfl⟩
/-- the class's first way -/
theorem findFirst_eq (cw : Nat → Int32) (ch : Int32) (first : Nat → Int32) (sa : Nat → Int64) (hl : (bl ch).length ≤ 6) :
    (wy cw (bl ch) 0 = false → ∃ A, m_X4_findFirst first sa cw ch = some (0, first, A)) ∧ (wy cw (bl ch) 0 = true → ∃ A L, isFW cw (bl ch) 0 L ∧ m_X4_findFirst first sa cw ch = some (1, putL first 0 L, A)) := by
  have hA : ∀ q, q ≤ 10 → stA cw ch sa 10 (10 - q) = lN (gN cw ch q) := fun q hq => stA_at cw ch sa 10 (Nat.le_refl _) q hq
  have e0 : m_X4_findFirst first sa cw ch = m_X4_findFirst_60 first (stA cw ch sa 10) cw ch := by
    unfold m_X4_findFirst
    rw [gd_t (by decide)]
    obtain ⟨Z, hZ⟩ : ∃ Z : Nat, Z = 10 := ⟨_, rfl⟩
    have := seq2 (b := m_X4_findFirst_13 first cw ch) (z := Z) (E := m_X4_findFirst_60 first (stA cw ch sa Z) cw ch) ixD (stA cw ch sa) (by omega) (fun rec => ?_) (fun rec d hd => ?_)
    · rw [hZ] at this; exact this
    · unfold m_X4_findFirst_13
      rw [hZ, if_pos (by decide)]
    · have hd : d < 10 := by omega
      have i11 : inb (nI (9 - d)) 11 = true := inb_nI (by omega) (by decide)
      have i10 : inb (nI (9 - d)) 10 = true := inb_nI (by omega) (by decide)
      have i11' : inb (nI (9 - d) + 1) 11 = true := by rw [nI_1]; exact inb_nI (by omega) (by decide)
      have c9 : (nI (9 - d)).toNatClampNeg = 9 - d := nI_clamp (by omega)
      have c10 : (nI (9 - d) + 1).toNatClampNeg = 10 - d := by rw [nI_1, nI_clamp (by omega)]; omega
      have ix : ixD d = nI (9 - d) := by unfold ixD; rw [if_pos hd]
      unfold m_X4_findFirst_13 m_X4_findFirst_53
      rw [ix, if_neg (nI_neg (by omega)), i11', gd_tt, lt_t, c10, stA_at cw ch sa d (by omega) d (Nat.le_refl _), hasBit_eq (by omega), bk1, i11, gd_tt, i10, gd_tt, c9, startsBefore_eq (gN_lt cw ch d), bk1, gd_tt, lt_t, ixD_s hd, stA, gN, lt_t]
      by_cases hb : bt ch (9 - d) = true
      · rw [if_pos hb, if_pos hb, if_neg (by decide)]
      · rw [if_neg hb, if_neg hb, if_pos rfl]
  have hz : stA cw ch sa 10 (0 : Int32).toNatClampNeg = lN (gN cw ch 10) := hA 10 (Nat.le_refl _)
  have hst : m_X4_isStart (lN (gN cw ch 10)) 0 = some (fl (wy cw (bl ch) 0)) := by
    rw [show (0 : Int32) = nI 0 from rfl, isStart_eq (gN_lt cw ch 10) (by decide), gN_bit cw ch 10 0 (by decide), bl_sfx]
  rw [e0]
  unfold m_X4_findFirst_60
  rw [gd_t (by decide), hz, hst, bk1]
  constructor
  · intro hw
    rw [hw, if_pos (by decide)]
    exact ⟨_, rfl⟩
  · intro hw
    rw [hw, if_neg (by decide)]
    rw [bl_sfx] at hw hl ⊢
    obtain ⟨L, h1, h2⟩ := ff_loop hA 10 1100 0 0 first (Nat.le_refl _) (by decide) (by decide) (by omega) hw
    exact ⟨_, L, h1, h2⟩
