/-! ways: the spec -/
theorem any_congr' {p q : Nat → Bool} : ∀ {l : List Nat}, (∀ c ∈ l, p c = q c) → l.any p = l.any q
  | [], _ => rfl
  | a :: l, h => by rw [List.any_cons, List.any_cons, h a List.mem_cons_self, any_congr' (fun c hc => h c (List.mem_cons_of_mem _ hc))]
/-- can the subjects of the list all have unlike columns, none of those in u? -/
def wy (cw : Nat → Int32) : List Nat → Nat → Bool
  | [], _ => true
  | s :: S, u => (List.range 6).any (fun c => bt (cw s) c && !u.testBit c && wy cw S (u ||| 2 ^ c))
theorem wy_congr {cw cv : Nat → Int32} : ∀ {S : List Nat} {u : Nat}, (∀ s ∈ S, ∀ c, c < 6 → bt (cw s) c = bt (cv s) c) → wy cw S u = wy cv S u
  | [], _, _ => rfl
  | s :: S, u, h => by
    rw [wy, wy]
    refine any_congr' (fun c hc => ?_)
    have hc : c < 6 := List.mem_range.mp hc
    rw [h s List.mem_cons_self c hc, wy_congr (fun s' hs' => h s' (List.mem_cons_of_mem _ hs'))]
theorem wy_iff (cw : Nat → Int32) (s : Nat) (S : List Nat) (u : Nat) : wy cw (s :: S) u = true ↔ ∃ c, c < 6 ∧ bt (cw s) c = true ∧ u.testBit c = false ∧ wy cw S (u ||| 2 ^ c) = true := by
  rw [wy, List.any_eq_true]
  constructor
  · rintro ⟨c, hc, h⟩
    simp only [Bool.and_eq_true, Bool.not_eq_true'] at h
    exact ⟨c, List.mem_range.mp hc, h.1.1, h.1.2, h.2⟩
  · rintro ⟨c, hc, h1, h2, h3⟩
    exact ⟨c, List.mem_range.mpr hc, by simp [h1, h2, h3]⟩
theorem tb_or (u c d : Nat) : (u ||| 2 ^ c).testBit d = (u.testBit d || decide (c = d)) := by
  rw [Nat.testBit_or, Nat.testBit_two_pow]
theorem wy_swap1 {cw : Nat → Int32} {a b : Nat} {S : List Nat} {u : Nat} (h : wy cw (a :: b :: S) u = true) : wy cw (b :: a :: S) u = true := by
  obtain ⟨c, hc, h1, h2, h3⟩ := (wy_iff cw a (b :: S) u).mp h
  obtain ⟨d, hd, g1, g2, g3⟩ := (wy_iff cw b S _).mp h3
  rw [tb_or] at g2
  simp only [Bool.or_eq_false_iff, decide_eq_false_iff_not] at g2
  refine (wy_iff cw b (a :: S) u).mpr ⟨d, hd, g1, g2.1, (wy_iff cw a S _).mpr ⟨c, hc, h1, ?_, ?_⟩⟩
  · rw [tb_or, h2]; simp; exact fun e => g2.2 e.symm
  · rw [Nat.or_assoc, Nat.or_comm (2 ^ d) (2 ^ c), ← Nat.or_assoc]; exact g3
theorem wy_perm1 {cw : Nat → Int32} {S T : List Nat} (h : List.Perm S T) : ∀ u, wy cw S u = true → wy cw T u = true := by
  induction h with
  | nil => exact fun u h => h
  | cons a _ ih =>
    intro u h
    obtain ⟨c, hc, h1, h2, h3⟩ := (wy_iff cw a _ u).mp h
    exact (wy_iff cw a _ u).mpr ⟨c, hc, h1, h2, ih _ h3⟩
  | swap a b l => exact fun u h => wy_swap1 h
  | trans _ _ ih1 ih2 => exact fun u h => ih2 u (ih1 u h)
theorem wy_perm {cw : Nat → Int32} {S T : List Nat} (h : List.Perm S T) (u : Nat) : wy cw S u = wy cw T u := by
  cases e : wy cw T u
  · cases e2 : wy cw S u
    · rfl
    · rw [wy_perm1 h u e2] at e; cases e
  · exact wy_perm1 h.symm u e
/-- the subjects of a set, rising -/
def bl (ch : Int32) : List Nat := (List.range 10).filter (fun s => bt ch s)
def blk (ch : Int32) (k : Nat) : List Nat := ((List.range k).filter (fun s => bt ch s)).reverse
theorem blk_succ (ch : Int32) (k : Nat) : blk ch (k + 1) = if bt ch k = true then k :: blk ch k else blk ch k := by
  unfold blk
  rw [List.range_succ, List.filter_append, List.reverse_append]
  by_cases h : bt ch k = true
  · rw [if_pos h, List.filter_cons_of_pos h]; rfl
  · rw [if_neg h, List.filter_cons_of_neg h]; rfl
/-! ways, as the class finds them: sets of sets -/
def swN (c : Nat) : Nat := match c with
  | 0 => 0x5555555555555555
  | 1 => 0x3333333333333333
  | 2 => 0x0F0F0F0F0F0F0F0F
  | 3 => 0x00FF00FF00FF00FF
  | 4 => 0x0000FFFF0000FFFF
  | _ => 0x00000000FFFFFFFF
theorem sw_lt : ∀ c, c < 6 → swN c < 2 ^ 64 ∧ ev_sw c = lN (swN c) := by decide +kernel
theorem sw_bit : ∀ c, c < 6 → ∀ m, m < 64 → (swN c).testBit m = !m.testBit c := by decide +kernel
theorem sw_or : ∀ c, c < 6 → ∀ m, m < 64 → m.testBit c = false → m + 2 ^ c = m ||| 2 ^ c ∧ m + 2 ^ c < 64 := by decide +kernel
theorem one_shl : ∀ c, c < 6 → (1 : Int32) <<< (nI c &&& 31) = nI (2 ^ c) ∧ 2 ^ c < 64 := by decide +kernel
def sbN (n : Nat) (cols : Int32) : Nat → Nat
  | 0 => 0
  | c + 1 => if bt cols c = true then sbN n cols c ||| ((n / 2 ^ (2 ^ c)) &&& swN c) else sbN n cols c
theorem sbN_lt {n : Nat} (cols : Int32) : ∀ c, c ≤ 6 → sbN n cols c < 2 ^ 64
  | 0, _ => by rw [sbN]; decide
  | c + 1, h => by
    rw [sbN]
    split
    · refine Nat.or_lt_two_pow (sbN_lt cols c (by omega)) (Nat.lt_of_le_of_lt Nat.and_le_right (sw_lt c (by omega)).1)
    · exact sbN_lt cols c (by omega)
theorem sbN_bit {n : Nat} (cols : Int32) {m : Nat} (hm : m < 64) : ∀ c, c ≤ 6 → (sbN n cols c).testBit m = (List.range c).any (fun d => bt cols d && !m.testBit d && n.testBit (m ||| 2 ^ d))
  | 0, _ => by rw [sbN]; simp
  | c + 1, h => by
    rw [List.range_succ, List.any_append, ← sbN_bit cols hm c (by omega), sbN]
    by_cases hb : bt cols c = true
    · rw [if_pos hb, Nat.testBit_or, Nat.testBit_and, Nat.testBit_div_two_pow, sw_bit c (by omega) m hm]
      cases e : m.testBit c
      · obtain ⟨e1, -⟩ := sw_or c (by omega) m hm e
        simp [hb, e, e1]
      · simp [hb, e]
    · rw [if_neg hb]; simp [hb]
theorem startsBefore_eq {n : Nat} (hn : n < 2 ^ 64) (cols : Int32) : m_X4_startsBefore (lN n) cols = some (lN (sbN n cols 6)) := by
  unfold m_X4_startsBefore
  refine seq2 (z := 6) (fun c => lN (sbN n cols c)) (fun c => nI c) (by decide) (fun rec => ?_) (fun rec c hc => ?_)
  · unfold m_X4_startsBefore_5; rw [if_pos (by decide)]
  · have g : ¬ (6 : Int32) ≤ nI c := nI_ge (a := c) (b := 6) hc (by decide)
    have i6 : inb (nI c) 6 = true := inb_nI hc (by decide)
    have cl : (nI c).toNatClampNeg = c := nI_clamp (by omega)
    have hl : lushr (lN n) (nI (2 ^ c)) = lN (n / 2 ^ (2 ^ c)) := wb_shr hn (one_shl c hc).2
    have hlt : n / 2 ^ (2 ^ c) < 2 ^ 64 := Nat.lt_of_le_of_lt (Nat.div_le_self _ _) hn
    unfold m_X4_startsBefore_5
    simp only [g, ↓reduceIte, hasBit_eq (show c < 32 by omega), bk1, i6, gd_tt, cl, lt_t, (one_shl c hc).1, hl, (sw_lt c hc).2, nI_1]
    rw [wb_and hlt (sw_lt c hc).1, wb_or (sbN_lt cols c (by omega)) (Nat.lt_of_le_of_lt Nat.and_le_right (sw_lt c hc).1), sbN]
    by_cases hb : bt cols c = true
    · simp only [hb, ↓reduceIte, e10]
    · simp only [hb, ↓reduceIte, Bool.false_eq_true]
def sfN (cw : Nat → Int32) (ch : Int32) : Nat → Nat
  | 0 => 2 ^ 64 - 1
  | s + 1 => if bt ch s = true then sbN (sfN cw ch s) (cw s) 6 else sfN cw ch s
theorem sfN_lt (cw : Nat → Int32) (ch : Int32) : ∀ s, sfN cw ch s < 2 ^ 64
  | 0 => by rw [sfN]; decide
  | s + 1 => by
    rw [sfN]; split
    · exact sbN_lt _ 6 (by decide)
    · exact sfN_lt cw ch s
theorem sfN_bit (cw : Nat → Int32) (ch : Int32) : ∀ s m, m < 64 → (sfN cw ch s).testBit m = wy cw (blk ch s) m
  | 0, m, hm => by
    rw [sfN, show blk ch 0 = [] from rfl, wy, Nat.testBit_two_pow_sub_one]
    simp [hm]
  | s + 1, m, hm => by
    rw [sfN, blk_succ]
    by_cases h : bt ch s = true
    · rw [if_pos h, if_pos h, sbN_bit (cw s) hm 6 (by decide), wy]
      refine any_congr' (fun c hc => ?_)
      have hc : c < 6 := List.mem_range.mp hc
      cases e : m.testBit c
      · obtain ⟨e1, e2⟩ := sw_or c hc m hm e
        rw [sfN_bit cw ch s _ (by rw [← e1]; exact e2)]
      · simp
    · rw [if_neg h, if_neg h, sfN_bit cw ch s m hm]
theorem sbN_zero (cols : Int32) : ∀ c, sbN 0 cols c = 0
  | 0 => rfl
  | c + 1 => by rw [sbN, sbN_zero cols c]; simp
theorem sfN_stays {cw : Nat → Int32} {ch : Int32} {s : Nat} (h : sfN cw ch s = 0) : ∀ k, sfN cw ch (s + k) = 0
  | 0 => h
  | k + 1 => by
    rw [← Nat.add_assoc, sfN, sfN_stays h k]
    split
    · exact sbN_zero _ 6
    · rfl
theorem lN_zero {n : Nat} (h : n < 2 ^ 64) : lg_cmp (lN n) 0 = 0 ↔ n = 0 := by
  unfold lg_cmp
  constructor
  · intro e
    by_cases h1 : lN n > 0
    · rw [if_pos h1] at e; exact absurd e (by decide)
    · rw [if_neg h1] at e
      by_cases h2 : lN n = 0
      · have := congrArg (fun x : Int64 => x.toBitVec.toNat) h2
        simp only [wb_tn h] at this
        exact this
      · rw [if_neg h2] at e; exact absurd e (by decide)
  · rintro rfl; decide
theorem startsFor_eq (cw : Nat → Int32) (ch : Int32) : m_X4_startsFor cw ch = some (lN (sfN cw ch 10)) := by
  have step : ∀ (rec : Int64 → Int32 → Option Int64) (s : Nat), s < 10 → ¬ sfN cw ch s = 0 → m_X4_startsFor_7 cw ch rec (lN (sfN cw ch s)) (nI s) = rec (lN (sfN cw ch (s + 1))) (nI (s + 1)) := by
    intro rec s hs hne
    have g : ¬ (10 : Int32) ≤ nI s := nI_ge (a := s) (b := 10) hs (by decide)
    have i10 : inb (nI s) 10 = true := inb_nI hs (by decide)
    have cl : (nI s).toNatClampNeg = s := nI_clamp (by omega)
    unfold m_X4_startsFor_7
    simp only [g, ↓reduceIte, lN_zero (sfN_lt cw ch s), hne, hasBit_eq (show s < 32 by omega), bk1, i10, gd_tt, cl, lt_t, startsBefore_eq (sfN_lt cw ch s), nI_1]
    rw [sfN]
    by_cases hb : bt ch s = true
    · simp only [hb, ↓reduceIte, e10]
    · simp only [hb, ↓reduceIte, Bool.false_eq_true]
  unfold m_X4_startsFor
  rcases first_or (fun s => sfN cw ch s = 0) 10 with hall | ⟨s, hs, hp, hk⟩
  · exact seq2 (z := 10) (fun s => lN (sfN cw ch s)) (fun s => nI s) (by decide) (fun rec => by unfold m_X4_startsFor_7; rw [if_pos (by decide)]) (fun rec s hs => step rec s hs (hall s hs))
  · refine (seq2 (z := s) (fun s => lN (sfN cw ch s)) (fun s => nI s) (by omega) (fun rec => ?_) (fun rec k hk' => step rec k (by omega) (hk k hk')))
    unfold m_X4_startsFor_7
    have e1 : sfN cw ch 10 = 0 := by
      have := sfN_stays hp (10 - s)
      rwa [show s + (10 - s) = 10 by omega] at this
    have g : ¬ (10 : Int32) ≤ nI s := nI_ge (a := s) (b := 10) hs (by decide)
    simp only [g, ↓reduceIte, (lN_zero (sfN_lt cw ch s)).mpr hp]
    rw [e1, hp]
theorem isStart_eq {n u : Nat} (hn : n < 2 ^ 64) (hu : u < 64) : m_X4_isStart (lN n) (nI u) = some (fl (n.testBit u)) := by
  unfold m_X4_isStart
  have e : lushr (lN n) (nI u) &&& 1 = lN (n / 2 ^ u % 2) := wb_bit hn hu
  have hlt : n / 2 ^ u % 2 < 2 ^ 64 := by omega
  rw [e]
  simp only [lN_zero hlt]
  rw [Nat.testBit_eq_decide_div_mod_eq]
  by_cases h : n / 2 ^ u % 2 = 0
  · simp [h, fl]
  · have h1 : n / 2 ^ u % 2 = 1 := by omega
    simp [h1, fl]
theorem isb_fl (b : Bool) : isb (fl b) = true := by cases b <;> decide
/-- the class's answer: is there a way? -/
theorem hasWayX_eq (cw : Nat → Int32) (ch : Int32) : m_X0_hasWay cw ch = some (fl (wy cw (bl ch) 0)) := by
  unfold m_X0_hasWay
  have e : wy cw (blk ch 10) 0 = wy cw (bl ch) 0 := wy_perm (List.reverse_perm _) 0
  rw [startsFor_eq, bk1, show (0 : Int32) = nI 0 from rfl, isStart_eq (sfN_lt cw ch 10) (by decide), bk1, isb_fl, sfN_bit cw ch 10 0 (by decide), e]
  rfl
