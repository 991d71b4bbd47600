/-! ways, as the reference finds them -/
def blN (b : Nat) : List Nat := (List.range 10).filter (fun s => b.testBit s)
def bl6 (f : Nat) : List Nat := (List.range 6).filter (fun c => f.testBit c)
def chkB (b : Nat) : Bool := match blN b with
  | [] => b == 0
  | s :: S => decide (m_J6_numberOfTrailingZeros_0f7a4 (nI b) = some (nI s)) && decide (nI b &&& (nI b - 1) = nI (b &&& (b - 1))) && decide (blN (b &&& (b - 1)) = S) && decide (s < 10)
theorem tabB : (List.range 1024).all chkB = true := by decide +kernel
def chkF (f : Nat) : Bool := match bl6 f with
  | [] => f == 0
  | c :: C => decide (nI f &&& (-nI f) = nI (2 ^ c)) && decide (nI f &&& (nI f - 1) = nI (f &&& (f - 1))) && decide (bl6 (f &&& (f - 1)) = C) && decide (c < 6) && decide (f &&& (f - 1) < f)
theorem tabF : (List.range 64).all chkF = true := by decide +kernel
theorem blN_cons {b s : Nat} {S : List Nat} (hb : b < 1024) (h : blN b = s :: S) : m_J6_numberOfTrailingZeros_0f7a4 (nI b) = some (nI s) ∧ nI b &&& (nI b - 1) = nI (b &&& (b - 1)) ∧ blN (b &&& (b - 1)) = S ∧ s < 10 := by
  have := List.all_eq_true.mp tabB b (List.mem_range.mpr hb)
  unfold chkB at this
  rw [h] at this
  simp only [Bool.and_eq_true, decide_eq_true_eq] at this
  exact ⟨this.1.1.1, this.1.1.2, this.1.2, this.2⟩
theorem blN_nil {b : Nat} (hb : b < 1024) (h : blN b = []) : b = 0 := by
  have := List.all_eq_true.mp tabB b (List.mem_range.mpr hb)
  unfold chkB at this
  rw [h] at this
  simpa using this
theorem bl6_cons {f c : Nat} {C : List Nat} (hf : f < 64) (h : bl6 f = c :: C) : nI f &&& (-nI f) = nI (2 ^ c) ∧ nI f &&& (nI f - 1) = nI (f &&& (f - 1)) ∧ bl6 (f &&& (f - 1)) = C ∧ c < 6 ∧ f &&& (f - 1) < f := by
  have := List.all_eq_true.mp tabF f (List.mem_range.mpr hf)
  unfold chkF at this
  rw [h] at this
  simp only [Bool.and_eq_true, decide_eq_true_eq] at this
  exact ⟨this.1.1.1.1, this.1.1.1.2, this.1.1.2, this.1.2, this.2⟩
theorem bl6_nil {f : Nat} (hf : f < 64) (h : bl6 f = []) : f = 0 := by
  have := List.all_eq_true.mp tabF f (List.mem_range.mpr hf)
  unfold chkF at this
  rw [h] at this
  simpa using this
theorem bl_nI (b : Nat) : bl (nI b) = blN b := by
  unfold bl blN
  refine List.filter_congr (fun s hs => ?_)
  have : s < 10 := List.mem_range.mp hs
  rw [p_nbit]
  have h : s < 32 := by omega
  simp [h]
theorem p_lor (a b : Nat) : nI a ||| nI b = nI (a ||| b) := by
  refine b_ext (fun i hi => ?_)
  rw [b_or, p_nbit, p_nbit, p_nbit, Nat.testBit_or]
  simp [hi]
theorem nI_zero {f : Nat} (hf : f < 2 ^ 31) : nI f = 0 ↔ f = 0 := nI_eq (b := 0) hf (by decide)
theorem hwloop {W : Nat → Bool} {op : Nat → Int32} {v1 v2 : Int32} {self : (Nat → Int32) → Int32 → Int32 → Option Int32} (hself : ∀ c, c < 6 → self op (v1 &&& (v1 - 1)) (v2 ||| nI (2 ^ c)) = some (fl (W c))) :
    ∀ (f : Nat), f < 64 → ∀ fuel, f < fuel → it1 (m_X6_hasWay_23 op v1 v2 self) fuel (nI f) = some (fl ((bl6 f).any W)) := by
  intro f
  induction f using Nat.strongRecOn with
  | _ f ih =>
    intro hf fuel hfu
    cases fuel with
    | zero => exact absurd hfu (by omega)
    | succ fuel =>
      show m_X6_hasWay_23 op v1 v2 self (it1 (m_X6_hasWay_23 op v1 v2 self) fuel) (nI f) = _
      generalize hr : it1 (m_X6_hasWay_23 op v1 v2 self) fuel = rec
      unfold m_X6_hasWay_23
      cases h : bl6 f with
      | nil =>
        have := bl6_nil hf h
        subst this
        rw [if_pos nI_0]; rfl
      | cons c C =>
        obtain ⟨h1, h2, h3, h4, h5⟩ := bl6_cons hf h
        have hne : ¬ nI f = 0 := by
          rw [nI_zero (by omega)]
          rintro rfl
          cases h
        rw [if_neg hne, h1, hself c h4, bk1, lt_t, h2]
        have hh := ih (f &&& (f - 1)) h5 (by omega) fuel (by omega)
        rw [hr] at hh
        cases e : W c
        · simp only [fl, Bool.false_eq_true, ↓reduceIte, List.any_cons, e, Bool.false_or]
          rw [hh, h3]; rfl
        · simp only [fl, ↓reduceIte, List.any_cons, e, Bool.true_or, e10]
theorem wy_bl6 {op : Nat → Int32} {s u f : Nat} {S : List Nat} (hf : ∀ c, c < 6 → f.testBit c = (bt (op s) c && !u.testBit c)) : (bl6 f).any (fun c => wy op S (u ||| 2 ^ c)) = wy op (s :: S) u := by
  unfold bl6
  rw [List.any_filter, wy]
  refine any_congr' (fun c hc => ?_)
  rw [hf c (List.mem_range.mp hc)]
/-- columns are 0 .. 5 -/
def small6 (cw : Nat → Int32) : Prop := ∀ s, s < 10 → ∀ c, 6 ≤ c → bt (cw s) c = false
theorem or_lt64 {u c : Nat} (hu : u < 64) (hc : c < 6) : u ||| 2 ^ c < 64 := Nat.or_lt_two_pow (n := 6) hu (Nat.pow_lt_pow_right (by decide) hc)
theorem free_eq {op : Nat → Int32} (ho : small6 op) {s u : Nat} (hs : s < 10) (hu : u < 64) : ∃ f, f < 64 ∧ op s &&& (nI u ^^^ (-1)) = nI f ∧ ∀ c, c < 6 → f.testBit c = (bt (op s) c && !u.testBit c) := by
  obtain ⟨f, hf, e⟩ := small_of (x := op s &&& (nI u ^^^ (-1))) (k := 6) (by decide) (fun i hi => by rw [b_and, ho s hs i hi]; rfl)
  refine ⟨f, hf, e, fun c hc => ?_⟩
  have h : bt (nI f) c = bt (op s &&& (nI u ^^^ (-1))) c := by rw [e]
  rw [b_and, p_not _ (by omega), p_nbit, p_nbit] at h
  have h32 : c < 32 := by omega
  simpa [h32] using h
theorem hasWayM_eq {op : Nat → Int32} (ho : small6 op) : ∀ (dd b u : Nat), b < 1024 → u < 64 → (blN b).length < dd → m_X6_hasWay dd op (nI b) (nI u) = some (fl (wy op (blN b) u)) := by
  intro dd
  induction dd with
  | zero => intro b u _ _ h; exact absurd h (by omega)
  | succ dd ih =>
    intro b u hb hu hlen
    show m_X6_hasWay_B (it3 m_X6_hasWay_B dd) op (nI b) (nI u) = _
    generalize hr : it3 m_X6_hasWay_B dd = self
    unfold m_X6_hasWay_B
    cases h : blN b with
    | nil =>
      have := blN_nil hb h
      subst this
      rw [if_pos nI_0]; rfl
    | cons s S =>
      obtain ⟨h1, h2, h3, h4⟩ := blN_cons hb h
      have hne : ¬ nI b = 0 := by
        rw [nI_zero (by omega)]
        rintro rfl
        cases h
      obtain ⟨f, hf, hfe, hfb⟩ := free_eq ho h4 hu
      rw [if_neg hne, h1, bk1, gd_t (inb_nI h4 (by decide)), lt_t, nI_clamp (by omega), hfe]
      have hl : S.length < dd := by rw [h] at hlen; simp at hlen; omega
      have hself : ∀ c, c < 6 → self op (nI b &&& (nI b - 1)) (nI u ||| nI (2 ^ c)) = some (fl (wy op S (u ||| 2 ^ c))) := by
        intro c hc
        rw [← hr]
        have hlt : b &&& (b - 1) < 1024 := Nat.lt_of_le_of_lt Nat.and_le_left hb
        have := ih (b &&& (b - 1)) (u ||| 2 ^ c) hlt (or_lt64 hu hc) (by rw [h3]; exact hl)
        rw [h3] at this
        rw [h2, p_lor]; exact this
      rw [hwloop hself f hf 1100 (by omega), wy_bl6 hfb]
/-! the reference's open rows -/
def loZ (o : Nat → Int32) (i : Nat) : Nat → Int32 := fun s => if s < i then 0 else o s
def loN (subj col : Nat → Int32) (o : Nat → Int32) : Nat → (Nat → Int32)
  | 0 => o
  | i + 1 => upd (loN subj col o i) (subj i).toNatClampNeg ((loN subj col o i (subj i).toNatClampNeg) ||| (if col i < 0 then 0 else (1 : Int32) <<< (col i &&& 31)))
theorem laysOpen_eq {z : Nat} (hz : z ≤ 17) {subj col : Nat → Int32} (hs : ∀ i, i < z → ∃ a : Nat, a < 10 ∧ subj i = nI a) (o : Nat → Int32) : m_X6_laysOpen (nI z) subj col o = some (loN subj col (loZ o 10) z) := by
  unfold m_X6_laysOpen
  have h0 : loZ o 0 = o := by funext s; unfold loZ; rw [if_neg (by omega)]
  rw [show o = loZ o 0 from h0.symm, show loZ (loZ o 0) 10 = loZ o 10 by rw [h0]]
  refine seq2 (z := 10) (fun i => nI i) (fun i => loZ o i) (by decide) (fun rec => ?_) (fun rec i hi => ?_)
  · unfold m_X6_laysOpen_2
    rw [if_pos (by decide)]
    refine seq2 (z := z) (fun i => nI i) (fun i => loN subj col (loZ o 10) i) (by omega) (fun rec => ?_) (fun rec i hi => ?_)
    · unfold m_X6_laysOpen_23; rw [if_pos (Int32.le_refl _)]
    · obtain ⟨a, ha, e⟩ := hs i hi
      have i17 : inb (nI i) 17 = true := inb_nI (by omega) (by decide)
      have cl : (nI i).toNatClampNeg = i := nI_clamp (by omega)
      have a10 : inb (nI a) 10 = true := inb_nI ha (by decide)
      have cla : (nI a).toNatClampNeg = a := nI_clamp (by omega)
      unfold m_X6_laysOpen_23 m_X6_laysOpen_64
      simp only [nI_ge hi (show z < 2 ^ 31 by omega), ↓reduceIte, i17, gd_tt, cl, e, a10, cla, lt_t, nI_1, loN]
      by_cases h : col i < 0
      · simp only [h, ↓reduceIte]
      · simp only [h, ↓reduceIte]
  · have g : ¬ (10 : Int32) ≤ nI i := nI_ge (a := i) (b := 10) hi (by decide)
    have i10 : inb (nI i) 10 = true := inb_nI hi (by decide)
    have cl : (nI i).toNatClampNeg = i := nI_clamp (by omega)
    unfold m_X6_laysOpen_2
    simp only [g, ↓reduceIte, i10, gd_tt, cl, lt_t, nI_1]
    congr 1
    funext s
    unfold upd loZ
    by_cases e : s = i
    · subst e; rw [if_pos rfl, if_pos (by omega)]
    · rw [if_neg e]
      by_cases h : s < i
      · rw [if_pos h, if_pos (by omega)]
      · rw [if_neg h, if_neg (by omega)]
theorem nI_neg {c : Nat} (h : c < 2 ^ 31) : ¬ nI c < 0 := nI_pos h
/-- sections with columns 0 .. n - 1 or out (-2) -/
theorem loN_bit {z n : Nat} (hn : n ≤ 6) {subj col : Nat → Int32} (hs : ∀ i, i < z → ∃ a : Nat, a < 10 ∧ subj i = nI a) (hc : ∀ i, i < z → col i = -2 ∨ ∃ c : Nat, c < n ∧ col i = nI c) (o : Nat → Int32) :
    ∀ k, k ≤ z → ∀ s, s < 10 → ∀ c, c < 32 → (bt (loN subj col (loZ o 10) k s) c = true ↔ ∃ i, i < k ∧ subj i = nI s ∧ col i = nI c)
  | 0, _, s, hs', c, hc' => by
    rw [loN]
    unfold loZ
    rw [if_pos hs', b_0]
    constructor
    · intro h; cases h
    · rintro ⟨i, hi, -⟩; exact absurd hi (by omega)
  | k + 1, hk, s, hs', c, hc' => by
    obtain ⟨a, ha, e⟩ := hs k (by omega)
    have cla : (nI a).toNatClampNeg = a := nI_clamp (by omega)
    have ih := loN_bit hn hs hc o k (by omega) s hs' c hc'
    rw [loN, e, cla]
    by_cases es : s = a
    · subst es
      rw [upd_s, b_or, Bool.or_eq_true, ih]
      rcases hc k (by omega) with h | ⟨d, hd, h⟩
      · rw [h, if_pos (by decide), b_0]
        constructor
        · rintro (⟨i, hi, h1, h2⟩ | h1)
          · exact ⟨i, by omega, h1, h2⟩
          · cases h1
        · rintro ⟨i, hi, h1, h2⟩
          by_cases ei : i = k
          · subst ei; rw [h] at h2; exact absurd h2.symm (nI_nm2 (by omega))
          · exact Or.inl ⟨i, by omega, h1, h2⟩
      · rw [h, if_neg (nI_neg (by omega)), p_bit (by omega) hc']
        constructor
        · rintro (⟨i, hi, h1, h2⟩ | h1)
          · exact ⟨i, by omega, h1, h2⟩
          · have : c = d := of_decide_eq_true h1
            subst this
            exact ⟨k, by omega, e, h⟩
        · rintro ⟨i, hi, h1, h2⟩
          by_cases ei : i = k
          · subst ei
            rw [h] at h2
            exact Or.inr (decide_eq_true (nI_inj (by omega) (by omega) h2).symm)
          · exact Or.inl ⟨i, by omega, h1, h2⟩
    · rw [upd_n es, ih]
      constructor
      · rintro ⟨i, hi, h1, h2⟩; exact ⟨i, by omega, h1, h2⟩
      · rintro ⟨i, hi, h1, h2⟩
        by_cases ei : i = k
        · subst ei
          rw [e] at h1
          exact absurd (nI_inj (by omega) (by omega) h1).symm es
        · exact ⟨i, by omega, h1, h2⟩
theorem loN_small {z n : Nat} (hn : n ≤ 6) {subj col : Nat → Int32} (hs : ∀ i, i < z → ∃ a : Nat, a < 10 ∧ subj i = nI a) (hc : ∀ i, i < z → col i = -2 ∨ ∃ c : Nat, c < n ∧ col i = nI c) (o : Nat → Int32) : small6 (loN subj col (loZ o 10) z) := by
  intro s hs' c hc'
  by_cases h32 : c < 32
  · cases e : bt (loN subj col (loZ o 10) z s) c
    · rfl
    · obtain ⟨i, hi, h1, h2⟩ := (loN_bit hn hs hc o z (Nat.le_refl z) s hs' c h32).mp e
      rcases hc i hi with h | ⟨d, hd, h⟩
      · rw [h] at h2; exact absurd h2.symm (nI_nm2 (by omega))
      · rw [h] at h2
        have := nI_inj (by omega) (by omega) h2
        omega
  · exact b_big (by omega)
