/-! seats: one pupil -/
/-- section i is of subject s in column c and has a seat left -/
def fre (subj col : Nat → Int32) (lf : Nat → Nat) (s c i : Nat) : Prop := subj i = nI s ∧ col i = nI c ∧ 0 < lf i
def isFr (z : Nat) (subj col : Nat → Int32) (lf : Nat → Nat) (s c i : Nat) : Prop := i < z ∧ fre subj col lf s c i ∧ ∀ k, k < i → ¬ fre subj col lf s c k
theorem isFr_of {z : Nat} {subj col : Nat → Int32} {lf : Nat → Nat} {s c : Nat} (h : ∃ i, i < z ∧ fre subj col lf s c i) : ∃ i, isFr z subj col lf s c i := by
  obtain ⟨i0, hi0, h0⟩ := h
  rcases first_or (fun i => fre subj col lf s c i) z with hno | ⟨i, hi, hp, hm⟩
  · exact absurd h0 (hno i0 hi0)
  · exact ⟨i, hi, hp, hm⟩
theorem isFr_uni {z : Nat} {subj col : Nat → Int32} {lf : Nat → Nat} {s c i j : Nat} (h1 : isFr z subj col lf s c i) (h2 : isFr z subj col lf s c j) : i = j := by
  rcases Nat.lt_trichotomy i j with h | h | h
  · exact absurd h1.2.1 (h2.2.2 i h)
  · exact h
  · exact absurd h2.2.1 (h1.2.2 j h)
theorem isFr_iff {z : Nat} {subj col msubj mcol : Nat → Int32} {lf mf : Nat → Nat} {s c : Nat} (h : ∀ i, i < z → (fre subj col lf s c i ↔ fre msubj mcol mf s c i)) {i : Nat} : isFr z subj col lf s c i ↔ isFr z msubj mcol mf s c i := by
  constructor
  · rintro ⟨a, b, d⟩
    exact ⟨a, (h i a).mp b, fun k hk hh => d k hk ((h k (by omega)).mpr hh)⟩
  · rintro ⟨a, b, d⟩
    exact ⟨a, (h i a).mpr b, fun k hk hh => d k hk ((h k (by omega)).mp hh)⟩
def ocX (z : Nat) (subj col : Nat → Int32) (lf : Nat → Nat) (s : Nat) : Int32 := sjF col (fun i => decide (subj i = nI s ∧ ¬ col i = -1 ∧ 0 < lf i)) z
theorem ocX_bit {n z : Nat} (hn : n ≤ 6) {subj col : Nat → Int32} (h : okSC n z subj col) (lf : Nat → Nat) (s : Nat) {c : Nat} (hc : c < 32) : bt (ocX z subj col lf s) c = true ↔ ∃ i, i < z ∧ fre subj col lf s c i := by
  unfold ocX
  rw [sjF_bit hc z (fun i hi hp => by
    rcases (h i hi).2 with e | ⟨d, hd, e⟩
    · exact absurd e (of_decide_eq_true hp).2.1
    · exact ⟨d, by omega, e⟩)]
  constructor
  · rintro ⟨i, hi, h1, h2⟩; exact ⟨i, hi, (of_decide_eq_true h1).1, h2, (of_decide_eq_true h1).2.2⟩
  · rintro ⟨i, hi, h1, h2, h3⟩; exact ⟨i, hi, decide_eq_true ⟨h1, by rw [h2]; exact nI_nm1 (by omega), h3⟩, h2⟩
theorem ocX_hi {n z : Nat} (hn : n ≤ 6) {subj col : Nat → Int32} (h : okSC n z subj col) (lf : Nat → Nat) (s c : Nat) (hc : n ≤ c) : bt (ocX z subj col lf s) c = false := by
  by_cases h32 : c < 32
  · cases e : bt (ocX z subj col lf s) c
    · rfl
    · obtain ⟨i, hi, h1, h2, h3⟩ := (ocX_bit hn h lf s h32).mp e
      rcases (h i hi).2 with g | ⟨d, hd, g⟩
      · rw [g] at h2; exact absurd h2.symm (nI_nm1 (by omega))
      · rw [g] at h2
        have := nI_inj (by omega) (by omega) h2
        omega
  · exact b_big (by omega)
theorem sjF_congr {subj : Nat → Int32} {P Q : Nat → Bool} : ∀ {z : Nat}, (∀ i, i < z → P i = Q i) → sjF subj P z = sjF subj Q z
  | 0, _ => rfl
  | z + 1, h => by rw [sjF, sjF, sjF_congr (fun i hi => h i (by omega)), h z (by omega)]
theorem ocX_congr {z : Nat} {subj col : Nat → Int32} {lf mf : Nat → Nat} {s : Nat} (h : ∀ i, i < z → subj i = nI s → (0 < lf i ↔ 0 < mf i)) : ocX z subj col lf s = ocX z subj col mf s := by
  unfold ocX
  refine sjF_congr (fun i hi => decide_eq_decide.mpr ?_)
  constructor
  · rintro ⟨a, b, d⟩; exact ⟨a, b, (h i hi a).mp d⟩
  · rintro ⟨a, b, d⟩; exact ⟨a, b, (h i hi a).mpr d⟩
/-- the row of left seats, as numbers -/
def okLf (z : Nat) (left : Nat → Int32) (lf : Nat → Nat) : Prop := ∀ i, i < z → left i = nI (lf i) ∧ lf i ≤ 60
theorem okLf.le0 {z : Nat} {left : Nat → Int32} {lf : Nat → Nat} (h : okLf z left lf) {i : Nat} (hi : i < z) : (left i ≤ 0) ↔ lf i = 0 := by
  obtain ⟨h1, h2⟩ := h i hi
  rw [h1, show (0 : Int32) = nI 0 from rfl, nI_leI (by omega) (by decide)]
  omega
theorem columnsLeft_eq {z : Nat} (hz : z ≤ 16) {subj col left : Nat → Int32} {lf : Nat → Nat} (hl : okLf z left lf) (s : Nat) : m_X2_columnsLeft left (nI z) subj col (nI s) = some (ocX z subj col lf s) := by
  unfold m_X2_columnsLeft ocX
  refine seq2 (z := z) (sjF col (fun i => decide (subj i = nI s ∧ ¬ col i = -1 ∧ 0 < lf i))) (fun i => nI i) (by omega) (fun rec => ?_) (fun rec i hi => ?_)
  · unfold m_X2_columnsLeft_5; rw [if_pos (Int32.le_refl _)]
  · have i16 : inb (nI i) 16 = true := inb_nI (by omega) (by decide)
    have cl : (nI i).toNatClampNeg = i := nI_clamp (by omega)
    have h0 := hl.le0 hi
    have h0' : 0 < lf i ↔ ¬ left i ≤ 0 := by rw [h0]; omega
    unfold m_X2_columnsLeft_5
    simp only [nI_ge hi (show z < 2 ^ 31 by omega), ↓reduceIte, i16, gd_tt, cl, lt_t, sjF, nI_1, h0']
    by_cases h : subj i = nI s
    · by_cases h2 : col i = -1
      · simp only [h, h2, ↓reduceIte, not_true_eq_false, and_false, false_and, decide_false, Bool.false_eq_true, b_or0]
      · by_cases h3 : left i ≤ 0
        · simp only [h, h2, h3, ↓reduceIte, not_true_eq_false, and_false, decide_false, Bool.false_eq_true, b_or0]
        · simp only [h, h2, h3, ↓reduceIte, not_false_eq_true, and_self, decide_true]
    · simp only [h, ↓reduceIte, false_and, decide_false, Bool.false_eq_true, b_or0]
theorem takeSeat_eq {z : Nat} (hz : z ≤ 16) {subj col left : Nat → Int32} {lf : Nat → Nat} (hl : okLf z left lf) {s c i : Nat} (h : isFr z subj col lf s c i) (sit : Nat → Int32) (v : Int32) :
    m_X2_takeSeat left sit (nI z) subj col v (nI s) (nI c) = some (upd left i (nI (lf i - 1)), upd sit i (sit i ||| ((1 : Int32) <<< (v &&& 31)))) := by
  obtain ⟨hi, ⟨h1, h2, h3⟩, hm⟩ := h
  unfold m_X2_takeSeat
  refine find1_no (z := i) (by omega) (fun rec => ?_) (fun rec k hk => ?_)
  · have i16 : inb (nI i) 16 = true := inb_nI (by omega) (by decide)
    have cl : (nI i).toNatClampNeg = i := nI_clamp (by omega)
    have h0 : ¬ left i ≤ 0 := by rw [hl.le0 hi]; omega
    have hs : left i - 1 = nI (lf i - 1) := by
      rw [(hl i hi).1]
      obtain ⟨q, hq⟩ : ∃ q, lf i = q + 1 := ⟨lf i - 1, by omega⟩
      rw [hq, nI_pred, Nat.add_sub_cancel]
    unfold m_X2_takeSeat_3 m_X2_takeSeat_45
    simp only [nI_ge hi (show z < 2 ^ 31 by omega), ↓reduceIte, i16, gd_tt, cl, h1, h2, h0, hs]
  · have i16 : inb (nI k) 16 = true := inb_nI (by omega) (by decide)
    have cl : (nI k).toNatClampNeg = k := nI_clamp (by omega)
    have hkz : k < z := by omega
    have hn := hm k hk
    have h0 := hl.le0 hkz
    unfold m_X2_takeSeat_3
    simp only [nI_ge hkz (show z < 2 ^ 31 by omega), ↓reduceIte, i16, gd_tt, cl, lt_t]
    by_cases k1 : subj k = nI s
    · by_cases k2 : col k = nI c
      · have k3 : left k ≤ 0 := by
          rw [h0]
          rcases Nat.eq_zero_or_pos (lf k) with e | e
          · exact e
          · exact absurd ⟨k1, k2, e⟩ hn
        simp only [k1, k2, k3, ↓reduceIte]
      · simp only [k1, k2, ↓reduceIte]
    · simp only [k1, ↓reduceIte]
theorem freeIn_some {z : Nat} (hz : z ≤ 16) {subj col left : Nat → Int32} {lf : Nat → Nat} (hl : okLf z left lf) {s c i : Nat} (h : isFr z subj col lf s c i) : m_X6_freeIn (nI z) subj col left (nI s) (nI c) = some (nI i) := by
  obtain ⟨hi, ⟨h1, h2, h3⟩, hm⟩ := h
  unfold m_X6_freeIn
  refine find1_no (z := i) (by omega) (fun rec => ?_) (fun rec k hk => ?_)
  · have i17 : inb (nI i) 17 = true := inb_nI (by omega) (by decide)
    have cl : (nI i).toNatClampNeg = i := nI_clamp (by omega)
    have h0 : ¬ left i ≤ 0 := by rw [hl.le0 hi]; omega
    unfold m_X6_freeIn_2
    simp only [nI_ge hi (show z < 2 ^ 31 by omega), ↓reduceIte, i17, gd_tt, cl, h1, h2, h0]
  · have i17 : inb (nI k) 17 = true := inb_nI (by omega) (by decide)
    have cl : (nI k).toNatClampNeg = k := nI_clamp (by omega)
    have hkz : k < z := by omega
    have hn := hm k hk
    have h0 := hl.le0 hkz
    unfold m_X6_freeIn_2
    simp only [nI_ge hkz (show z < 2 ^ 31 by omega), ↓reduceIte, i17, gd_tt, cl, lt_t]
    by_cases k1 : subj k = nI s
    · by_cases k2 : col k = nI c
      · have k3 : left k ≤ 0 := by
          rw [h0]
          rcases Nat.eq_zero_or_pos (lf k) with e | e
          · exact e
          · exact absurd ⟨k1, k2, e⟩ hn
        simp only [k1, k2, k3, ↓reduceIte]
      · simp only [k1, k2, ↓reduceIte]
    · simp only [k1, ↓reduceIte]
theorem freeIn_none {z : Nat} (hz : z ≤ 16) {subj col left : Nat → Int32} {lf : Nat → Nat} (hl : okLf z left lf) {s c : Nat} (h : ∀ i, i < z → ¬ fre subj col lf s c i) : m_X6_freeIn (nI z) subj col left (nI s) (nI c) = some (-1) := by
  unfold m_X6_freeIn
  refine find1_no (z := z) (by omega) (fun rec => ?_) (fun rec k hkz => ?_)
  · unfold m_X6_freeIn_2; rw [if_pos (Int32.le_refl _)]
  · have i17 : inb (nI k) 17 = true := inb_nI (by omega) (by decide)
    have cl : (nI k).toNatClampNeg = k := nI_clamp (by omega)
    have hn := h k hkz
    have h0 := hl.le0 hkz
    unfold m_X6_freeIn_2
    simp only [nI_ge hkz (show z < 2 ^ 31 by omega), ↓reduceIte, i17, gd_tt, cl, lt_t]
    by_cases k1 : subj k = nI s
    · by_cases k2 : col k = nI c
      · have k3 : left k ≤ 0 := by
          rw [h0]
          rcases Nat.eq_zero_or_pos (lf k) with e | e
          · exact e
          · exact absurd ⟨k1, k2, e⟩ hn
        simp only [k1, k2, k3, ↓reduceIte]
      · simp only [k1, k2, ↓reduceIte]
    · simp only [k1, ↓reduceIte]
/-- the sections in which the seats are taken -/
def isTk (z : Nat) (subj col : Nat → Int32) (lf : Nat → Nat) : List Nat → List Nat → List Nat → Prop
  | [], _, I => I = []
  | s :: S, L, I => ∃ c L' i I', L = c :: L' ∧ I = i :: I' ∧ isFr z subj col lf s c i ∧ isTk z subj col lf S L' I'
theorem isTk_uni {z : Nat} {subj col : Nat → Int32} {lf : Nat → Nat} : ∀ {S L I J : List Nat}, isTk z subj col lf S L I → isTk z subj col lf S L J → I = J
  | [], _, I, J, h1, h2 => by
    have h1 : I = [] := h1
    have h2 : J = [] := h2
    rw [h1, h2]
  | s :: S, L, I, J, h1, h2 => by
    obtain ⟨c, L', i, I', rfl, rfl, a1, a2⟩ := h1
    obtain ⟨d, M', j, J', e, rfl, b1, b2⟩ := h2
    obtain ⟨rfl, rfl⟩ := List.cons.inj e
    rw [isFr_uni a1 b1, isTk_uni a2 b2]
theorem isTk_conv {z : Nat} {subj col msubj mcol : Nat → Int32} {lf mf : Nat → Nat} : ∀ {S L I : List Nat}, (∀ s ∈ S, ∀ c ∈ L, ∀ i, i < z → (fre subj col lf s c i ↔ fre msubj mcol mf s c i)) → isTk z subj col lf S L I → isTk z msubj mcol mf S L I
  | [], _, _, _, h => h
  | s :: S, L, I, he, h => by
    obtain ⟨c, L', i, I', rfl, rfl, a1, a2⟩ := h
    exact ⟨c, L', i, I', rfl, rfl, (isFr_iff (fun k hk => he s List.mem_cons_self c List.mem_cons_self k hk)).mp a1, isTk_conv (fun s' hs' c' hc' => he s' (List.mem_cons_of_mem _ hs') c' (List.mem_cons_of_mem _ hc')) a2⟩
theorem isTk_mem {z : Nat} {subj col : Nat → Int32} {lf : Nat → Nat} : ∀ {S L I : List Nat}, isTk z subj col lf S L I → ∀ i ∈ I, i < z ∧ 0 < lf i ∧ ∃ s, s ∈ S ∧ subj i = nI s
  | [], _, I, h, i, hi => by
    have h : I = [] := h
    subst h
    cases hi
  | s :: S, L, I, h, i, hi => by
    obtain ⟨c, L', i', I', rfl, rfl, a1, a2⟩ := h
    rcases List.mem_cons.mp hi with e | e
    · subst e
      exact ⟨a1.1, a1.2.1.2.2, s, List.mem_cons_self, a1.2.1.1⟩
    · obtain ⟨k1, k2, s', k3, k4⟩ := isTk_mem a2 i e
      exact ⟨k1, k2, s', List.mem_cons_of_mem _ k3, k4⟩
def mskL : List Nat → Int32
  | [] => 0
  | i :: I => mskL I ||| ((1 : Int32) <<< (nI i &&& 31))
theorem mskL_bt : ∀ {I : List Nat}, (∀ i ∈ I, i < 32) → ∀ q, q < 32 → bt (mskL I) q = decide (q ∈ I)
  | [], _, q, _ => by rw [mskL, b_0]; simp
  | i :: I, h, q, hq => by
    rw [mskL, b_or, mskL_bt (fun k hk => h k (List.mem_cons_of_mem _ hk)) q hq, p_bit (h i List.mem_cons_self) hq]
    by_cases e : q = i
    · subst e; simp
    · simp [e]
theorem mskL_ne {I : List Nat} (h : ∀ i ∈ I, i < 16) : ¬ mskL I = -1 := by
  intro e
  have h1 := mskL_bt (fun i hi => Nat.lt_trans (h i hi) (by decide)) 31 (by decide)
  rw [e, b_m1 31 (by decide)] at h1
  exact absurd (h 31 (of_decide_eq_true h1.symm)) (by decide)
theorem mskL_pos {I : List Nat} (h : ∀ i ∈ I, i < 16) : (if (0 : Int32) < mskL I then mskL I else 0) = mskL I := by
  have hb : ∀ i, 16 ≤ i → bt (mskL I) i = false := fun i hi => by
    by_cases h32 : i < 32
    · rw [mskL_bt (fun k hk => Nat.lt_trans (h k hk) (by decide)) i h32]
      refine decide_eq_false (fun hm => ?_)
      have := h i hm
      omega
    · exact b_big (by omega)
  obtain ⟨q, hq, e⟩ := small_of (k := 16) (by decide) hb
  rw [e]
  by_cases hq0 : q = 0
  · subst hq0; rfl
  · rw [if_pos]
    rw [show (0 : Int32) = nI 0 from rfl]
    exact nI_lt (by omega) (by omega)
/-- the reference's seats of one pupil -/
theorem seatsWayM {n z : Nat} (hn : n ≤ 6) (hz : z ≤ 16) {subj col left : Nat → Int32} {lf : Nat → Nat} (hl : okLf z left lf) {oc : Nat → Int32} (hoc : ∀ s, s < 10 → ∀ c, c < 6 → (bt (oc s) c = true ↔ ∃ i, i < z ∧ fre subj col lf s c i)) (hocn : ∀ s, s < 10 → ∀ c, n ≤ c → bt (oc s) c = false) :
    ∀ (dd b u : Nat), b < 1024 → u < 64 → (blN b).length < dd →
    (wy oc (blN b) u = false → m_X6_seatsWay dd (nI n) (nI z) subj col left (nI b) (nI u) = some (-1)) ∧
    (wy oc (blN b) u = true → ∃ L I, isFW oc (blN b) u L ∧ isTk z subj col lf (blN b) L I ∧ m_X6_seatsWay dd (nI n) (nI z) subj col left (nI b) (nI u) = some (mskL I)) := by
  intro dd
  induction dd with
  | zero => intro b u _ _ h; exact absurd h (by omega)
  | succ dd ih =>
    intro b u hb hu hlen
    have s1 : m_X6_seatsWay (dd + 1) (nI n) (nI z) subj col left (nI b) (nI u) = m_X6_seatsWay_B (it7 m_X6_seatsWay_B dd) (nI n) (nI z) subj col left (nI b) (nI u) := rfl
    rw [s1]
    have hIH : ∀ (b u : Nat), b < 1024 → u < 64 → (blN b).length < dd → (wy oc (blN b) u = false → it7 m_X6_seatsWay_B dd (nI n) (nI z) subj col left (nI b) (nI u) = some (-1)) ∧ (wy oc (blN b) u = true → ∃ L I, isFW oc (blN b) u L ∧ isTk z subj col lf (blN b) L I ∧ it7 m_X6_seatsWay_B dd (nI n) (nI z) subj col left (nI b) (nI u) = some (mskL I)) := ih
    generalize it7 m_X6_seatsWay_B dd = self at hIH
    unfold m_X6_seatsWay_B
    cases h : blN b with
    | nil =>
      have := blN_nil hb h
      subst this
      rw [if_pos nI_0]
      exact ⟨fun e => (by cases e), fun _ => ⟨[], [], rfl, rfl, rfl⟩⟩
    | cons s S =>
      obtain ⟨h1, h2, h3, h4⟩ := blN_cons hb h
      have hne : ¬ nI b = 0 := by
        rw [nI_zero (by omega)]
        rintro rfl
        cases h
      have hlS : S.length < dd := by rw [h] at hlen; simp at hlen; omega
      have hlt : b &&& (b - 1) < 1024 := Nat.lt_of_le_of_lt Nat.and_le_left hb
      rw [if_neg hne, h1, bk1]
      have hself := fun c (hc : c < 6) => hIH (b &&& (b - 1)) (u ||| 2 ^ c) hlt (or_lt64 hu hc) (by rw [h3]; exact hlS)
      rw [h3] at hself
      have hbu : ∀ c, c < 6 → bt (nI u) c = u.testBit c := fun c hc => by
        rw [p_nbit]
        have : c < 32 := by omega
        simp [this]
      have e43 : ∀ (rec : Int32 → Option Int32) (c : Nat), m_X6_seatsWay_43 (nI n) (nI z) subj col left (nI b) (nI u) (nI c) (-1) self rec = rec (nI c + 1) := by
        intro rec c
        unfold m_X6_seatsWay_43
        rw [if_pos rfl, lt_t]
      have no : ∀ (rec : Int32 → Option Int32) (c : Nat), c < n → ¬ (bt (oc s) c = true ∧ u.testBit c = false ∧ wy oc S (u ||| 2 ^ c) = true) → m_X6_seatsWay_14 (nI n) (nI z) subj col left (nI b) (nI u) (nI s) self rec (nI c) = rec (nI c + 1) := by
        intro rec c hc hP
        have hc6 : c < 6 := by omega
        unfold m_X6_seatsWay_14
        rw [if_neg (nI_ge hc (by omega)), has_eq (by omega), bk1, hbu c hc6]
        by_cases hut : u.testBit c = true
        · rw [if_pos hut, if_neg (by decide), e43]
        · rw [if_neg hut, if_pos rfl]
          by_cases hbo : bt (oc s) c = true
          · obtain ⟨i, hi⟩ := isFr_of ((hoc s h4 c hc6).mp hbo)
            have hw : wy oc S (u ||| 2 ^ c) = false := by
              cases e : wy oc S (u ||| 2 ^ c)
              · rfl
              · exact absurd ⟨hbo, by simpa using hut, e⟩ hP
            have hsf := (hself c hc6).1 hw
            rw [freeIn_some hz hl hi, bk1]
            unfold m_X6_seatsWay_43
            rw [if_neg (nI_nm1 (by have := hi.1; omega)), (one_shl c hc6).1, h2, p_lor, hsf, bk1, if_pos rfl, lt_t]
          · rw [freeIn_none hz hl (fun i hi hf => hbo ((hoc s h4 c hc6).mpr ⟨i, hi, hf⟩)), bk1, e43]
      rcases first_or (fun c => bt (oc s) c = true ∧ u.testBit c = false ∧ wy oc S (u ||| 2 ^ c) = true) n with hno | ⟨c, hc, ⟨p1, p2, p3⟩, hmin⟩
      · have hw : wy oc (s :: S) u = false := by
          cases e : wy oc (s :: S) u
          · rfl
          · obtain ⟨c, hc, a1, a2, a3⟩ := (wy_iff oc s S u).mp e
            have hcn : c < n := by
              rcases Nat.lt_or_ge c n with hh | hh
              · exact hh
              · rw [hocn s h4 c hh] at a1; cases a1
            exact absurd ⟨a1, a2, a3⟩ (hno c hcn)
        refine ⟨fun _ => ?_, fun e => by rw [hw] at e; cases e⟩
        refine find1_no (z := n) (by omega) (fun rec => ?_) (fun rec c hc => no rec c hc (hno c hc))
        unfold m_X6_seatsWay_14
        rw [if_pos (Int32.le_refl _)]
      · have hc6 : c < 6 := by omega
        have hw : wy oc (s :: S) u = true := (wy_iff oc s S u).mpr ⟨c, hc6, p1, p2, p3⟩
        refine ⟨fun e => (by rw [hw] at e; cases e), fun _ => ?_⟩
        obtain ⟨L, I, g1, g2, g3⟩ := (hself c hc6).2 p3
        obtain ⟨i, hi⟩ := isFr_of ((hoc s h4 c hc6).mp p1)
        refine ⟨c :: L, i :: I, ⟨c, L, rfl, hc6, p1, p2, p3, hmin, g1⟩, ⟨c, L, i, I, rfl, rfl, hi, g2⟩, ?_⟩
        refine find1_no (z := c) (by omega) (fun rec => ?_) (fun rec k hk => no rec k (by omega) (hmin k hk))
        unfold m_X6_seatsWay_14
        rw [if_neg (nI_ge hc (by omega)), has_eq (by omega), bk1, hbu c hc6, if_neg (show ¬ u.testBit c = true by rw [p2]; decide), if_pos rfl, freeIn_some hz hl hi, bk1]
        unfold m_X6_seatsWay_43
        rw [if_neg (nI_nm1 (by have := hi.1; omega)), (one_shl c hc6).1, h2, p_lor, g3, bk1, if_neg (mskL_ne (fun q hq => by have := (isTk_mem g2 q hq).1; omega)), mskL]
