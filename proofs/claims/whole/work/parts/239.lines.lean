/-! the lines of a desk's text -/
/-! who has been told of -/
def tlA (acc : Int32) (teach : Nat → Int32) : Nat → Int32
  | 0 => acc
  | i + 1 => tlA acc teach i ||| ((1 : Int32) <<< (teach i &&& 31))
theorem tlA_bit {acc : Int32} {teach : Nat → Int32} {d : Nat} (hd : d < 32) : ∀ z, (∀ i, i < z → ∃ t : Nat, t < 10 ∧ teach i = nI t) → (bt (tlA acc teach z) d = true ↔ bt acc d = true ∨ ∃ i, i < z ∧ teach i = nI d)
  | 0, _ => by
    rw [tlA]
    exact ⟨Or.inl, fun h => by
      rcases h with h | ⟨i, hi, _⟩
      · exact h
      · exact absurd hi (by omega)⟩
  | z + 1, h => by
    obtain ⟨t, ht, e⟩ := h z (by omega)
    rw [tlA, b_or, Bool.or_eq_true, tlA_bit hd z (fun i hi => h i (by omega)), e, p_bit (by omega) hd]
    constructor
    · rintro ((h1 | ⟨i, hi, h2⟩) | h3)
      · exact Or.inl h1
      · exact Or.inr ⟨i, by omega, h2⟩
      · have : d = t := of_decide_eq_true h3
        exact Or.inr ⟨z, by omega, by rw [e, this]⟩
    · rintro (h1 | ⟨i, hi, h2⟩)
      · exact Or.inl (Or.inl h1)
      · by_cases ei : i = z
        · subst ei
          rw [e] at h2
          have := nI_inj (by omega) (by omega) h2
          exact Or.inr (decide_eq_true this.symm)
        · exact Or.inl (Or.inr ⟨i, by omega, h2⟩)
theorem told_eq {z : Nat} (hz : z ≤ 16) (bars teach : Nat → Int32) : m_X0_teachersTold (nI z) bars teach = some (tlA (msk (fun t => decide (¬ bars t = 0)) 10) teach z) := by
  unfold m_X0_teachersTold
  have inner : ∀ acc : Int32, it2 (m_X0_teachersTold_37 (nI z) teach) 1100 acc 0 = some (tlA acc teach z) := by
    intro acc
    refine seq2 (z := z) (fun i => tlA acc teach i) (fun i => nI i) (by omega) (fun rec => ?_) (fun rec i hi => ?_)
    · unfold m_X0_teachersTold_37; rw [if_pos (Int32.le_refl _)]
    · have i16 : inb (nI i) 16 = true := inb_nI (by omega) (by decide)
      have cl : (nI i).toNatClampNeg = i := nI_clamp (by omega)
      unfold m_X0_teachersTold_37
      rw [if_neg (nI_ge hi (by omega)), i16, gd_tt, lt_t, lt_t, nI_1, cl, tlA]
  obtain ⟨Z, hZ⟩ : ∃ Z : Nat, Z = 10 := ⟨_, rfl⟩
  have main : it2 (m_X0_teachersTold_4 (nI z) bars teach) 1100 0 0 = some (tlA (msk (fun t => decide (¬ bars t = 0)) Z) teach z) := by
    refine mask_loop0 (E := fun x => some (tlA x teach z)) (by omega) (fun rec acc => ?_) (fun rec i hi acc => ?_)
    · unfold m_X0_teachersTold_4
      rw [hZ, if_pos (by decide), inner]
    · have i10 : inb (nI i) 10 = true := inb_nI (by omega) (by decide)
      have cl : (nI i).toNatClampNeg = i := nI_clamp (by omega)
      have g : ¬ (10 : Int32) ≤ nI i := nI_ge (a := i) (b := 10) (by omega) (by decide)
      unfold m_X0_teachersTold_4
      rw [if_neg g, i10, gd_tt, cl]
      simp only [lt_t]
      by_cases h : bars i = 0
      · rw [if_pos h, if_neg (fun q => (of_decide_eq_true q) h)]
      · rw [if_neg h, if_pos (decide_eq_true h)]
  rw [hZ] at main
  exact main
def anyT (teach : Nat → Int32) (v : Int32) : Nat → Bool
  | 0 => false
  | i + 1 => anyT teach v i || decide (teach i = v)
theorem anyT_iff (teach : Nat → Int32) (v : Int32) : ∀ z, anyT teach v z = true ↔ ∃ i, i < z ∧ teach i = v
  | 0 => by
    rw [anyT]
    exact ⟨fun h => (by cases h), fun ⟨i, hi, _⟩ => absurd hi (by omega)⟩
  | z + 1 => by
    rw [anyT, Bool.or_eq_true, anyT_iff teach v z, decide_eq_true_eq]
    constructor
    · rintro (⟨i, hi, h⟩ | h)
      · exact ⟨i, by omega, h⟩
      · exact ⟨z, by omega, h⟩
    · rintro ⟨i, hi, h⟩
      by_cases e : i = z
      · subst e; exact Or.inr h
      · exact Or.inl ⟨i, by omega, h⟩
theorem isTeaching_eq {z : Nat} (hz : z ≤ 16) (teach : Nat → Int32) (v : Int32) : m_X6_isTeaching (nI z) teach v = some (fl (anyT teach v z)) := by
  unfold m_X6_isTeaching
  refine seq2 (z := z) (fun i => fl (anyT teach v i)) (fun i => nI i) (by omega) (fun rec => ?_) (fun rec i hi => ?_)
  · unfold m_X6_isTeaching_4
    rw [if_pos (Int32.le_refl _), isb_fl, gd_tt]
  · have i17 : inb (nI i) 17 = true := inb_nI (by omega) (by decide)
    have cl : (nI i).toNatClampNeg = i := nI_clamp (by omega)
    unfold m_X6_isTeaching_4
    rw [if_neg (nI_ge hi (by omega)), i17, gd_tt, cl]
    simp only [lt_t, nI_1, anyT, fl_0]
    cases e : anyT teach v i
    · by_cases h : teach i = v
      · simp [h, fl]
      · simp [h, fl]
    · simp [fl]
/-! bars -/
def DR (n r z : Nat) (bars subj teach seats col cw mbars msubj mteach mseats mcol : Nat → Int32) : Prop :=
  z ≤ 16 ∧ (∀ t : Nat, t < 10 → bars t = mbars t) ∧ RSec n z subj teach seats col msubj mteach mseats mcol ∧ RCw z subj col cw ∧ ∀ c : Nat, c < n → inCol col c z ≤ r
def barR (k : Nat) (tape : Nat → Int32) (a : Nat) (X : Option (Int32 × (Nat → Int32) × Int32)) (M : Option (Int32 × Int32 × Int32 × (Nat → Int32))) : Prop :=
  ∃ a' bx dm bm, a ≤ a' ∧ a' ≤ k ∧ ((X = some (0, bx, nI a') ∧ M = some (0, nI a', dm, bm)) ∨ ((∃ d, isD k tape a' d) ∧ X = some (1, bx, nI a') ∧ M = some (0, nI a', dm, bm)) ∨ ((∀ t : Nat, t < 10 → bx t = bm t) ∧ X = some (1, bx, nI a') ∧ M = some (1, nI a', dm, bm)))
theorem barR_F {k : Nat} {tape : Nat → Int32} {a a' : Nat} {bx bm : Nat → Int32} {dm : Int32} (h1 : a ≤ a') (h2 : a' ≤ k) : barR k tape a (some (0, bx, nI a')) (some (0, nI a', dm, bm)) := ⟨a', bx, dm, bm, h1, h2, Or.inl ⟨rfl, rfl⟩⟩
theorem barR_D {k : Nat} {tape : Nat → Int32} {a a' : Nat} {bx bm : Nat → Int32} {dm : Int32} (h1 : a ≤ a') (h2 : a' ≤ k) (h3 : ∃ d, isD k tape a' d) : barR k tape a (some (1, bx, nI a')) (some (0, nI a', dm, bm)) := ⟨a', bx, dm, bm, h1, h2, Or.inr (Or.inl ⟨h3, rfl, rfl⟩)⟩
theorem barR_T {k : Nat} {tape : Nat → Int32} {a a' : Nat} {bx bm : Nat → Int32} {dm : Int32} (h1 : a ≤ a') (h2 : a' ≤ k) (h3 : ∀ t : Nat, t < 10 → bx t = bm t) : barR k tape a (some (1, bx, nI a')) (some (1, nI a', dm, bm)) := ⟨a', bx, dm, bm, h1, h2, Or.inr (Or.inr ⟨h3, rfl, rfl⟩)⟩
theorem barR.le {k : Nat} {tape : Nat → Int32} {a b : Nat} {X : Option (Int32 × (Nat → Int32) × Int32)} {M : Option (Int32 × Int32 × Int32 × (Nat → Int32))} (h : barR k tape b X M) (hab : a ≤ b) : barR k tape a X M := by
  obtain ⟨a', bx, dm, bm, h1, h2, h3⟩ := h
  exact ⟨a', bx, dm, bm, by omega, h2, h3⟩
theorem nIm1 {n : Nat} (h1 : 1 ≤ n) : nI n - 1 = nI (n - 1) := by
  obtain ⟨q, rfl⟩ : ∃ q, n = q + 1 := ⟨n - 1, by omega⟩
  rw [nI_pred, Nat.add_sub_cancel]
theorem bars_loop {k n t : Nat} {sg tape : Nat → Int32} (hT : okT k sg tape) (hn1 : 1 ≤ n) (hn : n ≤ 6) (ht : t < 10) :
    ∀ (e i l a fX fM : Nat) (al dg : Int32) (bars mbars : Nat → Int32), i + e = 6 → e < fX → e < fM → a ≤ k → i ≤ l → l ≤ n → (∀ d, d < 10 → bt al d = decide (l ≤ d ∧ d < n)) → (l = 0 ↔ bars t = 0) → (∀ q : Nat, q < 10 → bars q = mbars q) →
    barR k tape a (it4 (m_X0_readBars_34 (nI k) sg (nI t)) fX al (nI i) bars (nI a)) (it4 (m_X6_takesBars_48 (nI n) (nI k) tape (nI t)) fM (nI l) (nI a) dg mbars) := by
  have i10 : inb (nI t) 10 = true := inb_nI ht (by decide)
  have ct : (nI t).toNatClampNeg = t := nI_clamp (by omega)
  have hhi : (nI n - 1).toInt = ((n - 1 : Nat) : Int) := by rw [nIm1 hn1, nI_toInt (by omega)]
  have e84 : ∀ (bars : Nat → Int32) (at_ : Int32), m_X0_readBars_84 bars at_ (nI t) = if bars t = 0 then some (0, bars, at_) else some (1, bars, at_) := by
    intro bars at_
    unfold m_X0_readBars_84
    rw [i10, gd_tt, ct]
  intro e
  induction e with
  | zero =>
    intro i l a fX fM al dg bars mbars hi hX hM ha hil hln hal hl0 hbb
    have hl6 : l = 6 := by omega
    have hn6 : n = 6 := by omega
    subst hl6
    obtain ⟨fX, rfl⟩ : ∃ q, fX = q + 1 := ⟨fX - 1, by omega⟩
    obtain ⟨fM, rfl⟩ : ∃ q, fM = q + 1 := ⟨fM - 1, by omega⟩
    have hi6 : i = 6 := by omega
    subst hi6
    have hbt : ¬ bars t = 0 := fun h => absurd (hl0.mpr h) (by decide)
    have sX : it4 (m_X0_readBars_34 (nI k) sg (nI t)) (fX + 1) al (nI 6) bars (nI a) = some (1, bars, nI a) := by
      show m_X0_readBars_34 (nI k) sg (nI t) (it4 (m_X0_readBars_34 (nI k) sg (nI t)) fX) al (nI 6) bars (nI a) = _
      generalize it4 (m_X0_readBars_34 (nI k) sg (nI t)) fX = rec
      unfold m_X0_readBars_34
      rw [if_pos (by decide), e84, if_neg hbt]
    have sM : it4 (m_X6_takesBars_48 (nI n) (nI k) tape (nI t)) (fM + 1) (nI 6) (nI a) dg mbars = m_X6_takesBars_48 (nI n) (nI k) tape (nI t) (it4 (m_X6_takesBars_48 (nI n) (nI k) tape (nI t)) fM) (nI 6) (nI a) dg mbars := rfl
    rw [sX, sM]
    generalize it4 (m_X6_takesBars_48 (nI n) (nI k) tape (nI t)) fM = rec
    unfold m_X6_takesBars_48
    rw [if_neg (show ¬ nI 6 = 0 by decide)]
    by_cases hd : ∃ d, isD k tape a d
    · obtain ⟨d, hd'⟩ := hd
      rw [id_y hT hd', bk1, if_neg (show ¬ (1 : Int32) = 0 by decide)]
      unfold m_X6_takesBars_59
      rw [tdM_n hT (show (nI 6).toInt = ((6 : Nat) : Int) from rfl) hhi (by omega) ha (fun q _ hq => by omega), bk3, if_pos rfl]
      exact barR_D (Nat.le_refl _) ha ⟨d, hd'⟩
    · rw [id_n hT ha hd, bk1, if_pos rfl]
      exact barR_T (Nat.le_refl _) ha hbb
  | succ e ih =>
    intro i l a fX fM al dg bars mbars hi hX hM ha hil hln hal hl0 hbb
    obtain ⟨fX, rfl⟩ : ∃ q, fX = q + 1 := ⟨fX - 1, by omega⟩
    obtain ⟨fM, rfl⟩ : ∃ q, fM = q + 1 := ⟨fM - 1, by omega⟩
    have sX : it4 (m_X0_readBars_34 (nI k) sg (nI t)) (fX + 1) al (nI i) bars (nI a) = m_X0_readBars_34 (nI k) sg (nI t) (it4 (m_X0_readBars_34 (nI k) sg (nI t)) fX) al (nI i) bars (nI a) := rfl
    have sM : it4 (m_X6_takesBars_48 (nI n) (nI k) tape (nI t)) (fM + 1) (nI l) (nI a) dg mbars = m_X6_takesBars_48 (nI n) (nI k) tape (nI t) (it4 (m_X6_takesBars_48 (nI n) (nI k) tape (nI t)) fM) (nI l) (nI a) dg mbars := rfl
    rw [sX, sM]
    have hIH := fun l' a' al' dg' bars' mbars' => ih (i + 1) l' a' fX fM al' dg' bars' mbars' (by omega) (by omega) (by omega)
    generalize it4 (m_X0_readBars_34 (nI k) sg (nI t)) fX = recX at hIH ⊢
    generalize it4 (m_X6_takesBars_48 (nI n) (nI k) tape (nI t)) fM = recM at hIH ⊢
    have g6 : ¬ (6 : Int32) ≤ nI i := nI_ge (a := i) (b := 6) (by omega) (by decide)
    have hlo : (nI l).toInt = (l : Int) := nI_toInt (by omega)
    by_cases hd : ∃ d, isD k tape a d ∧ l ≤ d ∧ d < n
    · obtain ⟨d, hd', hld, hdn⟩ := hd
      have hd10 := hd'.2.1
      have eX : m_X0_readBars_34 (nI k) sg (nI t) recX al (nI i) bars (nI a) = recX (al &&& dAb d) (nI (i + 1)) (upd bars t (bars t ||| ((1 : Int32) <<< (nI d &&& 31)))) (nI (a + 1)) := by
        unfold m_X0_readBars_34
        rw [if_neg g6, tdX_y hT hd' (by rw [hal d hd10]; exact decide_eq_true ⟨hld, hdn⟩), bk2, if_neg (nI_nm1 (by omega)), i10, gd_tt, gd_tt, digitsAbove_eq, bk1, lt_t, lt_t, nI_1, ct]
      have e59 : m_X6_takesBars_59 (nI n) (nI a) (nI k) dg mbars tape (nI t) (nI l) recM = recM (nI (d + 1)) (nI (a + 1)) (nI d) (upd mbars t (mbars t ||| ((1 : Int32) <<< (nI d &&& 31)))) := by
        unfold m_X6_takesBars_59
        rw [tdM_y hT hlo hhi hd' hld (by omega), bk3, if_neg (show ¬ (1 : Int32) = 0 by decide), i10, gd_tt, gd_tt, lt_t, nI_1, ct]
      have eM : m_X6_takesBars_48 (nI n) (nI k) tape (nI t) recM (nI l) (nI a) dg mbars = recM (nI (d + 1)) (nI (a + 1)) (nI d) (upd mbars t (mbars t ||| ((1 : Int32) <<< (nI d &&& 31)))) := by
        unfold m_X6_takesBars_48
        rw [e59, id_y hT hd', bk1, if_neg (show ¬ (1 : Int32) = 0 by decide)]
        split <;> rfl
      rw [eX, eM]
      have hb0 : ¬ bars t ||| ((1 : Int32) <<< (nI d &&& 31)) = 0 := by
        intro h
        have h2 : bt (bars t ||| ((1 : Int32) <<< (nI d &&& 31))) d = true := by
          rw [b_or, p_bit (by omega) (by omega)]
          simp
        rw [h, b_0] at h2
        cases h2
      refine barR.le (hIH (d + 1) (a + 1) (al &&& dAb d) (nI d) _ _ (by have := hd'.1; omega) (by omega) (by omega) (fun q hq => ?_) ?_ (fun q hq => ?_)) (by omega)
      · rw [b_and, hal q hq, dAb_bt d hd10 q hq]
        by_cases h1 : d < q
        · have h2 : l ≤ q := by omega
          have h3 : d + 1 ≤ q := by omega
          simp [h1, h2, h3]
        · have h3 : ¬ d + 1 ≤ q := by omega
          simp [h1, h3]
      · rw [upd_s]
        exact ⟨fun h => absurd h (by omega), fun h => absurd h hb0⟩
      · by_cases eq : q = t
        · subst eq; rw [upd_s, upd_s, hbb q hq]
        · rw [upd_n eq, upd_n eq]; exact hbb q hq
    · have hnd : ∀ d, isD k tape a d → ¬ (l ≤ d ∧ d ≤ n - 1) := fun d h1 h2 => hd ⟨d, h1, h2.1, by omega⟩
      have eX : m_X0_readBars_34 (nI k) sg (nI t) recX al (nI i) bars (nI a) = if bars t = 0 then some (0, bars, nI a) else some (1, bars, nI a) := by
        unfold m_X0_readBars_34 m_X0_readBars_54
        rw [if_neg g6, tdX_n hT ha (fun d h => by rw [hal d h.2.1]; exact decide_eq_false (fun q => hd ⟨d, h, q.1, q.2⟩)), bk2, if_pos rfl, e84]
      have e59 : m_X6_takesBars_59 (nI n) (nI a) (nI k) dg mbars tape (nI t) (nI l) recM = some (0, nI a, dg, mbars) := by
        unfold m_X6_takesBars_59
        rw [tdM_n hT hlo hhi (by omega) ha hnd, bk3, if_pos rfl]
      rw [eX]
      unfold m_X6_takesBars_48
      rw [e59]
      by_cases h0 : l = 0
      · rw [if_pos (hl0.mp h0), if_pos (show nI l = 0 by rw [h0]; rfl)]
        exact barR_F (Nat.le_refl _) ha
      · rw [if_neg (fun q => h0 (hl0.mpr q)), if_neg (fun q => h0 ((nI_zero (by omega)).mp q))]
        by_cases hdd : ∃ d, isD k tape a d
        · obtain ⟨d, hd'⟩ := hdd
          rw [id_y hT hd', bk1, if_neg (show ¬ (1 : Int32) = 0 by decide)]
          exact barR_D (Nat.le_refl _) ha ⟨d, hd'⟩
        · rw [id_n hT ha hdd, bk1, if_pos rfl]
          exact barR_T (Nat.le_refl _) ha hbb
theorem lowTab : ∀ n, n < 7 → ∀ d, d < 10 → bt (((1 : Int32) <<< (nI n &&& 31)) - 1) d = decide (0 ≤ d ∧ d < n) := by decide +kernel
theorem bars_eq {k n z : Nat} {sg tape : Nat → Int32} (hT : okT k sg tape) (hn1 : 1 ≤ n) (hn : n ≤ 6) (hz : z ≤ 16) {bars mbars subj teach seats col msubj mteach mseats mcol : Nat → Int32} (hbb : ∀ t : Nat, t < 10 → bars t = mbars t) (hsec : RSec n z subj teach seats col msubj mteach mseats mcol) {a : Nat} (ha : a ≤ k) (dg : Int32) :
    barR k tape a (m_X0_readBars (nI n) (nI z) bars teach (nI k) (nI a) sg) (m_X6_takesBars (nI n) (nI z) (nI a) (nI k) dg mteach mbars tape) := by
  have hlo : (0 : Int32).toInt = ((0 : Nat) : Int) := rfl
  have hhi : (9 : Int32).toInt = ((9 : Nat) : Int) := rfl
  have hte : ∀ i, i < z → ∃ t : Nat, t < 10 ∧ teach i = nI t := fun i hi => by
    rw [(hsec i hi).2.2.1]; exact (hsec i hi).2.2.2.1
  unfold m_X0_readBars m_X6_takesBars
  rw [told_eq hz, bk1]
  have hal : ∀ d, d < 10 → (bt ((1023 : Int32) &&& (tlA (msk (fun t => decide (¬ bars t = 0)) 10) teach z ^^^ (-1))) d = true ↔ (bars d = 0 ∧ ¬ ∃ i, i < z ∧ teach i = nI d)) := by
    intro d hd
    have h1 := tlA_bit (acc := msk (fun t => decide (¬ bars t = 0)) 10) (teach := teach) (show d < 32 by omega) z hte
    rw [msk_bt _ 10 (by decide)] at h1
    rw [b_and, p_not _ (by omega), bt1023 d hd]
    cases e : bt (tlA (msk (fun t => decide (¬ bars t = 0)) 10) teach z) d
    · rw [e] at h1
      have h2 : ¬ ((decide (d < 10) && decide (¬ bars d = 0)) = true ∨ ∃ i, i < z ∧ teach i = nI d) := fun h => by
        have := h1.mpr h
        cases this
      refine ⟨fun _ => ⟨?_, fun h => h2 (Or.inr h)⟩, fun _ => by simp⟩
      by_cases h3 : bars d = 0
      · exact h3
      · exact absurd (Or.inl (by simp [hd, h3])) h2
    · refine ⟨fun h => by simp at h, fun ⟨h3, h4⟩ => ?_⟩
      rcases h1.mp e with h | h
      · simp [h3] at h
      · exact absurd h h4
  generalize (1023 : Int32) &&& (tlA (msk (fun t => decide (¬ bars t = 0)) 10) teach z ^^^ (-1)) = AL at hal ⊢
  by_cases hd : ∃ d, isD k tape a d
  · obtain ⟨d, hd'⟩ := hd
    have hd10 := hd'.2.1
    have hak := hd'.1
    have i10 : inb (nI d) 10 = true := inb_nI hd10 (by decide)
    have cd : (nI d).toNatClampNeg = d := nI_clamp (by omega)
    have e34 : m_X6_takesBars_34 (nI (a + 1)) (nI d) mbars = some (0, nI a, nI d, mbars) := by
      unfold m_X6_takesBars_34
      rw [lt_t, nI_pred]
    have hany : (∃ i, i < z ∧ teach i = nI d) ↔ anyT mteach (nI d) z = true := by
      rw [anyT_iff]
      constructor
      · rintro ⟨i, hi, h⟩; exact ⟨i, hi, by rw [← (hsec i hi).2.2.1]; exact h⟩
      · rintro ⟨i, hi, h⟩; exact ⟨i, hi, by rw [(hsec i hi).2.2.1]; exact h⟩
    rw [tdM_y hT hlo hhi hd' (Nat.zero_le _) (by omega), bk3, if_neg (show ¬ (1 : Int32) = 0 by decide), i10, gd_tt, cd, isTeaching_eq hz, bk1, e34, ← hbb d hd10]
    by_cases hok : bars d = 0 ∧ ¬ ∃ i, i < z ∧ teach i = nI d
    · have hf : anyT mteach (nI d) z = false := by
        cases e : anyT mteach (nI d) z
        · rfl
        · exact absurd (hany.mpr e) hok.2
      rw [tdX_y hT hd' ((hal d hd10).mpr hok), bk2, if_neg (nI_nm1 (by omega)), lt_t, if_pos hok.1, hf, if_pos (show fl false = 0 from rfl)]
      have := bars_loop hT hn1 hn hd10 6 0 0 (a + 1) 1100 1100 (((1 : Int32) <<< (nI n &&& 31)) - 1) (nI d) bars mbars rfl (by decide) (by decide) (by omega) (by omega) (by omega) (lowTab n (by omega)) ⟨fun _ => hok.1, fun _ => rfl⟩ hbb
      exact barR.le this (by omega)
    · rw [tdX_n hT ha (fun q hq => by
        have := isD_uni hq hd'
        subst this
        cases e : bt AL q
        · rfl
        · exact absurd ((hal q hd10).mp e) hok), bk2, if_pos rfl]
      by_cases h0 : bars d = 0
      · have ht : anyT mteach (nI d) z = true := by
          cases e : anyT mteach (nI d) z
          · exact absurd ⟨h0, fun h => by rw [hany.mp h] at e; cases e⟩ hok
          · rfl
        rw [if_pos h0, ht, if_neg (show ¬ fl true = 0 by decide)]
        exact barR_F (Nat.le_refl _) ha
      · rw [if_neg h0]
        exact barR_F (Nat.le_refl _) ha
  · rw [tdX_n hT ha (fun q hq => absurd ⟨q, hq⟩ hd), bk2, if_pos rfl, tdM_n hT hlo hhi (Nat.le_refl 9) ha (fun q hq => absurd ⟨q, hq⟩ hd), bk3, if_pos rfl]
    exact barR_F (Nat.le_refl _) ha
/-! seats -/
def mst (s : Nat) : Int32 := if ((30 : Int32) - ((10 : Int32) * nI s)) < 9 then ((30 : Int32) - ((10 : Int32) * nI s)) else 9
def smk (s : Nat) : Int32 := if 0 ≤ mst s then (1023 : Int32) &&& (((1023 : Int32) &&& (-((2 : Int32) <<< (mst s &&& 31)))) ^^^ (-1)) else 0
theorem smkTab : ∀ s, s < 10 → ∀ e, e < 10 → 1 ≤ s → bt (smk s) e = decide (10 * s + e ≤ 30) := by decide +kernel
theorem ten_mul : ∀ s, s < 10 → (10 : Int32) * nI s = nI (10 * s) := by decide +kernel
theorem dAb0 : ∀ d, d < 10 → bt (dAb 0) d = decide (1 ≤ d) := by decide +kernel
def seaR (k : Nat) (tape : Nat → Int32) (a : Nat) (X : Option (Int32 × Int32)) (M : Option (Int32 × Int32 × Int32 × Int32)) : Prop :=
  (∃ a' dm um, a ≤ a' ∧ a' ≤ k ∧ X = some (-1, nI a') ∧ M = some (0, nI a', dm, um)) ∨ ∃ s a' dm um, a ≤ a' ∧ a' ≤ k ∧ 1 ≤ s ∧ s ≤ 30 ∧ X = some (nI s, nI a') ∧ (((∃ d, isD k tape a' d) ∧ M = some (0, nI a', dm, um)) ∨ M = some (1, nI a', dm, nI s))
theorem seats_eq {k : Nat} {sg tape : Nat → Int32} (hT : okT k sg tape) {a : Nat} (ha : a ≤ k) (dg nu : Int32) : seaR k tape a (m_X0_readSeats (nI k) (nI a) sg) (m_X6_takesSeats (nI a) (nI k) dg nu tape) := by
  have hlo : (1 : Int32).toInt = ((1 : Nat) : Int) := rfl
  have hhi : (9 : Int32).toInt = ((9 : Nat) : Int) := rfl
  have hk := hT.1
  have e72y : ∀ (b d : Nat) (dg u : Int32), isD k tape b d → m_X6_takesSeats_72 (nI b) (nI k) dg u tape = some (0, nI b, dg, u) := by
    intro b d dg u h
    unfold m_X6_takesSeats_72
    rw [id_y hT h, bk1, if_neg (show ¬ (1 : Int32) = 0 by decide)]
  have e72n : ∀ (b : Nat) (dg u : Int32), b ≤ k → (¬ ∃ d, isD k tape b d) → m_X6_takesSeats_72 (nI b) (nI k) dg u tape = some (1, nI b, dg, u) := by
    intro b dg u hb h
    unfold m_X6_takesSeats_72
    rw [id_n hT hb h, bk1, if_pos rfl]
  have hX : ∀ (s : Nat), m_X0_readSeats (nI k) (nI a) sg = bd2 (m_X3_takeDigit (nI k) (nI a) sg (dAb 0)) (fun r_4 at_5 => (if r_4 = (-1) then some ((-1), at_5) else lt' (if ((30 : Int32) - ((10 : Int32) * r_4)) < 9 then ((30 : Int32) - ((10 : Int32) * r_4)) else 9) (fun v2_6 => (if 0 ≤ v2_6 then bd1 (m_X5_digitsAbove v2_6) (fun r_7 => m_X0_readSeats_48 (nI k) at_5 sg r_4 ((1023 : Int32) &&& (r_7 ^^^ (-1)))) else m_X0_readSeats_48 (nI k) at_5 sg r_4 0)))) := fun _ => rfl
  rw [hX 0]
  unfold m_X6_takesSeats
  by_cases hd : ∃ d, isD k tape a d ∧ 1 ≤ d
  · obtain ⟨s, hs, hs1⟩ := hd
    have hs10 := hs.2.1
    have ha1 : a + 1 ≤ k := by have := hs.1; omega
    have eX : ∀ (at_ : Int32), (lt' (if ((30 : Int32) - ((10 : Int32) * nI s)) < 9 then ((30 : Int32) - ((10 : Int32) * nI s)) else 9) (fun v2_6 => (if 0 ≤ v2_6 then bd1 (m_X5_digitsAbove v2_6) (fun r_7 => m_X0_readSeats_48 (nI k) at_ sg (nI s) ((1023 : Int32) &&& (r_7 ^^^ (-1)))) else m_X0_readSeats_48 (nI k) at_ sg (nI s) 0))) = m_X0_readSeats_48 (nI k) at_ sg (nI s) (smk s) := by
      intro at_
      rw [lt_t]
      show (if 0 ≤ mst s then bd1 (m_X5_digitsAbove (mst s)) (fun r_7 => m_X0_readSeats_48 (nI k) at_ sg (nI s) ((1023 : Int32) &&& (r_7 ^^^ (-1)))) else m_X0_readSeats_48 (nI k) at_ sg (nI s) 0) = _
      unfold smk
      by_cases h : 0 ≤ mst s
      · rw [if_pos h, if_pos h]; rfl
      · rw [if_neg h, if_neg h]
    rw [tdX_y hT hs (by rw [dAb0 s hs10]; exact decide_eq_true hs1), bk2, if_neg (nI_nm1 (by omega)), eX, tdM_y hT hlo hhi hs hs1 (by omega), bk3, if_neg (show ¬ (1 : Int32) = 0 by decide)]
    unfold m_X0_readSeats_48
    by_cases h2 : ∃ d, isD k tape (a + 1) d
    · obtain ⟨e, he⟩ := h2
      have he10 := he.2.1
      have hak := he.1
      have i240 : inb (nI (a + 1)) 240 = true := inb_nI (by omega) (by decide)
      have cl : (nI (a + 1)).toNatClampNeg = a + 1 := nI_clamp (by omega)
      have ew : (10 : Int32) * nI s + nI (48 + e) - 48 = nI (10 * s + e) := by
        rw [ten_mul s hs10, nI_add, show (48 : Int32) = nI 48 from rfl, pk_sub (by omega)]
        congr 1; omega
      rw [id_y hT he, bk1, if_neg (show ¬ (1 : Int32) = 0 by decide), i240, gd_tt, cl, he.2.2, ew, lt_t]
      by_cases h30 : 10 * s + e ≤ 30
      · rw [tdX_y hT he (by rw [smkTab s hs10 e he10 hs1]; exact decide_eq_true h30), bk2, if_neg (nI_nm1 (by omega)), ten_mul s hs10, nI_add, if_pos (show nI (10 * s + e) ≤ 30 from nI_le (b := 30) h30 (by decide)), lt_t, nI_1]
        by_cases h3 : ∃ d, isD k tape (a + 1 + 1) d
        · obtain ⟨d, hd⟩ := h3
          rw [e72y _ d _ _ hd]
          exact Or.inr ⟨10 * s + e, a + 1 + 1, _, _, by omega, by omega, by omega, h30, rfl, Or.inl ⟨⟨d, hd⟩, rfl⟩⟩
        · rw [e72n _ _ _ (by omega) h3]
          exact Or.inr ⟨10 * s + e, a + 1 + 1, _, nI (10 * s + e), by omega, by omega, by omega, h30, rfl, Or.inr rfl⟩
      · rw [tdX_n hT ha1 (fun d hd => by
          have := isD_uni hd he
          subst this
          rw [smkTab s hs10 d he10 hs1]; exact decide_eq_false h30), bk2, if_pos rfl, if_neg (show ¬ nI (10 * s + e) ≤ 30 from nI_ge (a := 30) (b := 10 * s + e) (by omega) (by omega))]
        exact Or.inr ⟨s, a + 1, _, _, by omega, by omega, by omega, by omega, rfl, Or.inl ⟨⟨e, he⟩, rfl⟩⟩
    · rw [tdX_n hT ha1 (fun d hd => absurd ⟨d, hd⟩ h2), bk2, if_pos rfl, id_n hT ha1 h2, bk1, if_pos rfl, e72n _ _ _ ha1 h2]
      exact Or.inr ⟨s, a + 1, _, nI s, by omega, by omega, by omega, by omega, rfl, Or.inr rfl⟩
  · rw [tdX_n hT ha (fun d h => by rw [dAb0 d h.2.1]; exact decide_eq_false (fun q => hd ⟨d, h, q⟩)), bk2, if_pos rfl, tdM_n hT hlo hhi (Nat.le_refl 9) ha (fun d h q => hd ⟨d, h, q.1⟩), bk3, if_pos rfl]
    exact Or.inl ⟨a, _, _, Nat.le_refl _, ha, rfl, rfl⟩
