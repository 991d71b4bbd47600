/-! a desk's text -/
theorem desk_loop {n r k : Nat} (hn1 : 1 ≤ n) (hn : n ≤ 6) (hr : r ≤ 9) {sg tape : Nat → Int32} (hT : okT k sg tape) :
    ∀ (E a line fX fM z : Nat) (bars subj teach seats col cw mbars msubj mteach mseats mcol : Nat → Int32) (dg nu : Int32), a ≤ k → k ≤ a + E → line ≤ a → E + 1 < fX → E + 1 < fM → DR n r z bars subj teach seats col cw mbars msubj mteach mseats mcol →
    ∃ ok a' zx bx sx tx ex cx wx zm dm um sm tm em cm bm, it9 (m_X0_readFrom_110 (nI n) (nI r) (nI k) sg) fX (nI line) (nI z) bars subj teach seats col cw (nI a) = some (fl ok, nI n, nI r, zx, bx, sx, tx, ex, cx, wx, nI a') ∧
      it9 (m_X6_takesDesk_49 (nI n) (nI r) (nI k) tape) fM (nI z) (nI a) dg nu msubj mteach mseats mcol mbars = some (fl ok, nI n, nI r, zm, nI a', dm, um, sm, tm, em, cm, bm) ∧ (ok = true → ∃ z', zx = nI z' ∧ zm = nI z' ∧ DR n r z' bx sx tx ex cx wx bm sm tm em cm) := by
  have hk := hT.1
  have n10 : ¬ (1 : Int32) = 0 := by decide
  intro E
  induction E with
  | zero =>
    intro a line fX fM z bars subj teach seats col cw mbars msubj mteach mseats mcol dg nu ha hE hl hX hM hD
    have : a = k := by omega
    subst this
    obtain ⟨fX, rfl⟩ : ∃ q, fX = q + 1 := ⟨fX - 1, by omega⟩
    obtain ⟨fM, rfl⟩ : ∃ q, fM = q + 1 := ⟨fM - 1, by omega⟩
    refine ⟨true, a, nI z, bars, subj, teach, seats, col, cw, nI z, dg, nu, msubj, mteach, mseats, mcol, mbars, ?_, ?_, fun _ => ⟨z, rfl, rfl, hD⟩⟩
    · show m_X0_readFrom_110 (nI n) (nI r) (nI a) sg (it9 (m_X0_readFrom_110 (nI n) (nI r) (nI a) sg) fX) (nI line) (nI z) bars subj teach seats col cw (nI a) = _
      generalize it9 (m_X0_readFrom_110 (nI n) (nI r) (nI a) sg) fX = rec
      unfold m_X0_readFrom_110 m_X3_isRead
      rw [if_neg (nI_nlt (Nat.le_refl a) (by omega)), bk1, if_neg n10]
      split <;> rfl
    · show m_X6_takesDesk_49 (nI n) (nI r) (nI a) tape (it9 (m_X6_takesDesk_49 (nI n) (nI r) (nI a) tape) fM) (nI z) (nI a) dg nu msubj mteach mseats mcol mbars = _
      generalize it9 (m_X6_takesDesk_49 (nI n) (nI r) (nI a) tape) fM = rec
      unfold m_X6_takesDesk_49 m_X6_takesDesk_86
      rw [(ts_n (v := 59) hT ha (fun h => absurd h (by omega))).2, bk2, if_pos rfl, if_pos rfl]
      rfl
  | succ E ih =>
    intro a line fX fM z bars subj teach seats col cw mbars msubj mteach mseats mcol dg nu ha hE hl hX hM hD
    by_cases hak : a < k
    · obtain ⟨fX, rfl⟩ : ∃ q, fX = q + 1 + 1 := ⟨fX - 2, by omega⟩
      obtain ⟨fM, rfl⟩ : ∃ q, fM = q + 1 := ⟨fM - 1, by omega⟩
      have dig : ∀ (a' : Nat) (zx : Int32) (bx sx tx ex cx wx : Nat → Int32), (∃ d, isD k tape a' d) → line + 1 ≤ a' → it9 (m_X0_readFrom_110 (nI n) (nI r) (nI k) sg) (fX + 1) (nI (line + 1)) zx bx sx tx ex cx wx (nI a') = some (0, nI n, nI r, zx, bx, sx, tx, ex, cx, wx, nI a') := by
        intro a' zx bx sx tx ex cx wx hd hla
        obtain ⟨d, hd⟩ := hd
        have hak' := hd.1
        have h59 : ¬ tape a' = 59 := by
          rw [hd.2.2, show (59 : Int32) = nI 59 from rfl, nI_eq (by have := hd.2.1; omega) (by decide)]
          have := hd.2.1
          omega
        show m_X0_readFrom_110 (nI n) (nI r) (nI k) sg (it9 (m_X0_readFrom_110 (nI n) (nI r) (nI k) sg) fX) (nI (line + 1)) zx bx sx tx ex cx wx (nI a') = _
        generalize it9 (m_X0_readFrom_110 (nI n) (nI r) (nI k) sg) fX = rec
        unfold m_X0_readFrom_110 m_X3_isRead
        rw [if_neg (show ¬ (240 : Int32) ≤ nI (line + 1) from nI_ge (a := line + 1) (b := 240) (by omega) (by decide)), if_pos (nI_lt hak' (by omega)), bk1, if_pos rfl, (ts_n hT (show a' ≤ k by omega) (fun _ => h59)).1, bk2, if_pos rfl]
      have sX : it9 (m_X0_readFrom_110 (nI n) (nI r) (nI k) sg) (fX + 1 + 1) (nI line) (nI z) bars subj teach seats col cw (nI a) = m_X0_readFrom_110 (nI n) (nI r) (nI k) sg (it9 (m_X0_readFrom_110 (nI n) (nI r) (nI k) sg) (fX + 1)) (nI line) (nI z) bars subj teach seats col cw (nI a) := rfl
      have sM : it9 (m_X6_takesDesk_49 (nI n) (nI r) (nI k) tape) (fM + 1) (nI z) (nI a) dg nu msubj mteach mseats mcol mbars = m_X6_takesDesk_49 (nI n) (nI r) (nI k) tape (it9 (m_X6_takesDesk_49 (nI n) (nI r) (nI k) tape) fM) (nI z) (nI a) dg nu msubj mteach mseats mcol mbars := rfl
      rw [sX, sM]
      have hIH := fun a' z' bars' subj' teach' seats' col' cw' mbars' msubj' mteach' mseats' mcol' dg' nu' => ih a' (line + 1) (fX + 1) fM z' bars' subj' teach' seats' col' cw' mbars' msubj' mteach' mseats' mcol' dg' nu'
      generalize it9 (m_X0_readFrom_110 (nI n) (nI r) (nI k) sg) (fX + 1) = recX at hIH dig ⊢
      generalize it9 (m_X6_takesDesk_49 (nI n) (nI r) (nI k) tape) fM = recM at hIH ⊢
      unfold m_X0_readFrom_110 m_X3_isRead m_X6_takesDesk_49
      rw [if_neg (show ¬ (240 : Int32) ≤ nI line from nI_ge (a := line) (b := 240) (by omega) (by decide)), if_pos (nI_lt hak (by omega)), bk1, if_pos rfl]
      by_cases h59 : tape a = 59
      · obtain ⟨y1, y2⟩ := ts_y hT hak h59
        rw [y1, bk2, if_neg n10, y2, bk2, if_neg n10]
        unfold m_X0_readLine
        by_cases hb : a + 1 < k ∧ tape (a + 1) = 98
        · obtain ⟨w1, w2⟩ := ts_y hT hb.1 hb.2
          rw [w1, bk2, if_neg n10, w2, bk2, if_neg n10]
          obtain ⟨a', bx, dm, bm, p1, p2, p3⟩ := bars_eq hT hn1 hn hD.1 hD.2.1 hD.2.2.1 (show a + 1 + 1 ≤ k by have := hb.1; omega) dg
          rcases p3 with ⟨p3, p4⟩ | ⟨hd, p3, p4⟩ | ⟨hbb, p3, p4⟩
          · rw [p3, bk3, gd_t (by decide), bk9, if_pos rfl, p4, bk4, if_pos rfl]
            exact ⟨false, a', _, _, _, _, _, _, _, _, _, _, _, _, _, _, _, rfl, rfl, fun h => by cases h⟩
          · rw [p3, bk3, gd_t (by decide), bk9, if_neg n10, lt_t, nI_1, dig a' _ _ _ _ _ _ _ hd (by omega), p4, bk4, if_pos rfl]
            exact ⟨false, a', _, _, _, _, _, _, _, _, _, _, _, _, _, _, _, rfl, rfl, fun h => by cases h⟩
          · rw [p3, bk3, gd_t (by decide), bk9, if_neg n10, lt_t, nI_1, p4, bk4, if_neg n10]
            exact hIH a' z bx subj teach seats col cw bm msubj mteach mseats mcol dm nu p2 (by omega) (by omega) (by omega) (by omega) ⟨hD.1, hbb, hD.2.2.1, hD.2.2.2.1, hD.2.2.2.2⟩
        · obtain ⟨w1, w2⟩ := ts_n (v := 98) hT (show a + 1 ≤ k by omega) (fun h e => hb ⟨h, e⟩)
          rw [w1, bk2, if_pos rfl, w2, bk2, if_pos rfl]
          obtain ⟨a', zx, sx, tx, ex, cx, wx, zm, dm, um, sm, tm, em, cm, p1, p2, p3⟩ := sec_eq hn1 hn hr hT (show a + 1 ≤ k by omega) hD dg nu
          rcases p3 with ⟨p3, p4⟩ | ⟨hd, p3, p4⟩ | ⟨z', e1, e2, hD', p3, p4⟩
          · rw [p3, bk8, gd_t (by decide), bk9, if_pos rfl, p4, bk9, if_pos rfl]
            exact ⟨false, a', _, _, _, _, _, _, _, _, _, _, _, _, _, _, _, rfl, rfl, fun h => by cases h⟩
          · rw [p3, bk8, gd_t (by decide), bk9, if_neg n10, lt_t, nI_1, dig a' _ _ _ _ _ _ _ hd (by omega), p4, bk9, if_pos rfl]
            exact ⟨false, a', _, _, _, _, _, _, _, _, _, _, _, _, _, _, _, rfl, rfl, fun h => by cases h⟩
          · rw [p3, bk8, gd_t (by decide), bk9, if_neg n10, lt_t, nI_1, p4, bk9, if_neg n10, e1, e2]
            exact hIH a' z' bars sx tx ex cx wx mbars sm tm em cm dm um p2 (by omega) (by omega) (by omega) (by omega) hD'
      · obtain ⟨y1, y2⟩ := ts_n hT ha (fun _ => h59)
        unfold m_X6_takesDesk_86
        rw [y1, bk2, if_pos rfl, y2, bk2, if_pos rfl, if_neg (fun q => by have := nI_inj (by omega) (by omega) q; omega)]
        exact ⟨false, a, _, _, _, _, _, _, _, _, _, _, _, _, _, _, _, rfl, rfl, fun h => by cases h⟩
    · exact ih a line fX fM z bars subj teach seats col cw mbars msubj mteach mseats mcol dg nu ha (by omega) hl (by omega) (by omega) hD
/-! the head of the text -/
theorem hd6Tab : ∀ d, d < 10 → bt (((1023 : Int32) &&& (-((2 : Int32) <<< ((0 : Int32) &&& 31)))) &&& (((1023 : Int32) &&& (-((2 : Int32) <<< ((6 : Int32) &&& 31)))) ^^^ (-1))) d = decide (1 ≤ d ∧ d ≤ 6) := by decide +kernel
theorem hd9Tab : ∀ d, d < 10 → bt ((1023 : Int32) &&& (-((2 : Int32) <<< ((0 : Int32) &&& 31)))) d = decide (1 ≤ d) := by decide +kernel
theorem head_X {k : Nat} {sg : Nat → Int32} {n r a : Nat} (z0 : Int32) (bars subj teach seats col cw : Nat → Int32) :
    it2 (m_X0_readFrom_68 (nI n) (nI r) z0 subj teach seats col cw (nI k) (nI a) sg) 1100 0 bars = it9 (m_X0_readFrom_110 (nI n) (nI r) (nI k) sg) 1100 0 z0 (outF bars 0 10) subj teach seats col (outF cw 0 10) (nI a) := by
  obtain ⟨Z, hZ⟩ : ∃ Z : Nat, Z = 10 := ⟨_, rfl⟩
  have inner : ∀ bars : Nat → Int32, it2 (m_X0_readFrom_89 (nI n) (nI r) z0 bars subj teach seats col (nI k) (nI a) sg) 1100 0 (outF cw 0 0) = it9 (m_X0_readFrom_110 (nI n) (nI r) (nI k) sg) 1100 0 z0 bars subj teach seats col (outF cw 0 Z) (nI a) := by
    intro bars
    refine seq2 (z := Z) (fun i => nI i) (fun i => outF cw 0 i) (by omega) (fun rec => ?_) (fun rec i hi => ?_)
    · unfold m_X0_readFrom_89; rw [hZ, if_pos (by decide)]
    · have i10 : inb (nI i) 10 = true := inb_nI (by omega) (by decide)
      have cl : (nI i).toNatClampNeg = i := nI_clamp (by omega)
      unfold m_X0_readFrom_89
      rw [if_neg (show ¬ (10 : Int32) ≤ nI i from nI_ge (a := i) (b := 10) (by omega) (by decide)), i10, gd_tt, lt_t, nI_1, cl, outF_s]
  have main : it2 (m_X0_readFrom_68 (nI n) (nI r) z0 subj teach seats col cw (nI k) (nI a) sg) 1100 0 (outF bars 0 0) = it9 (m_X0_readFrom_110 (nI n) (nI r) (nI k) sg) 1100 0 z0 (outF bars 0 Z) subj teach seats col (outF cw 0 Z) (nI a) := by
    refine seq2 (z := Z) (fun i => nI i) (fun i => outF bars 0 i) (by omega) (fun rec => ?_) (fun rec i hi => ?_)
    · unfold m_X0_readFrom_68
      have := inner (outF bars 0 Z)
      rw [outF_0] at this
      rw [if_pos (show (10 : Int32) ≤ nI Z by rw [hZ]; decide), this]
    · have i10 : inb (nI i) 10 = true := inb_nI (by omega) (by decide)
      have cl : (nI i).toNatClampNeg = i := nI_clamp (by omega)
      unfold m_X0_readFrom_68
      rw [if_neg (show ¬ (10 : Int32) ≤ nI i from nI_ge (a := i) (b := 10) (by omega) (by decide)), i10, gd_tt, lt_t, nI_1, cl, outF_s]
  rw [outF_0, hZ] at main
  exact main
theorem outF_at {f : Nat → Int32} {x : Int32} {i q : Nat} (h : q < i) : outF f x i q = x := if_pos h
theorem DR_0 {n r : Nat} (bars subj teach seats col cw mbars msubj mteach mseats mcol : Nat → Int32) : DR n r 0 (outF bars 0 10) subj teach seats col (outF cw 0 10) (outF mbars 0 10) msubj mteach mseats mcol := by
  refine ⟨by decide, fun t ht => by rw [outF_at ht, outF_at ht], fun i hi => absurd hi (by omega), fun s hs c hc => ?_, fun c hc => Nat.zero_le _⟩
  rw [outF_at hs, b_0]
  exact ⟨fun h => (by cases h), fun ⟨i, hi, _⟩ => absurd hi (by omega)⟩
theorem read_eq {k : Nat} {sg tape : Nat → Int32} (hT : okT k sg tape) (dc dr dz : Int32) (bars subj teach seats col cw : Nat → Int32) (mc mr : Int32) (mbars msubj mteach mseats mcol : Nat → Int32) (dg nu : Int32) :
    ∃ ok a' cx rx zx bx sx tx ex lx wx cm rm zm dm um sm tm em lm bm, m_X0_readFrom dc dr dz bars subj teach seats col cw (nI k) 0 sg = some (fl ok, cx, rx, zx, bx, sx, tx, ex, lx, wx, nI a') ∧
      m_X6_takesDesk mc mr 0 0 (nI k) dg nu msubj mteach mseats mcol (outF mbars 0 10) tape = some (fl ok, cm, rm, zm, nI a', dm, um, sm, tm, em, lm, bm) ∧ (ok = true → ∃ n r z', 1 ≤ n ∧ n ≤ 6 ∧ 1 ≤ r ∧ r ≤ 9 ∧ cx = nI n ∧ cm = nI n ∧ rx = nI r ∧ rm = nI r ∧ zx = nI z' ∧ zm = nI z' ∧ DR n r z' bx sx tx ex lx wx bm sm tm em lm) := by
  have hk := hT.1
  have n10 : ¬ (1 : Int32) = 0 := by decide
  have lo1 : (1 : Int32).toInt = ((1 : Nat) : Int) := rfl
  have hi6 : (6 : Int32).toInt = ((6 : Nat) : Int) := rfl
  have hi9 : (9 : Int32).toInt = ((9 : Nat) : Int) := rfl
  have hfalse : ∀ (a' : Nat) (cx rx zx : Int32) (bx sx tx ex lx wx : Nat → Int32) (cm rm zm dm um : Int32) (sm tm em lm bm : Nat → Int32) (X : Option (Int32 × Int32 × Int32 × Int32 × (Nat → Int32) × (Nat → Int32) × (Nat → Int32) × (Nat → Int32) × (Nat → Int32) × (Nat → Int32) × Int32)) (M : Option (Int32 × Int32 × Int32 × Int32 × Int32 × Int32 × Int32 × (Nat → Int32) × (Nat → Int32) × (Nat → Int32) × (Nat → Int32) × (Nat → Int32))), X = some (0, cx, rx, zx, bx, sx, tx, ex, lx, wx, nI a') → M = some (0, cm, rm, zm, nI a', dm, um, sm, tm, em, lm, bm) →
      ∃ ok a' cx rx zx bx sx tx ex lx wx cm rm zm dm um sm tm em lm bm, X = some (fl ok, cx, rx, zx, bx, sx, tx, ex, lx, wx, nI a') ∧ M = some (fl ok, cm, rm, zm, nI a', dm, um, sm, tm, em, lm, bm) ∧ (ok = true → ∃ n r z', 1 ≤ n ∧ n ≤ 6 ∧ 1 ≤ r ∧ r ≤ 9 ∧ cx = nI n ∧ cm = nI n ∧ rx = nI r ∧ rm = nI r ∧ zx = nI z' ∧ zm = nI z' ∧ DR n r z' bx sx tx ex lx wx bm sm tm em lm) := by
    intro a' cx rx zx bx sx tx ex lx wx cm rm zm dm um sm tm em lm bm X M h1 h2
    exact ⟨false, a', cx, rx, zx, bx, sx, tx, ex, lx, wx, cm, rm, zm, dm, um, sm, tm, em, lm, bm, h1, h2, fun h => by cases h⟩
  have ez : (0 : Int32) = nI 0 := rfl
  unfold m_X0_readFrom m_X6_takesDesk m_X5_digitsAbove
  rw [bk1, bk1]
  by_cases h1 : ∃ d, isD k tape 0 d ∧ 1 ≤ d ∧ d ≤ 6
  · obtain ⟨n, hd, hn1, hn6⟩ := h1
    have d1 : m_X3_takeDigit (nI k) 0 sg (((1023 : Int32) &&& (-((2 : Int32) <<< ((0 : Int32) &&& 31)))) &&& (((1023 : Int32) &&& (-((2 : Int32) <<< ((6 : Int32) &&& 31)))) ^^^ (-1))) = some (nI n, nI 1) := tdX_y hT hd (by rw [hd6Tab n hd.2.1]; exact decide_eq_true ⟨hn1, hn6⟩)
    have d2 : m_X6_takesDigit 0 (nI k) dg tape 1 6 = some (1, nI 1, nI n) := tdM_y hT lo1 hi6 hd hn1 hn6 dg
    have hk1 : 1 ≤ k := by have := hd.1; omega
    rw [d1, bk2, if_neg (nI_nm1 (show n < 2 ^ 31 by omega)), d2, bk3, if_neg n10]
    by_cases hx : 1 < k ∧ tape 1 = 120
    · obtain ⟨y1, y2⟩ := ts_y hT hx.1 hx.2
      rw [y1, bk2, if_neg n10, bk1, y2, bk2, if_neg n10]
      have hk2 : 1 + 1 ≤ k := by have := hx.1; omega
      by_cases h2 : ∃ d, isD k tape (1 + 1) d ∧ 1 ≤ d
      · obtain ⟨r, hd2, hr1⟩ := h2
        have hr9 : r ≤ 9 := by have := hd2.2.1; omega
        have hk3 : 1 + 1 + 1 ≤ k := by have := hd2.1; omega
        rw [tdX_y hT hd2 (by rw [hd9Tab r hd2.2.1]; exact decide_eq_true hr1), bk2, if_neg (nI_nm1 (show r < 2 ^ 31 by omega)), tdM_y hT lo1 hi9 hd2 hr1 hr9, bk3, if_neg n10, head_X]
        obtain ⟨ok, a', zx, bx, sx, tx, ex, cx, wx, zm, dm, um, sm, tm, em, cm, bm, e1, e2, e3⟩ := desk_loop hn1 hn6 hr9 hT (k - (1 + 1 + 1)) (1 + 1 + 1) 0 1100 1100 0 (outF bars 0 10) subj teach seats col (outF cw 0 10) (outF mbars 0 10) msubj mteach mseats mcol (nI r) nu hk3 (by omega) (by omega) (by omega) (by omega) (DR_0 bars subj teach seats col cw mbars msubj mteach mseats mcol)
        refine ⟨ok, a', nI n, nI r, zx, bx, sx, tx, ex, cx, wx, nI n, nI r, zm, dm, um, sm, tm, em, cm, bm, e1, e2, fun h => ?_⟩
        obtain ⟨z', f1, f2, f3⟩ := e3 h
        exact ⟨n, r, z', hn1, hn6, hr1, hr9, rfl, rfl, rfl, rfl, f1, f2, f3⟩
      · rw [tdX_n hT hk2 (fun d h => by rw [hd9Tab d h.2.1]; exact decide_eq_false (fun q => h2 ⟨d, h, q⟩)), bk2, if_pos rfl, tdM_n hT lo1 hi9 (Nat.le_refl 9) hk2 (fun d h q => h2 ⟨d, h, q.1⟩), bk3, if_pos rfl]
        exact hfalse _ _ _ _ _ _ _ _ _ _ _ _ _ _ _ _ _ _ _ _ _ _ rfl rfl
    · obtain ⟨y1, y2⟩ := ts_n (v := 120) hT hk1 (fun h e => hx ⟨h, e⟩)
      rw [y1, bk2, if_pos rfl, y2, bk2, if_pos rfl]
      exact hfalse _ _ _ _ _ _ _ _ _ _ _ _ _ _ _ _ _ _ _ _ _ _ rfl rfl
  · have d1 : m_X3_takeDigit (nI k) 0 sg (((1023 : Int32) &&& (-((2 : Int32) <<< ((0 : Int32) &&& 31)))) &&& (((1023 : Int32) &&& (-((2 : Int32) <<< ((6 : Int32) &&& 31)))) ^^^ (-1))) = some (-1, nI 0) := tdX_n (a := 0) hT (by omega) (fun d h => by rw [hd6Tab d h.2.1]; exact decide_eq_false (fun q => h1 ⟨d, h, q.1, q.2⟩))
    have d2 : m_X6_takesDigit 0 (nI k) dg tape 1 6 = some (0, nI 0, dg) := tdM_n (a := 0) hT lo1 hi6 (by decide) (by omega) (fun d h q => h1 ⟨d, h, q.1, q.2⟩) dg
    rw [d1, bk2, if_pos rfl, d2, bk3, if_pos rfl]
    exact hfalse 0 _ _ _ _ _ _ _ _ _ _ _ _ _ _ _ _ _ _ _ _ _ rfl rfl
/-! what the reference puts by -/
def WAS (c r m : Int32) (subj teach seats col bars w : Nat → Int32) : Prop :=
  w 0 = c ∧ w 1 = r ∧ w 2 = m ∧ (∀ s : Nat, s < 16 → w (3 + 4 * s) = subj s ∧ w (4 + 4 * s) = teach s ∧ w (5 + 4 * s) = seats s ∧ w (6 + 4 * s) = col s) ∧ ∀ t : Nat, t < 10 → w (67 + t) = bars t
theorem ixTab : ∀ i, i < 16 → (3 : Int32) + ((4 : Int32) * nI i) = nI (3 + 4 * i) ∧ (4 : Int32) + ((4 : Int32) * nI i) = nI (4 + 4 * i) ∧ (5 : Int32) + ((4 : Int32) * nI i) = nI (5 + 4 * i) ∧ (6 : Int32) + ((4 : Int32) * nI i) = nI (6 + 4 * i) := by decide +kernel
theorem ixB (i : Nat) : (67 : Int32) + nI i = nI (67 + i) := by rw [show (67 : Int32) = nI 67 from rfl, nI_add]
theorem putsBy_eq (c r m : Int32) (subj teach seats col bars was : Nat → Int32) : ∃ w, m_X6_putsBy c r m subj teach seats col bars was = some w ∧ WAS c r m subj teach seats col bars w := by
  unfold m_X6_putsBy
  rw [gd_t (by decide), gd_t (by decide), gd_t (by decide), show (0 : Int32).toNatClampNeg = 0 from rfl, show (1 : Int32).toNatClampNeg = 1 from rfl, show (2 : Int32).toNatClampNeg = 2 from rfl]
  obtain ⟨Z, hZ⟩ : ∃ Z : Nat, Z = 16 := ⟨_, rfl⟩
  refine ex2 (b := m_X6_putsBy_32 subj teach seats col bars) (I := fun i w => w 0 = c ∧ w 1 = r ∧ w 2 = m ∧ (∀ s : Nat, s < i → w (3 + 4 * s) = subj s ∧ w (4 + 4 * s) = teach s ∧ w (5 + 4 * s) = seats s ∧ w (6 + 4 * s) = col s)) (Q := fun X => ∃ w, X = some w ∧ WAS c r m subj teach seats col bars w) (z := Z) (by omega) (fun rec w hI => ?_) (fun rec i hi w hI => ?_) _ ⟨?_, ?_, ?_, fun s hs => absurd hs (by omega)⟩
  · obtain ⟨h1, h2, h3, h4⟩ := hI
    unfold m_X6_putsBy_32
    rw [if_pos (show (16 : Int32) ≤ nI Z by rw [hZ]; decide)]
    obtain ⟨Y, hY⟩ : ∃ Y : Nat, Y = 10 := ⟨_, rfl⟩
    refine ex2 (b := m_X6_putsBy_111 bars) (I := fun i w => w 0 = c ∧ w 1 = r ∧ w 2 = m ∧ (∀ s : Nat, s < Z → w (3 + 4 * s) = subj s ∧ w (4 + 4 * s) = teach s ∧ w (5 + 4 * s) = seats s ∧ w (6 + 4 * s) = col s) ∧ ∀ t : Nat, t < i → w (67 + t) = bars t) (Q := fun X => ∃ w, X = some w ∧ WAS c r m subj teach seats col bars w) (z := Y) (by omega) (fun rec w hI => ?_) (fun rec i hi w hI => ?_) w ⟨h1, h2, h3, h4, fun t ht => absurd ht (by omega)⟩
    · obtain ⟨k1, k2, k3, k4, k5⟩ := hI
      unfold m_X6_putsBy_111
      rw [if_pos (show (10 : Int32) ≤ nI Y by rw [hY]; decide)]
      exact ⟨w, rfl, k1, k2, k3, fun s hs => k4 s (by omega), fun t ht => k5 t (by omega)⟩
    · left
      obtain ⟨k1, k2, k3, k4, k5⟩ := hI
      have i10 : inb (nI i) 10 = true := inb_nI (by omega) (by decide)
      have i77 : inb (nI (67 + i)) 77 = true := inb_nI (by omega) (by decide)
      have cl : (nI i).toNatClampNeg = i := nI_clamp (by omega)
      have cl2 : (nI (67 + i)).toNatClampNeg = 67 + i := nI_clamp (by omega)
      unfold m_X6_putsBy_111
      rw [if_neg (show ¬ (10 : Int32) ≤ nI i from nI_ge (a := i) (b := 10) (by omega) (by decide)), ixB, i10, gd_tt, i77, gd_tt, lt_t, nI_1, cl, cl2]
      refine ⟨_, ⟨?_, ?_, ?_, fun s hs => ⟨?_, ?_, ?_, ?_⟩, fun t ht => ?_⟩, rfl⟩
      · rw [upd_n (by omega)]; exact k1
      · rw [upd_n (by omega)]; exact k2
      · rw [upd_n (by omega)]; exact k3
      · rw [upd_n (by omega)]; exact (k4 s hs).1
      · rw [upd_n (by omega)]; exact (k4 s hs).2.1
      · rw [upd_n (by omega)]; exact (k4 s hs).2.2.1
      · rw [upd_n (by omega)]; exact (k4 s hs).2.2.2
      · by_cases e : t = i
        · subst e; rw [upd_s]
        · rw [upd_n (by omega)]; exact k5 t (by omega)
  · left
    obtain ⟨h1, h2, h3, h4⟩ := hI
    have hi16 : i < 16 := by omega
    obtain ⟨x1, x2, x3, x4⟩ := ixTab i hi16
    have i17 : inb (nI i) 17 = true := inb_nI (by omega) (by decide)
    have cl : (nI i).toNatClampNeg = i := nI_clamp (by omega)
    have j1 : inb (nI (3 + 4 * i)) 77 = true := inb_nI (by omega) (by decide)
    have j2 : inb (nI (4 + 4 * i)) 77 = true := inb_nI (by omega) (by decide)
    have j3 : inb (nI (5 + 4 * i)) 77 = true := inb_nI (by omega) (by decide)
    have j4 : inb (nI (6 + 4 * i)) 77 = true := inb_nI (by omega) (by decide)
    have c1 : (nI (3 + 4 * i)).toNatClampNeg = 3 + 4 * i := nI_clamp (by omega)
    have c2 : (nI (4 + 4 * i)).toNatClampNeg = 4 + 4 * i := nI_clamp (by omega)
    have c3 : (nI (5 + 4 * i)).toNatClampNeg = 5 + 4 * i := nI_clamp (by omega)
    have c4 : (nI (6 + 4 * i)).toNatClampNeg = 6 + 4 * i := nI_clamp (by omega)
    unfold m_X6_putsBy_32
    rw [if_neg (show ¬ (16 : Int32) ≤ nI i from nI_ge (a := i) (b := 16) (by omega) (by decide)), x1, x2, x3, x4, i17, j1, j2, j3, j4]
    simp only [gd_tt, lt_t, nI_1, cl, c1, c2, c3, c4]
    refine ⟨_, ⟨?_, ?_, ?_, fun s hs => ?_⟩, rfl⟩
    · rw [upd_n (by omega), upd_n (by omega), upd_n (by omega), upd_n (by omega)]; exact h1
    · rw [upd_n (by omega), upd_n (by omega), upd_n (by omega), upd_n (by omega)]; exact h2
    · rw [upd_n (by omega), upd_n (by omega), upd_n (by omega), upd_n (by omega)]; exact h3
    · by_cases e : s = i
      · subst e
        refine ⟨?_, ?_, ?_, ?_⟩
        · rw [upd_n (by omega), upd_n (by omega), upd_n (by omega), upd_s]
        · rw [upd_n (by omega), upd_n (by omega), upd_s]
        · rw [upd_n (by omega), upd_s]
        · rw [upd_s]
      · obtain ⟨k1, k2, k3, k4⟩ := h4 s (by omega)
        refine ⟨?_, ?_, ?_, ?_⟩
        · rw [upd_n (by omega), upd_n (by omega), upd_n (by omega), upd_n (by omega)]; exact k1
        · rw [upd_n (by omega), upd_n (by omega), upd_n (by omega), upd_n (by omega)]; exact k2
        · rw [upd_n (by omega), upd_n (by omega), upd_n (by omega), upd_n (by omega)]; exact k3
        · rw [upd_n (by omega), upd_n (by omega), upd_n (by omega), upd_n (by omega)]; exact k4
  · rw [upd_n (by decide), upd_n (by decide)]; exact upd_s
  · rw [upd_n (by decide)]; exact upd_s
  · exact upd_s
theorem putsBack_eq (c r m : Int32) (subj teach seats col bars w : Nat → Int32) : m_X6_putsBack c r m subj teach seats col bars w = some (w 0, w 1, w 2, copyF subj (fun q => w (3 + 4 * q)) 16, copyF teach (fun q => w (4 + 4 * q)) 16, copyF seats (fun q => w (5 + 4 * q)) 16, copyF col (fun q => w (6 + 4 * q)) 16, copyF bars (fun q => w (67 + q)) 10) := by
  unfold m_X6_putsBack
  rw [gd_t (by decide), lt_t, gd_t (by decide), lt_t, gd_t (by decide), lt_t, show (0 : Int32).toNatClampNeg = 0 from rfl, show (1 : Int32).toNatClampNeg = 1 from rfl, show (2 : Int32).toNatClampNeg = 2 from rfl]
  obtain ⟨Z, hZ⟩ : ∃ Z : Nat, Z = 16 := ⟨_, rfl⟩
  obtain ⟨Y, hY⟩ : ∃ Y : Nat, Y = 10 := ⟨_, rfl⟩
  have inner : ∀ (subj teach seats col : Nat → Int32), it2 (m_X6_putsBack_111 (w 0) (w 1) (w 2) subj teach seats col w) 1100 0 (copyF bars (fun q => w (67 + q)) 0) = some (w 0, w 1, w 2, subj, teach, seats, col, copyF bars (fun q => w (67 + q)) Y) := by
    intro subj teach seats col
    refine seq2 (z := Y) (fun i => nI i) (fun i => copyF bars (fun q => w (67 + q)) i) (by omega) (fun rec => ?_) (fun rec i hi => ?_)
    · unfold m_X6_putsBack_111
      rw [if_pos (show (10 : Int32) ≤ nI Y by rw [hY]; decide)]
    · have i10 : inb (nI i) 10 = true := inb_nI (by omega) (by decide)
      have i77 : inb (nI (67 + i)) 77 = true := inb_nI (by omega) (by decide)
      have cl : (nI i).toNatClampNeg = i := nI_clamp (by omega)
      have cl2 : (nI (67 + i)).toNatClampNeg = 67 + i := nI_clamp (by omega)
      unfold m_X6_putsBack_111
      rw [if_neg (show ¬ (10 : Int32) ≤ nI i from nI_ge (a := i) (b := 10) (by omega) (by decide)), ixB, i77, gd_tt, i10, gd_tt, lt_t, nI_1, cl, cl2]
      exact congrArg (fun f => rec (nI (i + 1)) f) (copyF_s bars (fun q => w (67 + q)) i)
  have main : it5 (m_X6_putsBack_32 (w 0) (w 1) (w 2) bars w) 1100 0 (copyF subj (fun q => w (3 + 4 * q)) 0) (copyF teach (fun q => w (4 + 4 * q)) 0) (copyF seats (fun q => w (5 + 4 * q)) 0) (copyF col (fun q => w (6 + 4 * q)) 0) = some (w 0, w 1, w 2, copyF subj (fun q => w (3 + 4 * q)) Z, copyF teach (fun q => w (4 + 4 * q)) Z, copyF seats (fun q => w (5 + 4 * q)) Z, copyF col (fun q => w (6 + 4 * q)) Z, copyF bars (fun q => w (67 + q)) Y) := by
    refine seq5 (z := Z) (fun i => nI i) (fun i => copyF subj (fun q => w (3 + 4 * q)) i) (fun i => copyF teach (fun q => w (4 + 4 * q)) i) (fun i => copyF seats (fun q => w (5 + 4 * q)) i) (fun i => copyF col (fun q => w (6 + 4 * q)) i) (by omega) (fun rec => ?_) (fun rec i hi => ?_)
    · unfold m_X6_putsBack_32
      have h := inner (copyF subj (fun q => w (3 + 4 * q)) Z) (copyF teach (fun q => w (4 + 4 * q)) Z) (copyF seats (fun q => w (5 + 4 * q)) Z) (copyF col (fun q => w (6 + 4 * q)) Z)
      rw [copyF_0 bars] at h
      rw [if_pos (show (16 : Int32) ≤ nI Z by rw [hZ]; decide)]
      exact h
    · have hi16 : i < 16 := by omega
      obtain ⟨x1, x2, x3, x4⟩ := ixTab i hi16
      have i17 : inb (nI i) 17 = true := inb_nI (by omega) (by decide)
      have cl : (nI i).toNatClampNeg = i := nI_clamp (by omega)
      have j1 : inb (nI (3 + 4 * i)) 77 = true := inb_nI (by omega) (by decide)
      have j2 : inb (nI (4 + 4 * i)) 77 = true := inb_nI (by omega) (by decide)
      have j3 : inb (nI (5 + 4 * i)) 77 = true := inb_nI (by omega) (by decide)
      have j4 : inb (nI (6 + 4 * i)) 77 = true := inb_nI (by omega) (by decide)
      have c1 : (nI (3 + 4 * i)).toNatClampNeg = 3 + 4 * i := nI_clamp (by omega)
      have c2 : (nI (4 + 4 * i)).toNatClampNeg = 4 + 4 * i := nI_clamp (by omega)
      have c3 : (nI (5 + 4 * i)).toNatClampNeg = 5 + 4 * i := nI_clamp (by omega)
      have c4 : (nI (6 + 4 * i)).toNatClampNeg = 6 + 4 * i := nI_clamp (by omega)
      unfold m_X6_putsBack_32
      rw [if_neg (show ¬ (16 : Int32) ≤ nI i from nI_ge (a := i) (b := 16) (by omega) (by decide)), x1, x2, x3, x4, i17, j1, j2, j3, j4]
      simp only [gd_tt, lt_t, nI_1, cl, c1, c2, c3, c4]
      rw [← copyF_s subj (fun q => w (3 + 4 * q)) i, ← copyF_s teach (fun q => w (4 + 4 * q)) i, ← copyF_s seats (fun q => w (5 + 4 * q)) i, ← copyF_s col (fun q => w (6 + 4 * q)) i]
  rw [copyF_0, copyF_0, copyF_0, copyF_0, hZ, hY] at main
  exact main
theorem desk_zero {Z : Nat} (hZ : Z = 10) (th c r m p kp tp at_ to_ dg nu : Int32) (subj teach seats col tape was bars : Nat → Int32) :
    it2 (m_X6_desk_20 th c r m p kp tp at_ to_ dg nu subj teach seats col tape was) 1100 0 bars = m_X6_desk_39 th c r m p kp tp at_ to_ dg nu subj teach seats col (outF bars 0 Z) tape was := by
  have main : it2 (m_X6_desk_20 th c r m p kp tp at_ to_ dg nu subj teach seats col tape was) 1100 0 (outF bars 0 0) = m_X6_desk_39 th c r m p kp tp at_ to_ dg nu subj teach seats col (outF bars 0 Z) tape was := by
    refine seq2 (z := Z) (fun i => nI i) (fun i => outF bars 0 i) (by omega) (fun rec => ?_) (fun rec i hi => ?_)
    · unfold m_X6_desk_20
      rw [if_pos (show (10 : Int32) ≤ nI Z by rw [hZ]; decide)]
    · have i10 : inb (nI i) 10 = true := inb_nI (by omega) (by decide)
      have cl : (nI i).toNatClampNeg = i := nI_clamp (by omega)
      unfold m_X6_desk_20
      rw [if_neg (show ¬ (10 : Int32) ≤ nI i from nI_ge (a := i) (b := 10) (by omega) (by decide)), i10, gd_tt, lt_t, nI_1, cl, outF_s]
  rw [outF_0] at main
  exact main
theorem RSec.cong {n z : Nat} {subj teach seats col msubj mteach mseats mcol subj' teach' seats' col' msubj' mteach' mseats' mcol' : Nat → Int32} (h : RSec n z subj teach seats col msubj mteach mseats mcol) (h1 : ∀ i, i < z → subj' i = subj i ∧ teach' i = teach i ∧ seats' i = seats i ∧ col' i = col i) (h2 : ∀ i, i < z → msubj' i = msubj i ∧ mteach' i = mteach i ∧ mseats' i = mseats i ∧ mcol' i = mcol i) : RSec n z subj' teach' seats' col' msubj' mteach' mseats' mcol' := fun i hi => by
  obtain ⟨a1, a2, a3, a4⟩ := h1 i hi
  obtain ⟨b1, b2, b3, b4⟩ := h2 i hi
  rw [a1, a2, a3, a4, b1, b2, b3, b4]
  exact h i hi
theorem RCw.cong {z : Nat} {subj col cw subj' col' cw' : Nat → Int32} (h : RCw z subj col cw) (h1 : ∀ i, i < z → subj' i = subj i ∧ col' i = col i) (h2 : ∀ s, s < 10 → cw' s = cw s) : RCw z subj' col' cw' := fun s hs c hc => by
  rw [h2 s hs, h s hs c hc]
  constructor
  · rintro ⟨i, hi, a, b⟩; exact ⟨i, hi, by rw [(h1 i hi).1]; exact a, by rw [(h1 i hi).2]; exact b⟩
  · rintro ⟨i, hi, a, b⟩; exact ⟨i, hi, by rw [← (h1 i hi).1]; exact a, by rw [← (h1 i hi).2]; exact b⟩
theorem cpy0 {f g : Nat → Int32} {n q : Nat} (h : q < n) : va_cpy f g 0 0 n q = f q := by
  rw [pk_cpy_in (by omega) (by omega), show 0 + (q - 0) = q by omega]
theorem sim_desk : Sim_desk := by
  intro tc told ts tg cc rc sz bars subj teach seats col cw rs rk rch xat dc dr dz dbars dsubj dteach dseats dcol dcw mt row tp tape mc mr mm mbars msubj mteach mseats mcol mp mk mch mth mat mto mdg mnu mwas hR
  obtain ⟨hrow, ⟨rfl, k, hk, rfl, ht⟩, hplan, hroll⟩ := hR
  have hT : okT k tg tape := ⟨hk, ht⟩
  obtain ⟨ok, a', cx, rx, zx, bx, sx, tx, ex, lx, wx, cm, rm, zm, dm, um, sm, tm, em, lm, bm, e1, e2, e3⟩ := read_eq hT dc dr dz dbars dsubj dteach dseats dcol dcw mc mr mbars msubj mteach mseats mcol mdg mnu
  obtain ⟨w, hw, w0, w1, w2, w3, w4⟩ := putsBy_eq mc mr mm msubj mteach mseats mcol mbars mwas
  have eM : m_X6_desk mth mc mr mm mp mk (nI k) mat mto mdg mnu msubj mteach mseats mcol mbars tape mwas = m_X6_desk_39 0 mc mr 0 mp mk 0 0 (nI k) mdg mnu msubj mteach mseats mcol (outF mbars 0 10) tape w := by
    unfold m_X6_desk m_X6_reads
    rw [bk3, hw, bk1, desk_zero rfl]
  cases ok with
  | false =>
    have exX : m_X5_desk (nI k) xat tg cc rc sz bars subj teach seats col cw dc dr dz dbars dsubj dteach dseats dcol dcw rs rk = some ((-21 : Int32) - nI a', 0, nI a', cc, rc, sz, bars, subj, teach, seats, col, cw, cx, rx, zx, bx, sx, tx, ex, lx, wx, rs, rk) := by
      unfold m_X5_desk m_X3_rewind
      rw [bk1, e1, bk11, if_pos (by decide)]
      rfl
    have emM : m_X6_desk mth mc mr mm mp mk (nI k) mat mto mdg mnu msubj mteach mseats mcol mbars tape mwas = some ((-21 : Int32) - nI a', 0, w 0, w 1, w 2, mp, mk, 0, nI a', nI k, dm, um, copyF sm (fun q => w (3 + 4 * q)) 16, copyF tm (fun q => w (4 + 4 * q)) 16, copyF em (fun q => w (5 + 4 * q)) 16, copyF lm (fun q => w (6 + 4 * q)) 16, copyF bm (fun q => w (67 + q)) 10, w) := by
      rw [eM]
      unfold m_X6_desk_39
      rw [e2, bk12, if_pos (by decide), putsBack_eq, bk8]
    rw [w0, w1, w2] at emM
    refine ⟨_, _, _, _, _, _, _, _, _, _, _, _, _, _, _, _, _, _, _, _, _, _, _, _, _, _, _, _, _, _, _, _, _, _, _, _, _, _, _, _, exX, emM, hrow, RText_0 _ _, ?_, hroll⟩
    obtain ⟨g1, g2, g3, n, r, z, hn, hr, hz, hbars, hsec, hcw, hroom⟩ := hplan
    refine ⟨g1, g2, g3, n, r, z, hn, hr, hz, fun t ht => ?_, hsec.cong (fun i _ => ⟨rfl, rfl, rfl, rfl⟩) (fun i hi => ?_), hcw, hroom⟩
    · rw [copyF_at ht, w4 t ht]
      exact hbars t ht
    · have hi16 : i < 16 := by have := hz.1; omega
      rw [copyF_at hi16, copyF_at hi16, copyF_at hi16, copyF_at hi16]
      exact w3 i hi16
  | true =>
    obtain ⟨n, r, z, hn1, hn6, hr1, hr9, rfl, rfl, rfl, rfl, rfl, rfl, hz, hbars, hsec, hcw, hroom⟩ := e3 rfl
    have exX : m_X5_desk (nI k) xat tg cc rc sz bars subj teach seats col cw dc dr dz dbars dsubj dteach dseats dcol dcw rs rk = some (nI z, 0, nI a', nI n, nI r, nI z, va_cpy bx bars 0 0 10, va_cpy sx subj 0 0 16, va_cpy tx teach 0 0 16, va_cpy ex seats 0 0 16, va_cpy lx col 0 0 16, va_cpy wx cw 0 0 10, nI n, nI r, nI z, bx, sx, tx, ex, lx, wx, 0, 0) := by
      unfold m_X5_desk m_X3_rewind
      rw [bk1, e1, bk11, if_neg (by decide)]
      rfl
    have emM : m_X6_desk mth mc mr mm mp mk (nI k) mat mto mdg mnu msubj mteach mseats mcol mbars tape mwas = some (nI z, 0, nI n, nI r, nI z, 0, 0, 0, nI a', nI k, dm, um, sm, tm, em, lm, bm, w) := by
      rw [eM]
      unfold m_X6_desk_39
      rw [e2, bk12, if_neg (by decide)]
    refine ⟨_, _, _, _, _, _, _, _, _, _, _, _, _, _, _, _, _, _, _, _, _, _, _, _, _, _, _, _, _, _, _, _, _, _, _, _, _, _, _, _, exX, emM, hrow, RText_0 _ _, ⟨rfl, rfl, rfl, n, r, z, ⟨hn1, hn6, rfl⟩, ⟨hr1, hr9, rfl⟩, ⟨hz, rfl⟩, fun t ht => ?_, ?_, ?_, ?_⟩, ⟨rfl, rfl, 0, by decide, rfl, fun p hp => absurd hp (by omega)⟩⟩
    · rw [cpy0 ht]; exact hbars t ht
    · exact hsec.cong (fun i hi => ⟨cpy0 (by omega), cpy0 (by omega), cpy0 (by omega), cpy0 (by omega)⟩) (fun i _ => ⟨rfl, rfl, rfl, rfl⟩)
    · exact hcw.cong (fun i hi => ⟨cpy0 (by omega), cpy0 (by omega)⟩) (fun s hs => cpy0 hs)
    · intro c hc
      rw [inCol_congr (mcol := lx) (fun i hi => by rw [cpy0 (show i < 16 by omega)])]
      exact hroom c hc
