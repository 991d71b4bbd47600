/-! the reference's first way -/
theorem ex2' {S R : Type} {b : (Int32 → S → Option R) → Int32 → S → Option R} {I : Nat → S → Prop} {Q : Option R → Prop} {z : Nat}
    (hexit : ∀ rec t, I z t → Q (b rec (nI z) t)) (hstep : ∀ rec i, i < z → ∀ t, I i t → (∃ t', I (i + 1) t' ∧ b rec (nI i) t = rec (nI (i + 1)) t') ∨ Q (b rec (nI i) t)) :
    ∀ (d i fuel : Nat) (t : S), i + d = z → d < fuel → I i t → Q (it2 b fuel (nI i) t)
  | 0, i, fuel + 1, t, h, _, hI => by
    have : i = z := by omega
    subst this
    exact hexit _ t hI
  | d + 1, i, fuel + 1, t, h, hf, hI => by
    show Q (b (it2 b fuel) (nI i) t)
    rcases hstep (it2 b fuel) i (by omega) t hI with ⟨t', h1, h2⟩ | h2
    · rw [h2]
      exact ex2' hexit hstep d (i + 1) fuel t' (by omega) (by omega) h1
    · exact h2
theorem ex2 {S R : Type} {b : (Int32 → S → Option R) → Int32 → S → Option R} {I : Nat → S → Prop} {Q : Option R → Prop} {z : Nat} (hz : z < 1100)
    (hexit : ∀ rec t, I z t → Q (b rec (nI z) t)) (hstep : ∀ rec i, i < z → ∀ t, I i t → (∃ t', I (i + 1) t' ∧ b rec (nI i) t = rec (nI (i + 1)) t') ∨ Q (b rec (nI i) t)) (t : S) (hI : I 0 t) : Q (it2 b 1100 0 t) :=
  ex2' hexit hstep z 0 1100 t (by omega) hz hI
theorem blN_nd (b : Nat) : (blN b).Nodup := List.Pairwise.filter _ List.nodup_range
theorem blN_mem {b s : Nat} (h : s ∈ blN b) : s < 10 := List.mem_range.mp (List.mem_filter.mp h).1
theorem it5_s {A0 A1 A2 A3 A4 B : Type} {b : (A0 → A1 → A2 → A3 → A4 → Option B) → A0 → A1 → A2 → A3 → A4 → Option B} {f g : Nat} (h : f = g + 1) (a0 : A0) (a1 : A1) (a2 : A2) (a3 : A3) (a4 : A4) : it5 b f a0 a1 a2 a3 a4 = b (it5 b g) a0 a1 a2 a3 a4 := by subst h; rfl
theorem findsM {n : Nat} (hn : n ≤ 6) {op : Nat → Int32} (ho : ∀ s, s < 10 → ∀ c, n ≤ c → bt (op s) c = false) : ∀ (dd b u : Nat) (wo : Nat → Int32), b < 1024 → u < 64 → (blN b).length < dd →
    ∃ wo', m_X6_findsFirst dd (nI n) op wo (nI b) (nI u) = some (fl (wy op (blN b) u), wo') ∧ (∀ q, q ∉ blN b → wo' q = wo q) ∧ (wy op (blN b) u = true → ∃ L, isFW op (blN b) u L ∧ (blN b).map wo' = L.map nI) := by
  intro dd
  induction dd with
  | zero => intro b u wo _ _ h; exact absurd h (by omega)
  | succ dd ih =>
    intro b u wo hb hu hlen
    unfold m_X6_findsFirst
    rw [it5_s rfl]
    have hIH : ∀ (b u : Nat) (wo : Nat → Int32), b < 1024 → u < 64 → (blN b).length < dd → ∃ wo', it5 m_X6_findsFirst_B dd (nI n) op wo (nI b) (nI u) = some (fl (wy op (blN b) u), wo') ∧ (∀ q, q ∉ blN b → wo' q = wo q) ∧ (wy op (blN b) u = true → ∃ L, isFW op (blN b) u L ∧ (blN b).map wo' = L.map nI) := ih
    generalize it5 m_X6_findsFirst_B dd = self at hIH
    unfold m_X6_findsFirst_B
    cases h : blN b with
    | nil =>
      have := blN_nil hb h
      subst this
      rw [if_pos nI_0]
      exact ⟨wo, rfl, fun q _ => rfl, fun _ => ⟨[], rfl, rfl⟩⟩
    | cons s S =>
      obtain ⟨h1, h2, h3, h4⟩ := blN_cons hb h
      have hne : ¬ nI b = 0 := by
        rw [nI_zero (by omega)]
        rintro rfl
        cases h
      have hl : S.length < dd := by rw [h] at hlen; simp at hlen; omega
      have hlt : b &&& (b - 1) < 1024 := Nat.lt_of_le_of_lt Nat.and_le_left hb
      have hnd : s ∉ S := by
        have := blN_nd b
        rw [h] at this
        exact (List.nodup_cons.mp this).1
      have i10 : inb (nI s) 10 = true := inb_nI h4 (by decide)
      have cs : (nI s).toNatClampNeg = s := nI_clamp (by omega)
      rw [if_neg hne, h1, bk1]
      refine ex2 (b := m_X6_findsFirst_14 (nI n) op (nI b) (nI u) (nI s) self) (I := fun c w => (∀ q, q ∉ s :: S → w q = wo q) ∧ (∀ k, k < c → ¬ (bt (op s) k = true ∧ u.testBit k = false ∧ wy op S (u ||| 2 ^ k) = true)))
        (Q := fun X => ∃ wo', X = some (fl (wy op (s :: S) u), wo') ∧ (∀ q, q ∉ s :: S → wo' q = wo q) ∧ (wy op (s :: S) u = true → ∃ L, isFW op (s :: S) u L ∧ (s :: S).map wo' = L.map nI)) (z := n) (by omega) (fun rec w hI => ?_) (fun rec c hc w hI => ?_) wo ⟨fun q _ => rfl, fun k hk => absurd hk (by omega)⟩
      · have hw : wy op (s :: S) u = false := by
          cases e : wy op (s :: S) u
          · rfl
          · obtain ⟨c, hc, a1, a2, a3⟩ := (wy_iff op s S u).mp e
            have hcn : c < n := by
              rcases Nat.lt_or_ge c n with hh | hh
              · exact hh
              · rw [ho s h4 c hh] at a1; cases a1
            exact absurd ⟨a1, a2, a3⟩ (hI.2 c hcn)
        unfold m_X6_findsFirst_14
        refine ⟨w, ?_, hI.1, fun e => by rw [hw] at e; cases e⟩
        rw [if_pos (Int32.le_refl _), hw]
        rfl
      · have hbt : bt (op s &&& (nI u ^^^ (-1))) c = (bt (op s) c && !u.testBit c) := by
          rw [b_and, p_not _ (by omega), p_nbit]
          have : c < 32 := by omega
          simp [this]
        obtain ⟨w', g1, g2, g3⟩ := hIH (b &&& (b - 1)) (u ||| 2 ^ c) (upd w s (nI c)) hlt (or_lt64 hu (by omega)) (by rw [h3]; exact hl)
        rw [h3] at g1 g2 g3
        have hbody : m_X6_findsFirst_14 (nI n) op (nI b) (nI u) (nI s) self rec (nI c) w = if (bt (op s) c && !u.testBit c) = true then (if wy op S (u ||| 2 ^ c) = true then some (1, w') else rec (nI (c + 1)) w') else rec (nI (c + 1)) w := by
          unfold m_X6_findsFirst_14
          rw [if_neg (nI_ge hc (by omega)), i10, gd_tt, cs, has_eq (by omega), bk1, hbt, gd_tt, (one_shl c (by omega)).1, h2, p_lor, g1, bk2]
          simp only [fl_0, lt_t, nI_1]
          cases (bt (op s) c && !u.testBit c)
          · simp only [Bool.false_eq_true, ↓reduceIte]
          · cases wy op S (u ||| 2 ^ c)
            · simp only [↓reduceIte, e10, Bool.false_eq_true]
            · simp only [↓reduceIte, e10, Bool.true_eq_false]
        rw [hbody]
        cases e1 : (bt (op s) c && !u.testBit c)
        · left
          refine ⟨w, ⟨hI.1, fun k hk => ?_⟩, by simp only [Bool.false_eq_true, ↓reduceIte]⟩
          by_cases ek : k = c
          · subst ek
            rintro ⟨a1, a2, -⟩
            rw [a1, a2] at e1; cases e1
          · exact hI.2 k (by omega)
        · rw [Bool.and_eq_true, Bool.not_eq_true'] at e1
          cases e2 : wy op S (u ||| 2 ^ c)
          · left
            refine ⟨w', ⟨fun q hq => ?_, fun k hk => ?_⟩, by simp only [↓reduceIte, Bool.false_eq_true]⟩
            · rw [g2 q (fun hh => hq (List.mem_cons_of_mem _ hh)), upd_n (show q ≠ s from fun hh => hq (by rw [hh]; exact List.mem_cons_self))]
              exact hI.1 q hq
            · by_cases ek : k = c
              · subst ek
                rintro ⟨-, -, a3⟩
                rw [e2] at a3; cases a3
              · exact hI.2 k (by omega)
          · right
            have hw : wy op (s :: S) u = true := (wy_iff op s S u).mpr ⟨c, by omega, e1.1, e1.2, e2⟩
            refine ⟨w', by simp only [↓reduceIte, hw, fl], fun q hq => ?_, fun _ => ?_⟩
            · rw [g2 q (fun hh => hq (List.mem_cons_of_mem _ hh)), upd_n (show q ≠ s from fun hh => hq (by rw [hh]; exact List.mem_cons_self))]
              exact hI.1 q hq
            · obtain ⟨L, k1, k2⟩ := g3 e2
              refine ⟨c :: L, ⟨c, L, rfl, by omega, e1.1, e1.2, e2, hI.2, k1⟩, ?_⟩
              rw [List.map_cons, List.map_cons, k2, g2 s hnd, upd_s]
/-! how many ways -/
def nw (cw : Nat → Int32) : List Nat → Nat → Nat
  | [], _ => 1
  | s :: S, u => ((List.range 6).map (fun c => if (bt (cw s) c && !u.testBit c) = true then nw cw S (u ||| 2 ^ c) else 0)).sum
theorem map_sum_congr {f g : Nat → Nat} : ∀ {l : List Nat}, (∀ c ∈ l, f c = g c) → (l.map f).sum = (l.map g).sum
  | [], _ => rfl
  | a :: l, h => by rw [List.map_cons, List.map_cons, List.sum_cons, List.sum_cons, h a List.mem_cons_self, map_sum_congr (fun c hc => h c (List.mem_cons_of_mem _ hc))]
theorem nw_congr {cw cv : Nat → Int32} : ∀ {S : List Nat} {u : Nat}, (∀ s ∈ S, ∀ c, c < 6 → bt (cw s) c = bt (cv s) c) → nw cw S u = nw cv S u
  | [], _, _ => rfl
  | s :: S, u, h => by
    rw [nw, nw]
    refine map_sum_congr (fun c hc => ?_)
    rw [h s List.mem_cons_self c (List.mem_range.mp hc), nw_congr (fun s' hs' => h s' (List.mem_cons_of_mem _ hs'))]
theorem sum_filter {p : Nat → Bool} {g : Nat → Nat} : ∀ {l : List Nat}, ((l.filter p).map g).sum = (l.map (fun c => if p c = true then g c else 0)).sum
  | [] => rfl
  | a :: l => by
    rw [List.filter_cons, List.map_cons, List.sum_cons, ← sum_filter (l := l)]
    by_cases h : p a = true
    · rw [if_pos h, if_pos h, List.map_cons, List.sum_cons]
    · rw [if_neg h, if_neg h, Nat.zero_add]
theorem wayloop {W : Nat → Nat} {op : Nat → Int32} {v1 v2 : Int32} {self : (Nat → Int32) → Int32 → Int32 → Option Int32} (hself : ∀ c, c < 6 → self op (v1 &&& (v1 - 1)) (v2 ||| nI (2 ^ c)) = some (nI (W c))) :
    ∀ (f : Nat), f < 64 → ∀ fuel a, f < fuel → it2 (m_X6_waysOf_27 op v1 v2 self) fuel (nI a) (nI f) = some (nI (a + ((bl6 f).map W).sum)) := by
  intro f
  induction f using Nat.strongRecOn with
  | _ f ih =>
    intro hf fuel a hfu
    cases fuel with
    | zero => exact absurd hfu (by omega)
    | succ fuel =>
      show m_X6_waysOf_27 op v1 v2 self (it2 (m_X6_waysOf_27 op v1 v2 self) fuel) (nI a) (nI f) = _
      have hh := ih (f &&& (f - 1))
      generalize it2 (m_X6_waysOf_27 op v1 v2 self) = F at hh ⊢
      unfold m_X6_waysOf_27
      cases h : bl6 f with
      | nil =>
        have := bl6_nil hf h
        subst this
        rw [if_pos nI_0]; rfl
      | cons c C =>
        obtain ⟨h1, h2, h3, h4, h5⟩ := bl6_cons hf h
        have hne : ¬ nI f = 0 := by
          rw [nI_zero (by omega)]
          rintro rfl
          cases h
        rw [if_neg hne, h1, hself c h4, bk1, lt_t, lt_t, h2, nI_add, hh h5 (by omega) fuel (a + W c) (by omega), h3, List.map_cons, List.sum_cons, Nat.add_assoc]
theorem waysM {op : Nat → Int32} (ho : small6 op) : ∀ (dd b u : Nat), b < 1024 → u < 64 → (blN b).length < dd → m_X6_waysOf dd op (nI b) (nI u) = some (nI (nw op (blN b) u)) := by
  intro dd
  induction dd with
  | zero => intro b u _ _ h; exact absurd h (by omega)
  | succ dd ih =>
    intro b u hb hu hlen
    show m_X6_waysOf_B (it3 m_X6_waysOf_B dd) op (nI b) (nI u) = _
    have hIH : ∀ (b u : Nat), b < 1024 → u < 64 → (blN b).length < dd → it3 m_X6_waysOf_B dd op (nI b) (nI u) = some (nI (nw op (blN b) u)) := ih
    generalize it3 m_X6_waysOf_B dd = self at hIH
    unfold m_X6_waysOf_B
    cases h : blN b with
    | nil =>
      have := blN_nil hb h
      subst this
      rw [if_pos nI_0]; rfl
    | cons s S =>
      obtain ⟨h1, h2, h3, h4⟩ := blN_cons hb h
      have hne : ¬ nI b = 0 := by
        rw [nI_zero (by omega)]
        rintro rfl
        cases h
      obtain ⟨f, hf, hfe, hfb⟩ := free_eq ho h4 hu
      rw [if_neg hne, h1, bk1, gd_t (inb_nI h4 (by decide)), lt_t, nI_clamp (by omega), hfe]
      have hl : S.length < dd := by rw [h] at hlen; simp at hlen; omega
      have hself : ∀ c, c < 6 → self op (nI b &&& (nI b - 1)) (nI u ||| nI (2 ^ c)) = some (nI (nw op S (u ||| 2 ^ c))) := by
        intro c hc
        have hlt : b &&& (b - 1) < 1024 := Nat.lt_of_le_of_lt Nat.and_le_left hb
        have := hIH (b &&& (b - 1)) (u ||| 2 ^ c) hlt (or_lt64 hu hc) (by rw [h3]; exact hl)
        rw [h3] at this
        rw [h2, p_lor]; exact this
      have hw := wayloop hself f hf 1100 0 (by omega)
      rw [nI_0] at hw
      rw [hw, Nat.zero_add]
      congr 2
      unfold bl6
      rw [sum_filter, nw]
      exact map_sum_congr (fun c hc => by rw [hfb c (List.mem_range.mp hc)])
