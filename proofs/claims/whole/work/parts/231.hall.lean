/-! Hall's theorem for ways -/
theorem wy_mono_u {cw : Nat → Int32} : ∀ {S : List Nat} {u v : Nat}, (∀ c, u.testBit c = true → v.testBit c = true) → wy cw S v = true → wy cw S u = true
  | [], _, _, _, _ => rfl
  | s :: S, u, v, h, hw => by
    obtain ⟨c, hc, h1, h2, h3⟩ := (wy_iff cw s S v).mp hw
    refine (wy_iff cw s S u).mpr ⟨c, hc, h1, ?_, wy_mono_u (fun d hd => ?_) h3⟩
    · cases e : u.testBit c
      · rfl
      · rw [h c e] at h2; cases h2
    · rw [tb_or, Bool.or_eq_true] at hd ⊢
      rcases hd with hd | hd
      · exact Or.inl (h d hd)
      · exact Or.inr hd
theorem wy_app {cw : Nat → Int32} {R : List Nat} {W : Nat} : ∀ {T : List Nat} {u : Nat}, (∀ c, u.testBit c = true → W.testBit c = true) → (∀ t ∈ T, ∀ c, c < 6 → bt (cw t) c = true → W.testBit c = true) → wy cw T u = true → wy cw R W = true → wy cw (T ++ R) u = true
  | [], u, h1, _, _, hR => wy_mono_u h1 hR
  | t :: T, u, h1, h2, hT, hR => by
    obtain ⟨c, hc, a1, a2, a3⟩ := (wy_iff cw t T u).mp hT
    refine (wy_iff cw t (T ++ R) u).mpr ⟨c, hc, a1, a2, wy_app (fun d hd => ?_) (fun x hx => h2 x (List.mem_cons_of_mem _ hx)) a3 hR⟩
    rw [tb_or, Bool.or_eq_true] at hd
    rcases hd with hd | hd
    · exact h1 d hd
    · have : c = d := of_decide_eq_true hd
      subst this
      exact h2 t List.mem_cons_self c hc a1
def mkN (P : Nat → Bool) : Nat → Nat
  | 0 => 0
  | k + 1 => if P k = true then mkN P k ||| 2 ^ k else mkN P k
theorem mkN_bit (P : Nat → Bool) : ∀ k c, (mkN P k).testBit c = (decide (c < k) && P c)
  | 0, c => by simp [mkN]
  | k + 1, c => by
    rw [mkN]
    by_cases hp : P k = true
    · rw [if_pos hp, tb_or, mkN_bit P k c]
      by_cases e : c = k
      · subst e; simp [hp]
      · have h1 : (c < k + 1) ↔ c < k := by omega
        have h2 : ¬ k = c := fun z => e z.symm
        simp [h1, h2]
    · rw [if_neg hp, mkN_bit P k c]
      by_cases e : c = k
      · subst e; simp [hp]
      · have h1 : (c < k + 1) ↔ c < k := by omega
        simp [h1]
def nbr (cw : Nat → Int32) (S : List Nat) (p : Nat → Bool) (u c : Nat) : Bool := S.any (fun s => p s && bt (cw s) c) && !u.testBit c
theorem nbr_iff (cw : Nat → Int32) (S : List Nat) (p : Nat → Bool) (u c : Nat) : nbr cw S p u c = true ↔ (∃ s, s ∈ S ∧ p s = true ∧ bt (cw s) c = true) ∧ u.testBit c = false := by
  unfold nbr
  rw [Bool.and_eq_true, List.any_eq_true, Bool.not_eq_true']
  constructor
  · rintro ⟨⟨s, h1, h2⟩, h3⟩
    rw [Bool.and_eq_true] at h2
    exact ⟨⟨s, h1, h2.1, h2.2⟩, h3⟩
  · rintro ⟨⟨s, h1, h2, h4⟩, h3⟩
    exact ⟨⟨s, h1, by rw [h2, h4]; rfl⟩, h3⟩
theorem countP_mono {p q : Nat → Bool} : ∀ {l : List Nat}, (∀ x ∈ l, p x = true → q x = true) → l.countP p ≤ l.countP q := fun {l} h => by
  have := countP_or_le (l := l) (p := p) (q := q) (r := fun _ => false) (fun x hx hp => Or.inl (h x hx hp))
  have e : l.countP (fun _ => false) = 0 := List.countP_eq_zero.mpr (fun _ _ => by simp)
  omega
theorem countP_split {p q : Nat → Bool} : ∀ (l : List Nat), l.countP p + l.countP (fun s => q s && !p s) ≤ l.countP (fun s => p s || q s)
  | [] => by simp
  | a :: l => by
    have ih := countP_split (p := p) (q := q) l
    rw [List.countP_cons, List.countP_cons, List.countP_cons]
    cases p a <;> cases q a <;> simp <;> omega
theorem countP_one6 (c : Nat) (hc : c < 6) : (List.range 6).countP (fun x => decide (x = c)) ≤ 1 := by
  have : ∀ c, c < 6 → (List.range 6).countP (fun x => decide (x = c)) ≤ 1 := by decide +kernel
  exact this c hc
theorem hall {cw : Nat → Int32} : ∀ (n : Nat) (S : List Nat) (u : Nat), S.length ≤ n → S.Nodup → (∀ p : Nat → Bool, S.countP p ≤ (List.range 6).countP (nbr cw S p u)) → wy cw S u = true := by
  intro n
  induction n with
  | zero =>
    intro S u hl _ _
    have : S = [] := List.eq_nil_of_length_eq_zero (by omega)
    subst this
    rfl
  | succ n ih =>
    intro S u hl hnd hH
    by_cases hB : ∃ p : Nat → Bool, 0 < S.countP p ∧ S.countP p < S.length ∧ (List.range 6).countP (nbr cw S p u) ≤ S.countP p
    · obtain ⟨p, b1, b2, b3⟩ := hB
      have hT : wy cw (S.filter p) u = true := by
        refine ih (S.filter p) u ?_ (List.Pairwise.filter p hnd) (fun q => ?_)
        · rw [← List.countP_eq_length_filter]; omega
        · rw [List.countP_filter]
          refine Nat.le_trans (hH (fun a => q a && p a)) (countP_mono (fun c _ hc => ?_))
          obtain ⟨⟨s, k1, k2, k3⟩, k4⟩ := (nbr_iff _ _ _ _ _).mp hc
          simp only [Bool.and_eq_true] at k2
          exact (nbr_iff _ _ _ _ _).mpr ⟨⟨s, List.mem_filter.mpr ⟨k1, k2.2⟩, k2.1, k3⟩, k4⟩
      have hW : ∀ c, (u ||| mkN (fun c => S.any (fun s => p s && bt (cw s) c)) 6).testBit c = (u.testBit c || (decide (c < 6) && S.any (fun s => p s && bt (cw s) c))) := fun c => by rw [Nat.testBit_or, mkN_bit]
      generalize u ||| mkN (fun c => S.any (fun s => p s && bt (cw s) c)) 6 = W at hW
      have hRl : (S.filter (fun s => !p s)).length + S.countP p = S.length := by
        have := List.Perm.length_eq (List.filter_append_perm p S)
        rw [List.length_append, ← List.countP_eq_length_filter] at this
        omega
      have hR : wy cw (S.filter (fun s => !p s)) W = true := by
        refine ih _ W (by omega) (List.Pairwise.filter _ hnd) (fun q => ?_)
        rw [List.countP_filter]
        have h1 := hH (fun a => p a || q a)
        have h2 := countP_split (p := p) (q := q) S
        have h3 : (List.range 6).countP (nbr cw S (fun a => p a || q a) u) ≤ (List.range 6).countP (nbr cw S p u) + (List.range 6).countP (nbr cw (S.filter (fun s => !p s)) q W) := by
          refine countP_or_le (fun c hc6 hc => ?_)
          have hc6 : c < 6 := List.mem_range.mp hc6
          obtain ⟨⟨s, k1, k2, k3⟩, k4⟩ := (nbr_iff _ _ _ _ _).mp hc
          by_cases hp : ∃ s, s ∈ S ∧ p s = true ∧ bt (cw s) c = true
          · exact Or.inl ((nbr_iff _ _ _ _ _).mpr ⟨hp, k4⟩)
          · refine Or.inr ((nbr_iff _ _ _ _ _).mpr ⟨⟨s, List.mem_filter.mpr ⟨k1, ?_⟩, ?_, k3⟩, ?_⟩)
            · cases e : p s
              · rfl
              · exact absurd ⟨s, k1, e, k3⟩ hp
            · cases e : p s
              · rw [e] at k2; simpa using k2
              · exact absurd ⟨s, k1, e, k3⟩ hp
            · rw [hW, k4]
              cases e : S.any (fun s => p s && bt (cw s) c)
              · simp
              · obtain ⟨x, x1, x2⟩ := List.any_eq_true.mp e
                rw [Bool.and_eq_true] at x2
                exact absurd ⟨x, x1, x2.1, x2.2⟩ hp
        omega
      refine wy_perm1 (List.filter_append_perm p S) u (wy_app (W := W) (fun c hc => by rw [hW, hc]; rfl) (fun t ht c hc hb => ?_) hT hR)
      obtain ⟨t1, t2⟩ := List.mem_filter.mp ht
      have : S.any (fun s => p s && bt (cw s) c) = true := List.any_eq_true.mpr ⟨t, t1, by rw [t2, hb]; rfl⟩
      rw [hW, this]
      simp [hc]
    · cases S with
      | nil => rfl
      | cons s S =>
        obtain ⟨hs, hnd'⟩ := List.nodup_cons.mp hnd
        have h1 := hH (fun x => decide (x = s))
        have h2 : 0 < (List.range 6).countP (nbr cw (s :: S) (fun x => decide (x = s)) u) := by
          rw [List.countP_cons] at h1
          simp only [decide_true, ↓reduceIte] at h1
          omega
        obtain ⟨c, c1, c2⟩ := List.countP_pos_iff.mp h2
        have hc6 : c < 6 := List.mem_range.mp c1
        obtain ⟨⟨x, -, k2, k3⟩, k4⟩ := (nbr_iff _ _ _ _ _).mp c2
        have : x = s := of_decide_eq_true k2
        subst this
        refine (wy_iff cw x S u).mpr ⟨c, hc6, k3, k4, ih S (u ||| 2 ^ c) (by rw [List.length_cons] at hl; omega) hnd' (fun p => ?_)⟩
        by_cases hp0 : S.countP p = 0
        · omega
        · have e1 : (x :: S).countP (fun y => p y && decide (¬ y = x)) = S.countP p := by
            rw [List.countP_cons]
            have : S.countP (fun y => p y && decide (¬ y = x)) = S.countP p := by
              refine List.countP_congr (fun y hy => ?_)
              have : ¬ y = x := fun e => hs (e ▸ hy)
              simp [this]
            rw [this]
            simp
          have hle : S.countP p ≤ S.length := List.countP_le_length
          have h5 : ¬ (List.range 6).countP (nbr cw (x :: S) (fun y => p y && decide (¬ y = x)) u) ≤ (x :: S).countP (fun y => p y && decide (¬ y = x)) := fun h => hB ⟨_, by rw [e1]; omega, by rw [e1, List.length_cons]; omega, h⟩
          rw [e1] at h5
          have h6 : (List.range 6).countP (nbr cw (x :: S) (fun y => p y && decide (¬ y = x)) u) ≤ (List.range 6).countP (nbr cw S p (u ||| 2 ^ c)) + (List.range 6).countP (fun y => decide (y = c)) := by
            refine countP_or_le (fun d _ hd => ?_)
            by_cases e : d = c
            · exact Or.inr (decide_eq_true e)
            · obtain ⟨⟨y, j1, j2, j3⟩, j4⟩ := (nbr_iff _ _ _ _ _).mp hd
              rw [Bool.and_eq_true] at j2
              have hyx : ¬ y = x := of_decide_eq_true j2.2
              refine Or.inl ((nbr_iff _ _ _ _ _).mpr ⟨⟨y, ?_, j2.1, j3⟩, ?_⟩)
              · rcases List.mem_cons.mp j1 with h | h
                · exact absurd h hyx
                · exact h
              · rw [tb_or, j4]
                have : ¬ c = d := fun z => e z.symm
                simp [this]
          have h7 := countP_one6 c hc6
          omega
