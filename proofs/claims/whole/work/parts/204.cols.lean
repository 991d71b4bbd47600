/-! sections in columns -/
theorem or_ite {acc x : Int32} {p : Prop} [Decidable p] : (if p then acc ||| x else acc ||| 0) = acc ||| (if p then x else 0) := by by_cases h : p <;> simp [h]
theorem sectionsIn_eq {z : Nat} (hz : z ≤ 16) (col : Nat → Int32) (v : Int32) : m_X0_sectionsIn (nI z) col v = some (msk (fun i => decide (col i = v)) z) := by
  unfold m_X0_sectionsIn
  refine mask_loop0 (E := fun x => some x) (by omega) (fun rec acc => ?_) (fun rec i hi acc => ?_)
  · unfold m_X0_sectionsIn_4; rw [if_pos (Int32.le_refl _)]
  · have i16 : inb (nI i) 16 = true := inb_nI (by omega) (by decide)
    have cl : (nI i).toNatClampNeg = i := nI_clamp (by omega)
    unfold m_X0_sectionsIn_4
    by_cases h : col i = v
    · simp only [nI_ge hi (show z < 2 ^ 31 by omega), ↓reduceIte, i16, gd_tt, cl, lt_t, h, decide_true]
    · simp only [nI_ge hi (show z < 2 ^ 31 by omega), ↓reduceIte, i16, gd_tt, cl, lt_t, h, decide_false, Bool.false_eq_true]
theorem inColumn_eq {z : Nat} (hz : z ≤ 17) (col : Nat → Int32) (v : Int32) : m_X6_inColumn (nI z) col v = some (msk (fun i => decide (col i = v)) z) := by
  unfold m_X6_inColumn
  refine mask_loop0 (E := fun x => some x) (by omega) (fun rec acc => ?_) (fun rec i hi acc => ?_)
  · unfold m_X6_inColumn_4; rw [if_pos (Int32.le_refl _)]
  · have i17 : inb (nI i) 17 = true := inb_nI (by omega) (by decide)
    have cl : (nI i).toNatClampNeg = i := nI_clamp (by omega)
    unfold m_X6_inColumn_4
    by_cases h : col i = v
    · simp only [nI_ge hi (show z < 2 ^ 31 by omega), ↓reduceIte, i17, gd_tt, cl, lt_t, h, decide_true]
    · simp only [nI_ge hi (show z < 2 ^ 31 by omega), ↓reduceIte, i17, gd_tt, cl, lt_t, h, decide_false, Bool.false_eq_true]
theorem outs_eq {z : Nat} (hz : z ≤ 17) (col : Nat → Int32) : m_X6_outs (nI z) col = some (msk (fun i => decide (col i = -2)) z) := by
  unfold m_X6_outs
  refine mask_loop0 (E := fun x => some x) (by omega) (fun rec acc => ?_) (fun rec i hi acc => ?_)
  · unfold m_X6_outs_4; rw [if_pos (Int32.le_refl _)]
  · have i17 : inb (nI i) 17 = true := inb_nI (by omega) (by decide)
    have cl : (nI i).toNatClampNeg = i := nI_clamp (by omega)
    unfold m_X6_outs_4
    by_cases h : col i = -2
    · simp only [nI_ge hi (show z < 2 ^ 31 by omega), ↓reduceIte, i17, gd_tt, cl, lt_t, h, decide_true]
    · simp only [nI_ge hi (show z < 2 ^ 31 by omega), ↓reduceIte, i17, gd_tt, cl, lt_t, h, decide_false, Bool.false_eq_true]
/-- how the two tell of one column -/
theorem RSec.colI {n z : Nat} {subj teach seats col msubj mteach mseats mcol : Nat → Int32} (h : RSec n z subj teach seats col msubj mteach mseats mcol) {i : Nat} (hi : i < z) {c : Nat} (hc : c < 2 ^ 31) : (col i = nI c) ↔ (mcol i = nI c) := by
  rcases (h i hi).2.2.2.2.2.2 with ⟨a1, a2⟩ | ⟨a, ha, a1, a2⟩
  · rw [a1, a2]; exact ⟨fun e => absurd e.symm (nI_nm1 hc), fun e => absurd e.symm (nI_nm2 hc)⟩
  · rw [a1, a2]
theorem RSec.outI {n z : Nat} {subj teach seats col msubj mteach mseats mcol : Nat → Int32} (h : RSec n z subj teach seats col msubj mteach mseats mcol) (hn : n ≤ 6) {i : Nat} (hi : i < z) : (col i = -1) ↔ (mcol i = -2) := by
  rcases (h i hi).2.2.2.2.2.2 with ⟨a1, a2⟩ | ⟨a, ha, a1, a2⟩
  · rw [a1, a2]; exact ⟨fun _ => rfl, fun _ => rfl⟩
  · rw [a1, a2]; exact ⟨fun e => absurd e (nI_nm1 (by omega)), fun e => absurd e (nI_nm2 (by omega))⟩
theorem RSec.mskI {n z : Nat} {subj teach seats col msubj mteach mseats mcol : Nat → Int32} (h : RSec n z subj teach seats col msubj mteach mseats mcol) {c : Nat} (hc : c < 2 ^ 31) : msk (fun i => decide (col i = nI c)) z = msk (fun i => decide (mcol i = nI c)) z :=
  msk_congr (fun i hi => decide_eq_decide.mpr (h.colI hi hc))
theorem RSec.mskO {n z : Nat} {subj teach seats col msubj mteach mseats mcol : Nat → Int32} (h : RSec n z subj teach seats col msubj mteach mseats mcol) (hn : n ≤ 6) : msk (fun i => decide (col i = -1)) z = msk (fun i => decide (mcol i = -2)) z :=
  msk_congr (fun i hi => decide_eq_decide.mpr (h.outI hn hi))
theorem pop_msk (P : Nat → Bool) {n : Nat} (hn : n ≤ 32) : pop (msk P n) = (List.range n).countP P := by
  have h1 : pop (msk P n) = (List.range 32).countP (fun i => decide (i < n) && P i) := by
    unfold pop
    refine List.countP_congr (fun i _ => ?_)
    rw [msk_bt P n hn i]
  have h2 : List.range 32 = List.range n ++ (List.range (32 - n)).map (fun x => n + x) := by
    rw [← List.range_add]; congr 1; omega
  rw [h1, h2, List.countP_append, List.countP_map]
  have h3 : (List.range (32 - n)).countP ((fun i => decide (i < n) && P i) ∘ fun x => n + x) = 0 := by
    rw [List.countP_eq_zero]
    intro a _
    have : ¬ n + a < n := by omega
    simp [this]
  rw [h3, Nat.add_zero]
  refine List.countP_congr (fun i hi => ?_)
  have := List.mem_range.mp hi
  simp [this]
theorem inCol_eq (col : Nat → Int32) (c : Nat) : ∀ z, inCol col c z = (List.range z).countP (fun i => decide (col i = nI c))
  | 0 => rfl
  | z + 1 => by
    rw [inCol, inCol_eq col c z, List.range_succ, List.countP_append]
    congr 1
    by_cases h : col z = nI c
    · simp [h]
    · simp [h]
theorem pop_inCol (col : Nat → Int32) (c : Nat) {z : Nat} (hz : z ≤ 32) : pop (msk (fun i => decide (col i = nI c)) z) = inCol col c z := by rw [pop_msk _ hz, inCol_eq]
/-! finding loops -/
theorem find1_no {R : Type} {b : (Int32 → Option R) → Int32 → Option R} {z : Nat} {E : Option R} (hz : z < 1100)
    (hexit : ∀ rec, b rec (nI z) = E) (hstep : ∀ rec i, i < z → b rec (nI i) = rec (nI i + 1)) : it1 b 1100 0 = E :=
  seq1 (fun i => nI i) hz hexit (fun rec i hi => by rw [hstep rec i hi, nI_1])
theorem find1_yes {R : Type} {b : (Int32 → Option R) → Int32 → Option R} {z : Nat} {F : Option R} (hz : z < 1100)
    (hfound : ∀ rec, b rec (nI z) = F) (hstep : ∀ rec i, i < z → b rec (nI i) = rec (nI i + 1)) : it1 b 1100 0 = F := find1_no hz hfound hstep
/-- the first of those below z for which P holds -/
theorem first_or (P : Nat → Prop) (z : Nat) : (∀ i, i < z → ¬ P i) ∨ ∃ i, i < z ∧ P i ∧ ∀ k, k < i → ¬ P k := by
  induction z with
  | zero => exact Or.inl (fun i hi => absurd hi (by omega))
  | succ z ih =>
    rcases ih with h | ⟨i, hi, hp, hk⟩
    · by_cases hp : P z
      · exact Or.inr ⟨z, by omega, hp, h⟩
      · refine Or.inl (fun i hi => ?_)
        by_cases e : i = z
        · subst e; exact hp
        · exact h i (by omega)
    · exact Or.inr ⟨i, by omega, hp, hk⟩
