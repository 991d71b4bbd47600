/-! putAt, in a form that reduces fast on long worlds -/
theorem beq_f {i k : Nat} (h : i ≠ k) : Nat.beq i k = false := by
  cases e : Nat.beq i k with
  | false => rfl
  | true => exact absurd (Nat.eq_of_beq_eq_true e) h
def putP (k : Nat) (c : Nat × va_E) : List Nat → va_W → Nat × va_E
  | i :: is, x :: xs => bif Nat.beq i k then x else putP k c is xs
  | _, _ => c
def putG (is : List Nat) (xs : va_W) : Nat → va_W → va_W
  | _, [] => []
  | k, c :: w => putP k c is xs :: putG is xs (k + 1) w
theorem putG_lt {i : Nat} {x : Nat × va_E} {is : List Nat} {xs : va_W} : ∀ (w : va_W) (k : Nat), i < k → putG (i :: is) (x :: xs) k w = putG is xs k w
  | [], _, _ => rfl
  | c :: w, k, h => by
    have e : Nat.beq i k = false := beq_f (by omega)
    have ih := putG_lt (x := x) (is := is) (xs := xs) w (k + 1) (show i < k + 1 by omega)
    simp only [putG, putP, e, cond_false, ih]
theorem putG_ge {i : Nat} {x : Nat × va_E} {is : List Nat} {xs : va_W} : ∀ (w : va_W) (k : Nat), k ≤ i → putG (i :: is) (x :: xs) k w = (putG is xs k w).set (i - k) x
  | [], _, _ => by simp [putG]
  | c :: w, k, h => by
    by_cases e : i = k
    · subst e
      have e1 : Nat.beq i i = true := Nat.beq_refl i
      have ih := putG_lt (x := x) (is := is) (xs := xs) w (i + 1) (Nat.lt_succ_self i)
      simp only [putG, putP, e1, cond_true, ih, Nat.sub_self, List.set_cons_zero]
    · have e1 : Nat.beq i k = false := beq_f e
      have e2 : i - k = (i - (k + 1)) + 1 := by omega
      have ih := putG_ge (x := x) (is := is) (xs := xs) w (k + 1) (show k + 1 ≤ i by omega)
      simp only [putG, putP, e1, cond_false, ih]
      rw [e2, List.set_cons_succ]
theorem putG_nil {xs : va_W} : ∀ (w : va_W) (k : Nat), putG [] xs k w = w
  | [], _ => rfl
  | c :: w, k => by simp only [putG, putP, putG_nil w (k + 1)]
theorem putG_nil2 {is : List Nat} : ∀ (w : va_W) (k : Nat), putG is [] k w = w
  | [], _ => rfl
  | c :: w, k => by
    have e : putP k c is [] = c := by cases is <;> rfl
    simp only [putG, e, putG_nil2 w (k + 1)]
theorem putAt_G (w : va_W) : ∀ (is : List Nat) (xs : va_W), putAt w is xs = putG is xs 0 w
  | [], xs => by rw [putG_nil]; cases xs <;> rfl
  | i :: is, [] => by rw [putG_nil2]; rfl
  | i :: is, x :: xs => by rw [putG_ge w 0 (Nat.zero_le i), ← putAt_G w is xs]; rfl
theorem uG_P {D : va_G} {cl : List vw_C} {w : va_W} {is : List Nat} {xs : va_W} {H : Heap} (h : va_P D cl (putAt w is xs) H) : va_P D cl (putG is xs 0 w) H := by rw [← putAt_G]; exact h
theorem uG_D {A : Nat → Prop} {w : va_W} {is : List Nat} {xs : va_W} (h : va_D A (putAt w is xs)) : va_D A (putG is xs 0 w) := by rw [← putAt_G]; exact h
