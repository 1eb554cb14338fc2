/-! no more roots than the degree -/
section RTS
def evL2 {R : Type} [Lean.Grind.CommRing R] (x : R) : List R → R
  | [] => 0
  | a :: l => a + x * evL2 x l
/-- by t less r -/
def dqL {R : Type} [Lean.Grind.CommRing R] (r : R) : List R → List R
  | [] => []
  | [_] => []
  | _ :: b :: l => evL2 r (b :: l) :: dqL r (b :: l)
theorem dqL_len {R : Type} [Lean.Grind.CommRing R] (r : R) : ∀ l : List R, (dqL r l).length = l.length - 1
  | [] => rfl
  | [_] => rfl
  | _ :: b :: l => by
    show (dqL r (b :: l)).length + 1 = _
    rw [dqL_len r (b :: l)]
    rfl
theorem dqL_ev {R : Type} [Lean.Grind.CommRing R] (x r : R) : ∀ l : List R, evL2 x l = (x - r) * evL2 x (dqL r l) + evL2 r l
  | [] => by
    show (0 : R) = (x - r) * 0 + 0
    grind
  | [a] => by
    show a + x * 0 = (x - r) * 0 + (a + r * 0)
    grind
  | a :: b :: l => by
    have h := dqL_ev x r (b :: l)
    show a + x * evL2 x (b :: l) = (x - r) * (evL2 r (b :: l) + x * evL2 x (dqL r (b :: l))) + (a + r * evL2 r (b :: l))
    generalize evL2 x (b :: l) = A at *
    generalize evL2 r (b :: l) = B at *
    generalize evL2 x (dqL r (b :: l)) = C at *
    grind
theorem dqL_zero {R : Type} [Lean.Grind.CommRing R] (r : R) : ∀ l : List R, evL2 r l = 0 → (∀ a, a ∈ dqL r l → a = 0) → ∀ a, a ∈ l → a = 0
  | [], _, _, a, h => absurd h (List.not_mem_nil)
  | [z], h0, _, a, h => by
    have h1 : z + r * 0 = 0 := h0
    have h2 : a = z := by simpa using h
    rw [h2]
    grind
  | z :: b :: l, h0, hd, a, h => by
    have h1 : z + r * evL2 r (b :: l) = 0 := h0
    have h2 : evL2 r (b :: l) = 0 := hd _ (List.mem_cons_self ..)
    have h3 := dqL_zero r (b :: l) h2 (fun c hc => hd c (List.mem_cons_of_mem _ hc))
    rcases List.mem_cons.mp h with h4 | h4
    · rw [h4]
      rw [h2] at h1
      grind
    · exact h3 a h4
theorem roots_le {R : Type} [Lean.Grind.CommRing R] (nz : ∀ a b : R, a * b = 0 → a = 0 ∨ b = 0) (N : Nat) : ∀ (l : List R) (rs : Nat → R), l.length = N → (∀ i, i < N → evL2 (rs i) l = 0) → (∀ i j, i < N → j < N → rs i = rs j → i = j) → ∀ a, a ∈ l → a = 0 := by
  induction N with
  | zero =>
    intro l rs hl _ _ a ha
    have : l = [] := List.length_eq_zero_iff.mp hl
    rw [this] at ha
    exact absurd ha (List.not_mem_nil)
  | succ N ih =>
    intro l rs hl hr hi
    refine dqL_zero (rs N) l (hr N (by omega)) (ih (dqL (rs N) l) rs (by rw [dqL_len]; omega) (fun i h1 => ?_) (fun i j h1 h3 => hi i j (by omega) (by omega)))
    have h4 := dqL_ev (rs i) (rs N) l
    rw [hr i (by omega), hr N (by omega)] at h4
    have h5 : (rs i - rs N) * evL2 (rs i) (dqL (rs N) l) = 0 := by
      generalize evL2 (rs i) (dqL (rs N) l) = C at *
      grind
    rcases nz _ _ h5 with h6 | h6
    · exfalso
      have h7 : rs i = rs N := by grind
      have := hi i N (by omega) (by omega) h7
      omega
    · exact h6
end RTS
