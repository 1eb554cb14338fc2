/-! ranks: which columns hang on those before -/
def ctb (b : Nat → Bool) : Nat → Nat
  | 0 => 0
  | i + 1 => ctb b i + if b i = true then 1 else 0
theorem ctb_ext {b c : Nat → Bool} : ∀ N, (∀ j, j < N → b j = c j) → ctb b N = ctb c N
  | 0, _ => rfl
  | N + 1, h => by
    show ctb b N + (if b N = true then 1 else 0) = ctb c N + (if c N = true then 1 else 0)
    rw [ctb_ext N (fun j hj => h j (by omega)), h N (by omega)]
theorem inc_lt {p : Nat → Nat} {r : Nat} (h : ∀ i, i + 1 < r → p i < p (i + 1)) : ∀ b a, a < b → b < r → p a < p b
  | 0, a, h1, _ => absurd h1 (Nat.not_lt_zero _)
  | b + 1, a, h1, h2 => by
    have h3 := h b h2
    by_cases c : a = b
    · rw [c]
      exact h3
    · have := inc_lt h b a (by omega) (by omega)
      omega
theorem ctb_piv {b : Nat → Bool} {p : Nat → Nat} : ∀ (C r : Nat), (∀ i, i + 1 < r → p i < p (i + 1)) → (∀ i, i < r → p i < C) → (∀ j, j < C → (b j = false ↔ ∃ i, i < r ∧ p i = j)) → ctb b C + r = C
  | 0, r, _, h, _ => by
    have : r = 0 := by
      apply Decidable.byContradiction
      intro z
      exact absurd (h 0 (by omega)) (Nat.not_lt_zero _)
    rw [this]
    rfl
  | C + 1, r, hi, h, hb => by
    show ctb b C + (if b C = true then 1 else 0) + r = C + 1
    by_cases c : b C = true
    · rw [if_pos c]
      have hne : ∀ i, i < r → p i ≠ C := fun i hr z => by
        have := (hb C (by omega)).mpr ⟨i, hr, z⟩
        rw [this] at c
        exact Bool.false_ne_true c
      have := ctb_piv C r hi (fun i hr => by have := h i hr; have := hne i hr; omega) (fun j hj => hb j (by omega))
      omega
    · rw [if_neg c]
      have cf : b C = false := by simpa using c
      obtain ⟨i, hr, hp⟩ := (hb C (by omega)).mp cf
      have hlast : i = r - 1 := by
        apply Decidable.byContradiction
        intro z
        have h1 := inc_lt hi (r - 1) i (by omega) (by omega)
        have h2 := h (r - 1) (by omega)
        omega
      have := ctb_piv C (r - 1) (fun i hr => hi i (by omega)) (fun k hk => by
        have h1 := inc_lt hi (r - 1) k (by omega) (by omega)
        rw [← hlast] at h1
        omega) (fun j hj => by
        rw [hb j (by omega)]
        refine ⟨fun ⟨k, k1, k2⟩ => ⟨k, ?_, k2⟩, fun ⟨k, k1, k2⟩ => ⟨k, by omega, k2⟩⟩
        by_cases z : k = r - 1
        · rw [z, ← hlast] at k2
          omega
        · omega)
      omega
/-- column j hangs on those before -/
def dpn (q R C : Nat) (M : TBt) (j : Nat) : Prop := ∃ x : Nat → Nat, (∀ k, x k < q) ∧ x j = 1 ∧ (∀ k, j < k → x k = 0) ∧ ∀ i, i < R → rzo q C (M i) x
theorem sg_put {M x : Nat → Nat} {a v : Nat} (h0 : x a = 0) : ∀ C, sg (fun k => M k * (if k = a then v else x k)) C = sg (fun k => M k * x k) C + if a < C then M a * v else 0
  | 0 => rfl
  | C + 1 => by
    show sg (fun k => M k * (if k = a then v else x k)) C + M C * (if C = a then v else x C) = sg (fun k => M k * x k) C + M C * x C + if a < C + 1 then M a * v else 0
    rw [sg_put h0 C]
    by_cases c : C = a
    · subst c
      rw [if_pos rfl, if_neg (Nat.lt_irrefl _), if_pos (by omega), h0]
      omega
    · rw [if_neg c]
      by_cases c1 : a < C
      · rw [if_pos c1, if_pos (by omega)]
        omega
      · rw [if_neg c1, if_neg (by omega)]
        omega
theorem sg_zeros {f : Nat → Nat} : ∀ C, (∀ k, k < C → f k = 0) → sg f C = 0
  | 0, _ => rfl
  | C + 1, h => by
    show sg f C + f C = 0
    rw [sg_zeros C (fun k hk => h k (by omega)), h C (by omega)]
theorem sg_only {f : Nat → Nat} {a : Nat} : ∀ C, a < C → (∀ k, k < C → k ≠ a → f k = 0) → sg f C = f a
  | 0, h, _ => absurd h (Nat.not_lt_zero _)
  | C + 1, h, hz => by
    show sg f C + f C = f a
    by_cases c : a = C
    · rw [sg_zeros C (fun k hk => hz k (by omega) (by omega)), c, Nat.zero_add]
    · rw [sg_only C (by omega) (fun k hk hne => hz k (by omega) hne), hz C (by omega) (by omega), Nat.add_zero]
theorem piv_no {q R C r : Nat} (hq : q = 2 ∨ q = 3 ∨ q = 5) {M : TBt} {p : Nat → Nat} (hr : r ≤ R) (hp : ∀ i, i < r → p i < C ∧ M i (p i) ≠ 0 ∧ ∀ j, j < p i → M i j = 0) (hl : ∀ i j, i < R → j < C → M i j < q) {i : Nat} (hi : i < r) : ¬ dpn q R C M (p i) := fun ⟨x, x1, x2, x3, x4⟩ => by
  obtain ⟨p1, p2, p3⟩ := hp i hi
  have h := x4 i (by omega)
  unfold rzo at h
  rw [sg_only (a := p i) C p1 (fun k hk hne => by
    by_cases c : k < p i
    · rw [p3 k c, Nat.zero_mul]
    · rw [x3 k (by omega), Nat.mul_zero]), x2, Nat.mul_one, Nat.mod_eq_of_lt (hl i _ (by omega) p1)] at h
  exact p2 h
theorem piv_yes {q R C r : Nat} (hq : q = 2 ∨ q = 3 ∨ q = 5) {M : TBt} {p : Nat → Nat} (hr : r ≤ R) (hp : ∀ i, i < r → p i < C ∧ M i (p i) ≠ 0 ∧ ∀ j, j < p i → M i j = 0) (hinc : ∀ i, i + 1 < r → p i < p (i + 1)) (hl : ∀ i j, i < R → j < C → M i j < q) (hz : ∀ i j, r ≤ i → i < R → j < C → M i j = 0) {j : Nat} (hj : j < C) (hn : ∀ i, i < r → p i ≠ j) : dpn q R C M j := by
  have h2 : 2 ≤ q := by omega
  have main : ∀ t, t ≤ r → ∃ x : Nat → Nat, (∀ k, x k < q) ∧ x j = 1 ∧ (∀ k, j < k → x k = 0) ∧ (∀ i, i < r - t → x (p i) = 0) ∧ ∀ i, r - t ≤ i → i < r → rzo q C (M i) x := fun t => by
    induction t with
    | zero =>
      intro _
      refine ⟨fun k => if k = j then 1 else 0, fun k => ?_, if_pos rfl, fun k hk => if_neg (by omega), fun i hi => if_neg (hn i (by omega)), fun i h1 h2 => by omega⟩
      show (if k = j then 1 else 0) < q
      split <;> omega
    | succ t ih =>
      intro ht
      obtain ⟨x, x1, x2, x3, x4, x5⟩ := ih (by omega)
      have hi : r - (t + 1) < r := by omega
      generalize hI : r - (t + 1) = i at *
      obtain ⟨p1, p2, p3⟩ := hp i hi
      have hxi : x (p i) = 0 := x4 i (by omega)
      by_cases c : j < p i
      · refine ⟨x, x1, x2, x3, fun k hk => x4 k (by omega), fun k h1 h3 => ?_⟩
        by_cases c2 : k = i
        · subst c2
          unfold rzo
          rw [sg_zeros C (fun u hu => by
            by_cases c3 : u < p k
            · rw [p3 u c3, Nat.zero_mul]
            · rw [x3 u (by omega), Nat.mul_zero])]
          exact Nat.zero_mod _
        · exact x5 k (by omega) h3
      · have hne := hn i hi
        have ha := hl i (p i) (by omega) p1
        have hiv := iv_mul hq ha p2
        have hivl := iv_lt hq ha
        generalize hS : sg (fun k => M i k * x k) C = S at *
        refine ⟨fun k => if k = p i then (q - S % q) * iv q (M i (p i)) % q else x k, fun k => ?_, ?_, fun k hk => ?_, fun k hk => ?_, fun k h1 h3 => ?_⟩
        · show (if k = p i then (q - S % q) * iv q (M i (p i)) % q else x k) < q
          split
          · exact Nat.mod_lt _ (by omega)
          · exact x1 k
        · show (if j = p i then _ else x j) = 1
          rw [if_neg (by omega)]
          exact x2
        · show (if k = p i then _ else x k) = 0
          rw [if_neg (by omega)]
          exact x3 k hk
        · have h5 := inc_lt hinc i k hk hi
          show (if p k = p i then _ else x (p k)) = 0
          rw [if_neg (by omega)]
          exact x4 k (by omega)
        · show sg (fun u => M k u * (if u = p i then (q - S % q) * iv q (M i (p i)) % q else x u)) C % q = 0
          rw [sg_put hxi C, if_pos p1]
          by_cases c2 : k = i
          · subst c2
            rw [hS, Nat.add_mod, Nat.mul_mod_mod, show M k (p k) * ((q - S % q) * iv q (M k (p k))) = (q - S % q) * (M k (p k) * iv q (M k (p k))) by rw [Nat.mul_left_comm], Nat.mul_mod, hiv, Nat.mul_one, Nat.mod_mod, ← Nat.add_mod]
            have hSl : S % q < q := Nat.mod_lt _ (by omega)
            rw [Nat.add_mod]
            by_cases c3 : S % q = 0
            · rw [c3, Nat.sub_zero, Nat.mod_self]
              exact Nat.zero_mod _
            · rw [Nat.mod_eq_of_lt (show q - S % q < q by omega), show S % q + (q - S % q) = q by omega, Nat.mod_self]
          · have h5 := inc_lt hinc k i (by omega) h3
            obtain ⟨q1, q2, q3⟩ := hp k h3
            rw [q3 (p i) h5, Nat.zero_mul, Nat.add_zero]
            exact x5 k (by omega) h3
  obtain ⟨x, x1, x2, x3, x4, x5⟩ := main r (Nat.le_refl _)
  refine ⟨x, x1, x2, x3, fun i hi => ?_⟩
  by_cases c : i < r
  · exact x5 i (by omega) c
  · unfold rzo
    rw [sg_zeros C (fun u hu => by rw [hz i u (by omega) hi hu, Nat.zero_mul])]
    exact Nat.zero_mod _
/-- so many columns hang on those before -/
theorem rk_dep {q R C r : Nat} (hq : q = 2 ∨ q = 3 ∨ q = 5) {M0 : TBt} (h : RkOf q R C M0 r) {b : Nat → Bool} (hb : ∀ j, j < C → (b j = true ↔ dpn q R C M0 j)) : ctb b C + r = C := by
  obtain ⟨hr, M, ⟨e1, ⟨p, p1, p2⟩, e3⟩, e4⟩ := h
  have same : ∀ j, dpn q R C M j ↔ dpn q R C M0 j := fun j => ⟨fun ⟨x, x1, x2, x3, x4⟩ => ⟨x, x1, x2, x3, (e1 x).mp x4⟩, fun ⟨x, x1, x2, x3, x4⟩ => ⟨x, x1, x2, x3, (e1 x).mpr x4⟩⟩
  refine ctb_piv C r p2 (fun i hi => (p1 i hi).1) (fun j hj => ?_)
  refine ⟨fun z => ?_, fun ⟨i, hi, hp⟩ => ?_⟩
  · apply Decidable.byContradiction
    intro z1
    have := (hb j hj).mpr ((same j).mp (piv_yes hq hr p1 p2 e4 e3 hj (fun i hi hp => z1 ⟨i, hi, hp⟩)))
    rw [z] at this
    exact Bool.false_ne_true this
  · cases hbj : b j with
    | false => rfl
    | true =>
      have h5 := (same j).mpr ((hb j hj).mp hbj)
      rw [← hp] at h5
      exact absurd h5 (piv_no hq hr p1 e4 hi)
