/-! what common and quotient give has first figure 1 -/
theorem gcl_mon {q : Nat} (hq : q = 2 ∨ q = 3 ∨ q = 5) : ∀ (n a b : Nat), a < q ^ 13 → b < q ^ 13 → (a ≠ 0 ∨ (b ≠ 0 ∧ 1 ≤ n)) → ∃ x, 0 < x ∧ x < q ^ 13 ∧ gcl q n a b = mon q x := by
  have h2 : 2 ≤ q := by omega
  intro n
  induction n with
  | zero =>
    intro a b ha hb h
    exact ⟨a, by omega, ha, rfl⟩
  | succ n ih =>
    intro a b ha hb h
    unfold gcl
    by_cases c : b = 0
    · rw [if_pos c]
      exact ⟨a, by omega, ha, rfl⟩
    · rw [if_neg c]
      exact ih b _ hb (rst_lt h2 ha) (Or.inl c)
theorem gcn_mon {q a b : Nat} (hq : q = 2 ∨ q = 3 ∨ q = 5) (ha : a < q ^ 13) (hb : b < q ^ 13) (h : a ≠ 0 ∨ b ≠ 0) : ∃ k, ln q 13 (gcn q a b) = k + 1 ∧ dg q (gcn q a b) k = 1 ∧ gcn q a b < q ^ (k + 1) ∧ k < 13 := by
  obtain ⟨x, h0, hx, e⟩ := gcl_mon hq 26 a b ha hb (by omega)
  have e1 : gcn q a b = mon q x := e
  have hl := ln_pos hx h0
  have hl2 := ln_le q 13 x
  obtain ⟨k, hk⟩ : ∃ k, ln q 13 x = k + 1 := ⟨ln q 13 x - 1, by omega⟩
  obtain ⟨m1, m2, m3⟩ := mon_top hq hx hk
  rw [e1]
  exact ⟨k, m3, m2, m1, by omega⟩
theorem qs_in {q b t lb : Nat} (h2 : 2 ≤ q) (hlb : 1 ≤ lb) : ∀ (n a w : Nat), w ≤ qs q b t lb n a w ∧ qs q b t lb n a w < w + q ^ (n + 1 - lb) := by
  intro n
  induction n with
  | zero =>
    intro a w
    have := Nat.pow_pos (n := 0 + 1 - lb) (show 0 < q by omega)
    unfold qs
    omega
  | succ n ih =>
    intro a w
    unfold qs
    split
    · next c =>
      have := Nat.pow_pos (n := n + 1 + 1 - lb) (show 0 < q by omega)
      omega
    · next c =>
      obtain ⟨i1, i2⟩ := ih (cmb q ((q - dg q a n * t % q) % q) 13 a (b * q ^ (n + 1 - lb))) (w + dg q a n * t % q * q ^ (n + 1 - lb))
      have hd : dg q a n * t % q < q := Nat.mod_lt _ (by omega)
      have e : q ^ (n + 1 + 1 - lb) = q * q ^ (n + 1 - lb) := by
        rw [show n + 1 + 1 - lb = (n + 1 - lb) + 1 by omega, Nat.pow_succ, Nat.mul_comm]
      have h3 : (dg q a n * t % q + 1) * q ^ (n + 1 - lb) ≤ q * q ^ (n + 1 - lb) := Nat.mul_le_mul_right _ (by omega)
      rw [Nat.add_mul, Nat.one_mul] at h3
      rw [e]
      omega
theorem iv_one {q : Nat} (hq : q = 2 ∨ q = 3 ∨ q = 5) : iv q 1 = 1 := by
  have h := iv_mul hq (f := 1) (by omega) (by omega)
  have h1 := iv_lt hq (f := 1) (by omega)
  rw [Nat.one_mul, Nat.mod_eq_of_lt h1] at h
  exact h
/-- of two with first figure 1 -/
theorem quo_top {q a b j k : Nat} (hq : q = 2 ∨ q = 3 ∨ q = 5) (ha : ln q 13 a = k + 1) (hb : ln q 13 b = j + 1) (ha1 : dg q a k = 1) (hb1 : dg q b j = 1) (hjk : j ≤ k) :
    quo q a b < q ^ (k - j + 1) ∧ dg q (quo q a b) (k - j) = 1 ∧ ln q 13 (quo q a b) = k - j + 1 := by
  have h2 : 2 ≤ q := by omega
  have hk13 := ln_le q 13 a
  have e1 : fst q b = 1 := by rw [fst_top hb]; exact hb1
  have hP := Nat.pow_pos (n := k - j) (show 0 < q by omega)
  have e2 : k + 1 - (j + 1) = k - j := by omega
  have e3 : quo q a b = qs q b 1 (j + 1) k (cmb q ((q - 1) % q) 13 a (b * q ^ (k - j))) (q ^ (k - j)) := by
    unfold quo
    rw [ha, hb, e1, iv_one hq]
    conv => lhs; unfold qs
    rw [if_neg (by omega), ha1, e2, Nat.mul_one, Nat.mod_eq_of_lt (show 1 < q by omega), Nat.one_mul, Nat.zero_add]
  obtain ⟨i1, i2⟩ := qs_in (q := q) (b := b) (t := 1) (lb := j + 1) h2 (by omega) k (cmb q ((q - 1) % q) 13 a (b * q ^ (k - j))) (q ^ (k - j))
  rw [← e3] at i1 i2
  rw [e2] at i2
  have h3 : quo q a b / q ^ (k - j) = 1 := by
    rw [Nat.div_eq_iff hP]
    omega
  have h4 : q ^ (k - j + 1) = q ^ (k - j) * q := Nat.pow_succ q (k - j)
  have h5 : q ^ (k - j) * 2 ≤ q ^ (k - j) * q := Nat.mul_le_mul_left _ h2
  have h6 : quo q a b < q ^ (k - j + 1) := by omega
  refine ⟨h6, ?_, ln_eq h2 i1 h6 (Nat.lt_of_lt_of_le h6 (Nat.pow_le_pow_right (by omega) (by omega)))⟩
  unfold dg
  rw [h3]
  exact Nat.mod_eq_of_lt (by omega)
section PRI2
variable {G : GC} {e q : Nat} {mi : Nat → Nat → Int32} {ml : Nat → Nat → Int64} {y : Nat → Nat → Option Nat}
def tko (q p : Nat) : Nat → Nat → Nat
  | 0, a => a
  | n + 1, a => if rst q a p = 0 then tko q p n (quo q a p) else a
end PRI2
