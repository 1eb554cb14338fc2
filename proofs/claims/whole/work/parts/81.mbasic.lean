/-! the reference: products, powers, rests; which moduli it takes -/
def mwB (q m : Nat) : Bool := isPr q m && decide (q ^ (ln q 13 m - 1) ≤ 128)
def mwr (q : Nat) : Nat → Nat → Bool
  | 0, _ => true
  | r + 1, m => (isMod q m == mwB q m) && mwr q r (m + 1)
theorem mwr_is {q : Nat} : ∀ r m, mwr q r m = true → ∀ x, m ≤ x → x < m + r → isMod q x = mwB q x
  | 0, m, _, x, h1, h2 => by omega
  | r + 1, m, h, x, h1, h2 => by
    unfold mwr at h
    rw [Bool.and_eq_true] at h
    by_cases c : x = m
    · rw [c]; exact eq_of_beq h.1
    · exact mwr_is r (m + 1) h.2 x (by omega) (by omega)
theorem mw2_0 : mwr 2 64 0 = true := by decide +kernel
theorem mw2_1 : mwr 2 64 64 = true := by decide +kernel
theorem mw2_2 : mwr 2 64 128 = true := by decide +kernel
theorem mw2_3 : mwr 2 64 192 = true := by decide +kernel
theorem mw3_0 : mwr 3 128 0 = true := by decide +kernel
theorem mw3_1 : mwr 3 128 128 = true := by decide +kernel
theorem mw5_0 : mwr 5 128 0 = true := by decide +kernel
theorem mw5_1 : mwr 5 128 128 = true := by decide +kernel
theorem mw_is {q m : Nat} (hq : q = 2 ∨ q = 3 ∨ q = 5) (hm : m < 256) : isMod q m = mwB q m := by
  rcases hq with c | c | c <;> subst c
  · by_cases c : m < 64
    · exact mwr_is 64 0 mw2_0 m (by omega) (by omega)
    · by_cases c2 : m < 128
      · exact mwr_is 64 64 mw2_1 m (by omega) (by omega)
      · by_cases c3 : m < 192
        · exact mwr_is 64 128 mw2_2 m (by omega) (by omega)
        · exact mwr_is 64 192 mw2_3 m (by omega) (by omega)
  · by_cases c : m < 128
    · exact mwr_is 128 0 mw3_0 m (by omega) (by omega)
    · exact mwr_is 128 128 mw3_1 m (by omega) (by omega)
  · by_cases c : m < 128
    · exact mwr_is 128 0 mw5_0 m (by omega) (by omega)
    · exact mwr_is 128 128 mw5_1 m (by omega) (by omega)
theorem isMod_256 {q m : Nat} (hq : q = 2 ∨ q = 3 ∨ q = 5) (h : isMod q m = true) : q ≤ m ∧ m < 256 := by
  have h0 : m < q ^ 13 ∧ 2 ≤ ln q 13 m ∧ q ^ (ln q 13 m - 1) ≤ 128 ∧ fst q m = 1 ∧ (fnd q m).1 = 1 := of_decide_eq_true h
  obtain ⟨a1, a2, a3, a4, a5⟩ := h0
  have h2 : 2 ≤ q := by omega
  have hd : ln q 13 m = ln q 13 m - 1 + 1 := by omega
  have hp : q ^ 1 ≤ q ^ (ln q 13 m - 1) := Nat.pow_le_pow_right (by omega) (by omega)
  generalize ln q 13 m - 1 = d at *
  have hdg : dg q m d = 1 := by rw [← fst_top hd]; exact a4
  have lo : q ^ d ≤ m := ln_ge hd
  have h1 := (dg_ln h2 a1 hd).2
  have h3 : m / q ^ d % q = 1 := hdg
  rw [Nat.mod_eq_of_lt h1] at h3
  have h4 := Nat.div_add_mod m (q ^ d)
  have h5 : m % q ^ d < q ^ d := Nat.mod_lt _ (Nat.pow_pos (by omega))
  rw [h3, Nat.mul_one] at h4
  rw [Nat.pow_one] at hp
  omega
