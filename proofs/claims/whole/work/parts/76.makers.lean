section MKR
/-! every prime modulus of a world has a maker: looked up -/
def mkc (q d m : Nat) : Bool := !(isMod q m) || mks2 q m (q ^ d - 2) (q ^ d - 1) 1
def mkr (q d : Nat) : Nat → Nat → Bool
  | 0, _ => true
  | r + 1, m => mkc q d m && mkr q d r (m + 1)
theorem mkr_is {q d : Nat} : ∀ r m, mkr q d r m = true → ∀ x, m ≤ x → x < m + r → mkc q d x = true
  | 0, m, _, x, h1, h2 => by omega
  | r + 1, m, h, x, h1, h2 => by
    unfold mkr at h
    rw [Bool.and_eq_true] at h
    by_cases c : x = m
    · rw [c]; exact h.1
    · exact mkr_is r (m + 1) h.2 x (by omega) (by omega)
theorem mk2_1 : mkr 2 1 2 2 = true := by decide +kernel
theorem mk2_2 : mkr 2 2 4 4 = true := by decide +kernel
theorem mk2_3 : mkr 2 3 8 8 = true := by decide +kernel
theorem mk2_4 : mkr 2 4 16 16 = true := by decide +kernel
theorem mk2_5 : mkr 2 5 32 32 = true := by decide +kernel
theorem mk2_6 : mkr 2 6 64 64 = true := by decide +kernel
theorem mk3_1 : mkr 3 1 3 3 = true := by decide +kernel
theorem mk3_2 : mkr 3 2 9 9 = true := by decide +kernel
theorem mk3_3 : mkr 3 3 27 27 = true := by decide +kernel
theorem mk3_4 : mkr 3 4 81 81 = true := by decide +kernel
theorem mk5_1 : mkr 5 1 5 5 = true := by decide +kernel
theorem mk5_2 : mkr 5 2 25 25 = true := by decide +kernel
end MKR
