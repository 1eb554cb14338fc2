section MKR4
theorem mkr_join {q d : Nat} : ∀ r s m, mkr q d r m = true → mkr q d s (m + r) = true → mkr q d (r + s) m = true
  | 0, s, m, _, h => by rw [Nat.zero_add]; exact h
  | r + 1, s, m, h1, h2 => by
    rw [show r + 1 + s = (r + s) + 1 by omega]
    unfold mkr at h1 ⊢
    rw [Bool.and_eq_true] at h1 ⊢
    exact ⟨h1.1, mkr_join r s (m + 1) h1.2 (by rw [show m + 1 + r = m + (r + 1) by omega]; exact h2)⟩
theorem mk2_7 : mkr 2 7 128 128 = true := (mkr_join 16 112 128 mk2_7_128 (mkr_join 16 96 144 mk2_7_144 (mkr_join 16 80 160 mk2_7_160 (mkr_join 16 64 176 mk2_7_176 (mkr_join 16 48 192 mk2_7_192 (mkr_join 16 32 208 mk2_7_208 (mkr_join 16 16 224 mk2_7_224 mk2_7_240)))))))
theorem mk5_3 : mkr 5 3 125 125 = true := (mkr_join 10 115 125 mk5_3_125 (mkr_join 10 105 135 mk5_3_135 (mkr_join 10 95 145 mk5_3_145 (mkr_join 10 85 155 mk5_3_155 (mkr_join 10 75 165 mk5_3_165 (mkr_join 10 65 175 mk5_3_175 (mkr_join 10 55 185 mk5_3_185 (mkr_join 10 45 195 mk5_3_195 (mkr_join 10 35 205 mk5_3_205 (mkr_join 10 25 215 mk5_3_215 (mkr_join 10 15 225 mk5_3_225 (mkr_join 10 5 235 mk5_3_235 mk5_3_245))))))))))))
theorem modOK_is : modOK := by
  intro q m hq hm
  have h0 : m < q ^ 13 ∧ 2 ≤ ln q 13 m ∧ q ^ (ln q 13 m - 1) ≤ 128 ∧ fst q m = 1 ∧ (fnd q m).1 = 1 := of_decide_eq_true hm
  obtain ⟨a1, a2, a3, a4, a5⟩ := h0
  have h2 : 2 ≤ q := by omega
  have hd : ln q 13 m = ln q 13 m - 1 + 1 := by omega
  generalize ln q 13 m - 1 = d at *
  have hdg : dg q m d = 1 := by rw [← fst_top hd]; exact a4
  have w : Wd q m d (q ^ d) := ⟨hq, a1, hd, hdg, by omega, rfl, a3⟩
  refine Pw_of w ?_
  have lo : q ^ d ≤ m := ln_ge hd
  have hi : m < q ^ d + q ^ d := by
    have h1 := (dg_ln h2 a1 hd).2
    have h3 : m / q ^ d % q = 1 := hdg
    rw [Nat.mod_eq_of_lt h1] at h3
    have h4 := Nat.div_add_mod m (q ^ d)
    have h5 : m % q ^ d < q ^ d := Nat.mod_lt _ (Nat.pow_pos (by omega))
    rw [h3, Nat.mul_one] at h4
    omega
  have hc : mkc q d m = true := by
    have d7 := w.d7
    have d1 : 1 ≤ d := by omega
    rcases hq with c | c | c
    · subst c
      have : d = 1 ∨ d = 2 ∨ d = 3 ∨ d = 4 ∨ d = 5 ∨ d = 6 ∨ d = 7 := by omega
      rcases this with c | c | c | c | c | c | c <;> subst c
      · exact mkr_is 2 2 mk2_1 m lo hi
      · exact mkr_is 4 4 mk2_2 m lo hi
      · exact mkr_is 8 8 mk2_3 m lo hi
      · exact mkr_is 16 16 mk2_4 m lo hi
      · exact mkr_is 32 32 mk2_5 m lo hi
      · exact mkr_is 64 64 mk2_6 m lo hi
      · exact mkr_is 128 128 mk2_7 m lo hi
    · subst c
      have hu : d < 5 := Nat.lt_of_not_le (fun z => by
        have := Nat.pow_le_pow_right (n := 3) (by omega) z
        omega)
      have : d = 1 ∨ d = 2 ∨ d = 3 ∨ d = 4 := by omega
      rcases this with c | c | c | c <;> subst c
      · exact mkr_is 3 3 mk3_1 m lo hi
      · exact mkr_is 9 9 mk3_2 m lo hi
      · exact mkr_is 27 27 mk3_3 m lo hi
      · exact mkr_is 81 81 mk3_4 m lo hi
    · subst c
      have hu : d < 4 := Nat.lt_of_not_le (fun z => by
        have := Nat.pow_le_pow_right (n := 5) (by omega) z
        omega)
      have : d = 1 ∨ d = 2 ∨ d = 3 := by omega
      rcases this with c | c | c <;> subst c
      · exact mkr_is 5 5 mk5_1 m lo hi
      · exact mkr_is 25 25 mk5_2 m lo hi
      · exact mkr_is 125 125 mk5_3 m lo hi
  unfold mkc at hc
  rw [Bool.or_eq_true] at hc
  rcases hc with hc | hc
  · rw [hm] at hc
    exact absurd hc (by decide)
  · exact mks2_is w.n2 _ 1 (by have := w.n2; omega) (by omega) hc
end MKR4
