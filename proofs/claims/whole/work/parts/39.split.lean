/-! class Primes: splitBy -/
theorem gcl_lt {q : Nat} (h2 : 2 ≤ q) : ∀ (n a b : Nat), gcl q n a b < q ^ 13
  | 0, a, _ => mon_lt h2 a
  | n + 1, a, b => by
    unfold gcl
    split
    · exact mon_lt h2 a
    · exact gcl_lt h2 n _ _
theorem quo_lt {q a b : Nat} (h2 : 2 ≤ q) (hb : b < q ^ 13) (h0 : 0 < b) : quo q a b < q ^ 13 := by
  have hl := ln_pos hb h0
  have ha := ln_le q 13 a
  have := (qs_in (q := q) (b := b) (t := iv q (fst q b)) (lb := ln q 13 b) h2 hl (ln q 13 a) a 0).2
  rw [Nat.zero_add] at this
  exact Nat.lt_of_lt_of_le this (Nat.pow_le_pow_right (by omega) (by omega))
def sbl (q by_ : Nat) : Nat → Nat → Nat → (Nat → Nat) → Nat × (Nat → Nat)
  | 0, _, L, f => (L, f)
  | n + 1, i, L, f => if 13 ≤ L then (L, f) else if ln q 13 (gcn q (f i) by_) ≤ 1 ∨ ln q 13 (f i) ≤ ln q 13 (gcn q (f i) by_) then sbl q by_ n (i + 1) L f
      else sbl q by_ n (i + 1) (L + 1) (up1 (up1 f L (quo q (f i) (gcn q (f i) by_))) i (gcn q (f i) by_))
section SPL
variable {G : GC} {e q : Nat} {mi : Nat → Nat → Int32} {ml : Nat → Nat → Int64} {y : Nat → Nat → Option Nat}
theorem p_splitBy_loop {L0 b : Nat} (hb : b < q ^ 13) (mi0 : Nat → Nat → Int32) (h0 : Fg q mi0) {K : (Nat → Nat → Int32) → (Nat → Nat → Int64) → Prop} : ∀ (n i L : Nat) (mi : Nat → Nat → Int32) (f : Nat → Nat), i + n = L0 → L0 ≤ L → PSd q mi L f → (∀ o, o ≠ 7 → o ≠ 9 → mi o = mi0 o) → (∀ k, k ≠ 4 → mi 7 k = mi0 7 k) →
    (∀ mi1 : Nat → Nat → Int32, (∀ o, o ≠ 7 → o ≠ 9 → mi1 o = mi0 o) → (∀ k, k ≠ 4 → mi1 7 k = mi0 7 k) → PSd q mi1 (sbl q b n i L f).1 (sbl q b n i L f).2 → K mi1 ml) →
    wp G e tX m_X3_splitBy 7 [(0, .ref 7), (1, .int (nI b)), (2, .int (nI L0)), (3, .int (nI i))] [] (mi, ml, RX y) (QV K) := by
  have h2 := h0.two
  intro n
  induction n with
  | zero =>
    intro i L mi f hi hL h ho h7 hK
    have hL13 := h.2.1
    apply b_X3_splitBy_7
    simp (disch := omega) only [s_le, s_lt, s_eq, s_eq0, s_in, s_ix, s_rm, s_div, s_pdlt, s_pdle, s_lepd, s_pdpd, s_pdlepd, s_pdadd, nI_add, pk_mul, pd_succ, Nat.not_lt_zero, Nat.zero_lt_succ, not_false_eq_true, not_true_eq_false, false_implies, true_implies, implies_true, and_true, true_and, Nat.reduceLT, Nat.reduceLeDiff, Nat.reduceAdd, Nat.reduceSub, Nat.zero_add, Nat.add_zero]
    exact ⟨fun _ => hK mi ho h7 h, fun c => absurd c (by omega)⟩
  | succ n ih =>
    intro i L mi f hi hL h ho h7 hK
    have hL13 := h.2.1
    have hF : Fg q mi := h0.off (ho 1 (by omega) (by omega)) (ho 2 (by omega) (by omega))
    obtain ⟨f1, f2⟩ := h.2.2 i (by omega)
    unfold sbl at hK
    apply b_X3_splitBy_7
    rw [h.1]
    simp (disch := omega) only [s_le, s_lt, s_eq, s_eq0, s_in, s_ix, s_rm, s_div, s_pdlt, s_pdle, s_lepd, s_pdpd, s_pdlepd, s_pdadd, nI_add, pk_mul, pd_succ, Nat.not_lt_zero, Nat.zero_lt_succ, not_false_eq_true, not_true_eq_false, false_implies, true_implies, implies_true, and_true, true_and, Nat.reduceLT, Nat.reduceLeDiff, Nat.reduceAdd, Nat.reduceSub, Nat.zero_add, Nat.add_zero, f1]
    refine ⟨fun c => absurd c (by omega), fun _ => ⟨fun c => ?_, fun c => ⟨by omega, ?_⟩⟩⟩
    · rw [if_pos c] at hK
      exact hK mi ho h7 h
    rw [if_neg c] at hK
    have hc := gcl_lt h2.1 26 (f i) b
    have hc1 : gcn q (f i) b < q ^ 13 := hc
    have l1 := ln_le q 13 (gcn q (f i) b)
    have l2 := ln_le q 13 (f i)
    refine p_common hF f2 hb (p_degree hF hc1 ?_)
    simp (disch := omega) only [s_le, s_lt, s_eq, s_eq0, s_in, s_ix, s_rm, s_div, s_pdlt, s_pdle, s_lepd, s_pdpd, s_pdlepd, s_pdadd, nI_add, pk_mul, pd_succ, Nat.not_lt_zero, Nat.zero_lt_succ, not_false_eq_true, not_true_eq_false, false_implies, true_implies, implies_true, and_true, true_and, Nat.reduceLT, Nat.reduceLeDiff, Nat.reduceAdd, Nat.reduceSub, Nat.zero_add, Nat.add_zero]
    refine ⟨fun d1 => ?_, fun d1 => ⟨by omega, ?_⟩⟩
    · rw [if_pos (Or.inl d1)] at hK
      exact ih (i + 1) L mi f (by omega) hL h ho h7 hK
    rw [f1]
    refine p_degree hF f2 ?_
    simp (disch := omega) only [s_le, s_lt, s_eq, s_eq0, s_in, s_ix, s_rm, s_div, s_pdlt, s_pdle, s_lepd, s_pdpd, s_pdlepd, s_pdadd, nI_add, pk_mul, pd_succ, Nat.not_lt_zero, Nat.zero_lt_succ, not_false_eq_true, not_true_eq_false, false_implies, true_implies, implies_true, and_true, true_and, Nat.reduceLT, Nat.reduceLeDiff, Nat.reduceAdd, Nat.reduceSub, Nat.zero_add, Nat.add_zero, s_pdlepd]
    refine ⟨fun d2 => ?_, fun d2 => ⟨by omega, ?_⟩⟩
    · rw [if_pos (Or.inr d2)] at hK
      exact ih (i + 1) L mi f (by omega) hL h ho h7 hK
    rw [if_neg (by omega)] at hK
    have hc0 : 0 < gcn q (f i) b := by
      rcases Nat.eq_zero_or_pos (gcn q (f i) b) with z | z
      · rw [z, ln_zero h2.1] at d1
        omega
      · exact z
    rw [f1]
    refine p_quotient hF f2 hc1 hc0 ?_
    rw [h.1]
    simp (disch := omega) only [s_le, s_lt, s_eq, s_eq0, s_in, s_ix, s_rm, s_div, s_pdlt, s_pdle, s_lepd, s_pdpd, s_pdlepd, s_pdadd, nI_add, pk_mul, pd_succ, Nat.not_lt_zero, Nat.zero_lt_succ, not_false_eq_true, not_true_eq_false, false_implies, true_implies, implies_true, and_true, true_and, Nat.reduceLT, Nat.reduceLeDiff, Nat.reduceAdd, Nat.reduceSub, Nat.zero_add, Nat.add_zero]
    refine ⟨by omega, by omega, ?_⟩
    have hq0 := quo_lt (a := f i) h2.1 hc1 hc0
    have e7 : u2 mi 9 L (nI (quo q (f i) (gcn q (f i) b))) 7 4 = nI L := by
      rw [u2_off (by omega)]
      exact h.1
    rw [e7, nI_add]
    refine ih (i + 1) (L + 1) _ _ (by omega) (by omega) ⟨?_, by omega, fun k hk => ?_⟩ (fun o a7 a9 => by rw [u2_off a9, u2_off a7, u2_off a9]; exact ho o a7 a9) (fun k hk => ?_) hK
    · rw [u2_off (by omega), u2_on]
      rfl
    · rw [u2_on, u2_off (show 9 ≠ 7 by omega), u2_on]
      show (if k = i then _ else (if k = L then _ else _)) = nI (if k = i then _ else (if k = L then _ else _)) ∧ (if k = i then _ else (if k = L then _ else _)) < _
      by_cases c1 : k = i
      · rw [if_pos c1, if_pos c1]
        exact ⟨rfl, hc1⟩
      · rw [if_neg c1, if_neg c1]
        by_cases c2 : k = L
        · rw [if_pos c2, if_pos c2]
          exact ⟨rfl, hq0⟩
        · rw [if_neg c2, if_neg c2]
          exact h.2.2 k (by omega)
    · rw [u2_off (by omega), u2_on]
      show (if k = 4 then _ else _) = _
      rw [if_neg hk, u2_off (by omega)]
      exact h7 k hk
theorem p_splitBy (h0 : Fg q mi) {L b : Nat} (hb : b < q ^ 13) {f : Nat → Nat} (h : PSd q mi L f) {K : (Nat → Nat → Int32) → (Nat → Nat → Int64) → Prop}
    (hK : ∀ mi1 : Nat → Nat → Int32, (∀ o, o ≠ 7 → o ≠ 9 → mi1 o = mi o) → (∀ k, k ≠ 4 → mi1 7 k = mi 7 k) → PSd q mi1 (sbl q b L 0 L f).1 (sbl q b L 0 L f).2 → K mi1 ml) : wpV G e 154 m_X3_splitBy [.ref 7, .int (nI b)] (mi, ml, RX y) K := by
  apply e_X3_splitBy
  rw [h.1]
  exact p_splitBy_loop hb mi h0 L 0 L mi f (by omega) (Nat.le_refl _) h (fun _ _ _ => rfl) (fun _ _ => rfl) hK
end SPL
