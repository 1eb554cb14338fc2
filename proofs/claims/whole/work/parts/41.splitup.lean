/-! class Primes: splitUp -/
def spF (q tr : Nat) : Nat → Nat → Nat → (Nat → Nat) → Nat × (Nat → Nat)
  | 0, _, L, f => (L, f)
  | n + 1, g, L, f => spF q tr n (g + 1) (sbl q (cmb q (q - 1) 13 tr g) L 0 L f).1 (sbl q (cmb q (q - 1) 13 tr g) L 0 L f).2
def spO (q k m top : Nat) : Nat → Nat → Nat → (Nat → Nat) → Nat × (Nat → Nat)
  | 0, _, L, f => (L, f)
  | n + 1, w, L, f => if top ≤ L * k then (L, f) else spO q k m top n (rst q (w * q) m) (spF q (trc q (rst q (w * q) m) k m) q 0 L f).1 (spF q (trc q (rst q (w * q) m) k m) q 0 L f).2
section SPU
variable {G : GC} {e q : Nat} {mi : Nat → Nat → Int32} {ml : Nat → Nat → Int64} {y : Nat → Nat → Option Nat}
def off79 (mi mi1 : Nat → Nat → Int32) : Prop := (∀ o, o ≠ 7 → o ≠ 9 → mi1 o = mi o) ∧ ∀ k, k ≠ 4 → mi1 7 k = mi 7 k
theorem trl_lt (h2 : 2 ≤ q) {m : Nat} : ∀ (n s t : Nat), s < q ^ 13 → trl q m n s t < q ^ 13
  | 0, _, _, hs => hs
  | n + 1, _, _, _ => trl_lt h2 n _ _ (cmb_lt 1 h2 13 _ _)
theorem p_splitUp_in {k m top tr v4 i : Nat} (hm : m < 2 ^ 31) (htr : tr < q ^ 13) (mi0 : Nat → Nat → Int32) (h0 : Fg q mi0) {K : (Nat → Nat → Int32) → (Nat → Nat → Int64) → Prop} : ∀ (n g L : Nat) (mi : Nat → Nat → Int32) (f : Nat → Nat), g + n = q → PSd q mi L f → off79 mi0 mi →
    (∀ mi1 : Nat → Nat → Int32, off79 mi0 mi1 → PSd q mi1 (spF q tr n g L f).1 (spF q tr n g L f).2 → wp G e tX m_X3_splitUp 38 [(0, .ref 7), (1, .int (nI m)), (2, .int (nI k)), (3, .int (nI top)), (4, .int (nI v4)), (5, .int (nI (i + 1)))] [] (mi1, ml, RX y) (QV K)) →
    wp G e tX m_X3_splitUp 87 [(0, .ref 7), (1, .int (nI m)), (2, .int (nI k)), (3, .int (nI top)), (4, .int (nI v4)), (5, .int (nI i)), (6, .int (nI tr)), (7, .int (nI g))] [] (mi, ml, RX y) (QV K) := by
  have h2 := h0.two
  have hq13 : q ^ 1 ≤ q ^ 13 := Nat.pow_le_pow_right (by omega) (by omega)
  rw [Nat.pow_one] at hq13
  intro n
  induction n with
  | zero =>
    intro g L mi f hg h ho hK
    have hF : Fg q mi := h0.off (ho.1 1 (by omega) (by omega)) (ho.1 2 (by omega) (by omega))
    apply b_X3_splitUp_87
    refine p_base hF ?_
    simp (disch := omega) only [s_le, s_lt, s_eq, s_eq0, s_in, s_ix, s_rm, s_div, s_pdlt, s_pdle, s_lepd, s_pdpd, s_pdlepd, s_pdadd, nI_add, pk_mul, pd_succ, Nat.not_lt_zero, Nat.zero_lt_succ, not_false_eq_true, not_true_eq_false, false_implies, true_implies, implies_true, and_true, true_and, Nat.reduceLT, Nat.reduceLeDiff, Nat.reduceAdd, Nat.reduceSub, Nat.zero_add, Nat.add_zero]
    exact ⟨fun _ => hK mi ho h, fun c => absurd c (by omega)⟩
  | succ n ih =>
    intro g L mi f hg h ho hK
    have hF : Fg q mi := h0.off (ho.1 1 (by omega) (by omega)) (ho.1 2 (by omega) (by omega))
    apply b_X3_splitUp_87
    refine p_base hF ?_
    simp (disch := omega) only [s_le, s_lt, s_eq, s_eq0, s_in, s_ix, s_rm, s_div, s_pdlt, s_pdle, s_lepd, s_pdpd, s_pdlepd, s_pdadd, nI_add, pk_mul, pd_succ, Nat.not_lt_zero, Nat.zero_lt_succ, not_false_eq_true, not_true_eq_false, false_implies, true_implies, implies_true, and_true, true_and, Nat.reduceLT, Nat.reduceLeDiff, Nat.reduceAdd, Nat.reduceSub, Nat.zero_add, Nat.add_zero]
    refine ⟨fun c => absurd c (by omega), fun _ => ?_⟩
    refine p_difference hF htr (show g < q ^ 13 by omega) ?_
    refine p_splitBy hF (cmb_lt _ h2.1 13 _ _) h ?_
    intro mi1 ho1 h71 h1
    exact ih (g + 1) _ mi1 _ (by omega) h1 ⟨fun o a7 a9 => by rw [ho1 o a7 a9]; exact ho.1 o a7 a9, fun k hk => by rw [h71 k hk]; exact ho.2 k hk⟩ hK
theorem p_splitUp_loop {k m top : Nat} (h1k : 1 ≤ k) (hk : k ≤ 12) (hm : m < q ^ 13) (hl : ln q 13 m = top + 1) (hm1 : dg q m top = 1) (mi0 : Nat → Nat → Int32) (h0 : Fg q mi0) {K : (Nat → Nat → Int32) → (Nat → Nat → Int64) → Prop} : ∀ (n i w L : Nat) (mi : Nat → Nat → Int32) (f : Nat → Nat), (i + n = top ∨ (n = 0 ∧ top ≤ i)) → i ≤ 13 → w < q ^ 12 → PSd q mi L f → off79 mi0 mi →
    (∀ mi1 : Nat → Nat → Int32, off79 mi0 mi1 → PSd q mi1 (spO q k m top n w L f).1 (spO q k m top n w L f).2 → K mi1 ml) →
    wp G e tX m_X3_splitUp 38 [(0, .ref 7), (1, .int (nI m)), (2, .int (nI k)), (3, .int (nI top)), (4, .int (nI w)), (5, .int (nI i))] [] (mi, ml, RX y) (QV K) := by
  have h2 := h0.two
  have hl13 := ln_le q 13 m
  have hp13 := h0.pow (Nat.le_refl 13)
  have hm0 : 0 < m := by
    rcases Nat.eq_zero_or_pos m with z | z
    · rw [z, ln_zero h2.1] at hl
      omega
    · exact z
  intro n
  induction n with
  | zero =>
    intro i w L mi f hi hi13 hw h ho hK
    apply b_X3_splitUp_38
    simp (disch := omega) only [s_le, s_lt, s_eq, s_eq0, s_in, s_ix, s_rm, s_div, s_pdlt, s_pdle, s_lepd, s_pdpd, s_pdlepd, s_pdadd, nI_add, pk_mul, pd_succ, Nat.not_lt_zero, Nat.zero_lt_succ, not_false_eq_true, not_true_eq_false, false_implies, true_implies, implies_true, and_true, true_and, Nat.reduceLT, Nat.reduceLeDiff, Nat.reduceAdd, Nat.reduceSub, Nat.zero_add, Nat.add_zero]
    exact ⟨fun _ => hK mi ho h, fun c => absurd c (by omega)⟩
  | succ n ih =>
    intro i w L mi f hi hi13 hw h ho hK
    have hF : Fg q mi := h0.off (ho.1 1 (by omega) (by omega)) (ho.1 2 (by omega) (by omega))
    have hL := h.2.1
    have hLk : L * k ≤ 13 * 12 := Nat.mul_le_mul hL hk
    unfold spO at hK
    have hwq : w * q < q ^ 13 := by
      rw [show (13 : Nat) = 12 + 1 from rfl, Nat.pow_succ]
      exact Nat.mul_lt_mul_of_pos_right hw (by omega)
    apply b_X3_splitUp_38
    rw [h.1]
    simp (disch := omega) only [s_le, s_lt, s_eq, s_eq0, s_in, s_ix, s_rm, s_div, s_pdlt, s_pdle, s_lepd, s_pdpd, s_pdlepd, s_pdadd, nI_add, pk_mul, pd_succ, Nat.not_lt_zero, Nat.zero_lt_succ, not_false_eq_true, not_true_eq_false, false_implies, true_implies, implies_true, and_true, true_and, Nat.reduceLT, Nat.reduceLeDiff, Nat.reduceAdd, Nat.reduceSub, Nat.zero_add, Nat.add_zero]
    refine ⟨fun c => absurd c (by omega), fun _ => ⟨fun c => ?_, fun c => ?_⟩⟩
    · rw [if_pos c] at hK
      exact hK mi ho h
    rw [if_neg c] at hK
    refine p_base hF ?_
    simp (disch := omega) only [s_le, s_lt, s_eq, s_eq0, s_in, s_ix, s_rm, s_div, s_pdlt, s_pdle, s_lepd, s_pdpd, s_pdlepd, s_pdadd, nI_add, pk_mul, pd_succ, Nat.not_lt_zero, Nat.zero_lt_succ, not_false_eq_true, not_true_eq_false, false_implies, true_implies, implies_true, and_true, true_and, Nat.reduceLT, Nat.reduceLeDiff, Nat.reduceAdd, Nat.reduceSub, Nat.zero_add, Nat.add_zero]
    refine p_rest hF hwq hm hm0 ?_
    have hr := rst_small hF.1 hwq hm hm0
    rw [hl, Nat.add_sub_cancel] at hr
    refine p_ptrace hF hl hm hm1 h1k (by omega) hr ?_
    have htr : trc q (rst q (w * q) m) k m < q ^ 13 := trl_lt h2.1 _ _ _ (rst_lt h2.1 hwq)
    refine p_splitUp_in (i := i) (by omega) htr mi0 h0 q 0 L mi f (by omega) h ho ?_
    intro mi1 ho1 h1
    exact ih (i + 1) _ _ mi1 _ (by omega) (by omega) (Nat.lt_of_lt_of_le hr (Nat.pow_le_pow_right (by omega) (by omega))) h1 ho1 hK
end SPU
