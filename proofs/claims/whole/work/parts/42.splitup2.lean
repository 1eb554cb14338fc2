/-! class Primes: splitUp, whole -/
section SPW
variable {G : GC} {e q : Nat} {mi : Nat → Nat → Int32} {ml : Nat → Nat → Int64} {y : Nat → Nat → Option Nat}
theorem p_splitUp (h0 : Fg q mi) {k m top : Nat} (h1k : 1 ≤ k) (hk : k ≤ 12) (hm : m < q ^ 13) (hl : ln q 13 m = top + 1) (hm1 : dg q m top = 1) {K : (Nat → Nat → Int32) → (Nat → Nat → Int64) → Prop}
    (hK0 : top < k → ∀ mi1 : Nat → Nat → Int32, off79 mi mi1 → PSd q mi1 0 (fun _ => m) → K mi1 ml)
    (hK : k ≤ top → ∀ mi1 : Nat → Nat → Int32, off79 mi mi1 → PSd q mi1 (spO q k m top (top - 1) 1 1 (fun _ => m)).1 (spO q k m top (top - 1) 1 1 (fun _ => m)).2 → K mi1 ml) :
    wpV G e 154 m_X3_splitUp [.ref 7, .int (nI m), .int (nI k)] (mi, ml, RX y) K := by
  have h2 := h0.two
  have hl13 := ln_le q 13 m
  have h12 : q ^ 1 ≤ q ^ 12 := Nat.pow_le_pow_right (by omega) (by omega)
  rw [Nat.pow_one] at h12
  apply e_X3_splitUp
  refine p_degree h0 hm ?_
  rw [hl, pd_succ]
  simp (disch := omega) only [s_le, s_lt, s_eq, s_eq0, s_in, s_ix, s_rm, s_div, s_pdlt, s_pdle, s_lepd, s_pdpd, s_pdlepd, s_pdadd, nI_add, pk_mul, pd_succ, Nat.not_lt_zero, Nat.zero_lt_succ, not_false_eq_true, not_true_eq_false, false_implies, true_implies, implies_true, and_true, true_and, Nat.reduceLT, Nat.reduceLeDiff, Nat.reduceAdd, Nat.reduceSub, Nat.zero_add, Nat.add_zero]
  refine ⟨fun c => ?_, fun c => ?_⟩
  · refine p_splitUp_loop h1k hk hm hl hm1 mi h0 (top - 1) 1 1 1 _ (fun _ => m) (by omega) (by omega) (by omega) ⟨?_, by omega, fun i hi => ?_⟩ ⟨fun o a7 a9 => ?_, fun j hj => ?_⟩ (hK c)
    · rw [u2_on]
      rfl
    · have hi0 : i = 0 := by omega
      rw [u2_off (show 9 ≠ 7 by omega), u2_on, hi0]
      exact ⟨rfl, hm⟩
    · rw [u2_off a7, u2_off a9, u2_off a7]
    · rw [u2_on]
      show (if j = 4 then _ else _) = _
      rw [if_neg hj, u2_off (show 7 ≠ 9 by omega), u2_on]
      show (if j = 4 then _ else _) = _
      rw [if_neg hj]
  · refine hK0 (by omega) _ ⟨fun o a7 a9 => by rw [u2_off a7], fun j hj => ?_⟩ ⟨?_, by omega, fun i hi => absurd hi (by omega)⟩
    · rw [u2_on]
      show (if j = 4 then _ else _) = _
      rw [if_neg hj]
    · rw [u2_on]
      rfl
end SPW
