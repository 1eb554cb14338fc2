/-! the constructors: what stands after them -/
section KST
variable {G : GC} {e : Nat} {mi : Nat → Nat → Int32} {ml : Nat → Nat → Int64}
theorem rfs_none {a b o k : Nat} (h : a ≤ o ∨ b ≤ k) : ∀ l : List (Nat × Nat × Nat), l.all (fun x => Nat.blt x.1 a && Nat.blt x.2.1 b) = true → rfs l o k = none
  | [], _ => rfl
  | x :: l, hl => by
    rw [List.all_cons, Bool.and_eq_true, Bool.and_eq_true, Nat.blt_eq, Nat.blt_eq] at hl
    have e : rfs (x :: l) o k = if o = x.1 ∧ k = x.2.1 then some x.2.2 else rfs l o k := rfl
    rw [e, if_neg (by omega)]
    exact rfs_none h l hl.2
theorem rlk_none {a b o k : Nat} (h : a ≤ o ∨ b ≤ k) : ∀ l : List (Nat × List (Option Nat)), l.all (fun q => Nat.blt q.1 a && Nat.ble q.2.length b) = true → rlk o k l = none
  | [], _ => rfl
  | q :: l, hl => by
    rw [List.all_cons, Bool.and_eq_true, Bool.and_eq_true, Nat.blt_eq] at hl
    have h3 := Nat.le_of_ble_eq_true hl.1.2
    unfold rlk
    split
    · next z =>
      have z1 := Nat.eq_of_beq_eq_true z
      rw [List.getD_eq_getElem?_getD, List.getElem?_eq_none (by omega)]
      rfl
    · exact rlk_none h l hl.2
theorem rx_same {l : List (Nat × Nat × Nat)} {y : Nat → Nat → Option Nat} (h1 : l.all (fun x => Nat.blt x.1 168 && Nat.blt x.2.1 31) = true) (hy : ∀ o k, 168 ≤ o ∨ 31 ≤ k → y o k = none) (h2 : rxl.all (fun q => Nat.blt q.1 168 && Nat.ble q.2.length 31) = true) (h3 : (List.range 168).all (fun o => (List.range 31).all (fun k => decide (rfs l o k = RX y o k))) = true) : rfs l = RX y := by
  funext o k
  by_cases c : o < 168 ∧ k < 31
  · have h4 := List.all_eq_true.mp h3 o (List.mem_range.mpr c.1)
    have h5 := List.all_eq_true.mp h4 k (List.mem_range.mpr c.2)
    exact of_decide_eq_true h5
  · have c1 : 168 ≤ o ∨ 31 ≤ k := by omega
    rw [rfs_none c1 l h1]
    unfold RX
    split
    · exact (rlk_none c1 rxl h2).symm
    · exact (hy o k c1).symm
def r0 : Nat → Nat → Option Nat := fun _ _ => none
theorem rx_eq1 : rfs [(0, 12, 153), (0, 11, 152), (0, 10, 151), (0, 9, 146), (0, 8, 121), (121, 8, 145), (121, 7, 144), (121, 6, 133), (121, 5, 122), (0, 7, 96), (96, 8, 120), (96, 7, 119), (96, 6, 108), (96, 5, 97), (0, 6, 73), (73, 1, 3), (73, 0, 10), (73, 2, 74), (0, 5, 68), (68, 4, 14), (68, 3, 1), (68, 2, 3), (68, 1, 10), (68, 0, 11), (68, 8, 72), (68, 7, 71), (68, 6, 70), (68, 5, 69), (0, 4, 11), (11, 4, 7), (11, 3, 14), (14, 0, 1), (14, 4, 67), (14, 3, 66), (14, 2, 65), (14, 1, 15), (11, 2, 1), (11, 1, 3), (11, 0, 10), (11, 6, 13), (11, 5, 12), (0, 3, 10), (10, 1, 1), (10, 0, 3), (0, 2, 7), (7, 0, 1), (7, 2, 9), (7, 1, 8), (0, 1, 3), (3, 0, 1), (3, 6, 6), (3, 5, 5), (3, 4, 4), (0, 0, 1), (1, 1, 2)] = RX r0 := rx_same (by decide +kernel) (fun _ _ _ => rfl) (by decide +kernel) (by decide +kernel)
theorem rx_eq2 : rfs [(154, 30, 167), (154, 29, 166), (154, 28, 165), (154, 27, 164), (154, 24, 163), (154, 11, 162), (154, 8, 161), (154, 7, 160), (154, 6, 159), (154, 5, 158), (154, 2, 157), (154, 1, 156), (154, 0, 155), (0, 12, 153), (0, 11, 152), (0, 10, 151), (0, 9, 146), (0, 8, 121), (121, 8, 145), (121, 7, 144), (121, 6, 133), (121, 5, 122), (0, 7, 96), (96, 8, 120), (96, 7, 119), (96, 6, 108), (96, 5, 97), (0, 6, 73), (73, 1, 3), (73, 0, 10), (73, 2, 74), (0, 5, 68), (68, 4, 14), (68, 3, 1), (68, 2, 3), (68, 1, 10), (68, 0, 11), (68, 8, 72), (68, 7, 71), (68, 6, 70), (68, 5, 69), (0, 4, 11), (11, 4, 7), (11, 3, 14), (14, 0, 1), (14, 4, 67), (14, 3, 66), (14, 2, 65), (14, 1, 15), (11, 2, 1), (11, 1, 3), (11, 0, 10), (11, 6, 13), (11, 5, 12), (0, 3, 10), (10, 1, 1), (10, 0, 3), (0, 2, 7), (7, 0, 1), (7, 2, 9), (7, 1, 8), (0, 1, 3), (3, 0, 1), (3, 6, 6), (3, 5, 5), (3, 4, 4), (0, 0, 1), (1, 1, 2)] = RX RM := rx_same (by decide +kernel) (fun o k h => rlk_none h rml (by decide +kernel)) (by decide +kernel) (by decide +kernel)
theorem e3_setBase {K : (Nat → Nat → Int32) → (Nat → Nat → Int64) → Prop} (v1 : Int32) (h : ((v1 < (nI 2) → K mi ml) ∧ (¬ v1 < (nI 2) → ((v1 ≤ (nI 5) → wp G e (3, 0, 0) 14 20 [(0, .ref 1), (1, .int v1), (2, .int (nI 1)), (3, .int (nI 0))] [] ((u2 mi 1 0 v1), ml, (rfs [(1, 1, 2)])) (QV K)) ∧ (¬ v1 ≤ (nI 5) → K mi ml))))) : wpV G e 3 14 [.ref 1, .int v1] (mi, ml, (rfs [(1, 1, 2)])) K :=
  vc_in 600 (Nat.le_of_ble_eq_true rfl) rfl _ _ rfl rfl h
theorem b3_setBase {K : (Nat → Nat → Int32) → (Nat → Nat → Int64) → Prop} (v1 v2 v3 : Int32) (h : (((nI 14) ≤ v3 → K mi ml) ∧ (¬ (nI 14) ≤ v3 → (vp_in v3 14 ∧ wp G e (3, 0, 0) 14 20 [(0, .ref 1), (1, .int v1), (2, .int (v2 * v1)), (3, .int (v3 + (nI 1)))] [] ((u2 mi 2 (ix v3) v2), ml, (rfs [(1, 1, 2)])) (QV K))))) : wp G e (3, 0, 0) 14 20 [(0, .ref 1), (1, .int v1), (2, .int v2), (3, .int v3)] [] (mi, ml, (rfs [(1, 1, 2)])) (QV K) :=
  vc_at 600 (Nat.le_of_ble_eq_true rfl) rfl _ _ rfl rfl h
theorem p3_setBase {q : Nat} (hq : q = 2 ∨ q = 3 ∨ q = 5) {K : (Nat → Nat → Int32) → (Nat → Nat → Int64) → Prop} (hK : ∀ mi1 : Nat → Nat → Int32, (∀ o, o ≠ 1 → o ≠ 2 → mi1 o = mi o) → Fg q mi1 → K mi1 ml) : wpV G e 3 14 [.ref 1, .int (nI q)] (mi, ml, rfs [(1, 1, 2)]) K := by
  have loop : ∀ (r i : Nat) (mi1 : Nat → Nat → Int32), r + i = 14 → (∀ o, o ≠ 1 → o ≠ 2 → mi1 o = mi o) → mi1 1 0 = nI q → (∀ k, k < i → mi1 2 k = nI (q ^ k)) → wp G e (3, 0, 0) 14 20 [(0, .ref 1), (1, .int (nI q)), (2, .int (nI (q ^ i))), (3, .int (nI i))] [] (mi1, ml, rfs [(1, 1, 2)]) (QV K) := by
    intro r
    induction r with
    | zero =>
      intro i mi1 hr ho h1 h2
      apply b3_setBase
      simp (disch := omega) only [s_le, s_lt, s_eq, s_eq0, s_in, s_ix, s_rm, s_div, s_pdlt, s_pdle, s_lepd, s_pdpd, s_pdlepd, s_pdadd, nI_add, pk_mul, pd_succ, Nat.not_lt_zero, Nat.zero_lt_succ, not_false_eq_true, not_true_eq_false, false_implies, true_implies, implies_true, and_true, true_and, Nat.reduceLT, Nat.reduceLeDiff, Nat.reduceAdd, Nat.reduceSub, Nat.zero_add, Nat.add_zero]
      exact ⟨fun _ => hK mi1 ho ⟨hq, h1, fun k hk => h2 k (by omega)⟩, fun z => absurd (show 14 ≤ i by omega) z⟩
    | succ r ih =>
      intro i mi1 hr ho h1 h2
      apply b3_setBase
      simp (disch := omega) only [s_le, s_lt, s_eq, s_eq0, s_in, s_ix, s_rm, s_div, s_pdlt, s_pdle, s_lepd, s_pdpd, s_pdlepd, s_pdadd, nI_add, pk_mul, pd_succ, Nat.not_lt_zero, Nat.zero_lt_succ, not_false_eq_true, not_true_eq_false, false_implies, true_implies, implies_true, and_true, true_and, Nat.reduceLT, Nat.reduceLeDiff, Nat.reduceAdd, Nat.reduceSub, Nat.zero_add, Nat.add_zero]
      refine ⟨fun z => absurd z (by omega), fun _ => ⟨by omega, ?_⟩⟩
      rw [← Nat.pow_succ]
      refine ih (i + 1) _ (by omega) (fun o o1 o2 => by rw [u2_off o2]; exact ho o o1 o2) (by rw [u2_off (by omega)]; exact h1) (fun k hk => ?_)
      by_cases z : k = i
      · rw [z, u2_at]
      · rw [u2_ne z]
        exact h2 k (by omega)
  apply e3_setBase
  have := loop 14 0 (u2 mi 1 0 (nI q)) rfl (fun o o1 o2 => u2_off o1) u2_at (fun k hk => absurd hk (by omega))
  rw [Nat.pow_zero] at this
  simp (disch := omega) only [s_le, s_lt, s_eq, s_eq0, s_in, s_ix, s_rm, s_div, s_pdlt, s_pdle, s_lepd, s_pdpd, s_pdlepd, s_pdadd, nI_add, pk_mul, pd_succ, Nat.not_lt_zero, Nat.zero_lt_succ, not_false_eq_true, not_true_eq_false, false_implies, true_implies, implies_true, and_true, true_and, Nat.reduceLT, Nat.reduceLeDiff, Nat.reduceAdd, Nat.reduceSub, Nat.zero_add, Nat.add_zero]
  exact ⟨fun z => absurd z (by omega), fun _ => ⟨fun _ => this, fun z => absurd z (by omega)⟩⟩
end KST
