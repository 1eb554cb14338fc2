/-! class Primes: takeOut -/
def tkf (q p : Nat) : Nat → Nat → Nat → (Nat → Nat) → Nat × Nat × (Nat → Nat)
  | 0, a, L, f => (a, L, f)
  | n + 1, a, L, f => if rst q a p = 0 then (if L < 13 then tkf q p n (quo q a p) (L + 1) (up1 f L p) else tkf q p n (quo q a p) L f) else (a, L, f)
section TKO
variable {G : GC} {e q : Nat} {mi : Nat → Nat → Int32} {ml : Nat → Nat → Int64} {y : Nat → Nat → Option Nat}
theorem p_takeOut_loop {p : Nat} (hp : p < q ^ 13) (hp0 : 0 < p) (mi0 : Nat → Nat → Int32) (h0 : Fg q mi0) {K : Int32 → (Nat → Nat → Int32) → (Nat → Nat → Int64) → Prop} : ∀ (n i a L : Nat) (mi : Nat → Nat → Int32) (f : Nat → Nat), i + n = 13 → a < q ^ 13 → PFd mi L f → (∀ o, o ≠ 7 → o ≠ 8 → mi o = mi0 o) → (∀ k, k ≠ 3 → mi 7 k = mi0 7 k) →
    (∀ mi1 : Nat → Nat → Int32, (∀ o, o ≠ 7 → o ≠ 8 → mi1 o = mi0 o) → (∀ k, k ≠ 3 → mi1 7 k = mi0 7 k) → PFd mi1 (tkf q p n a L f).2.1 (tkf q p n a L f).2.2 → K (nI (tkf q p n a L f).1) mi1 ml) →
    wp G e tX m_X3_takeOut 2 [(0, .ref 7), (1, .int (nI a)), (2, .int (nI p)), (3, .int (nI i))] [] (mi, ml, RX y) (QI K) := by
  have h2 := h0.two
  have hp13 := h0.pow (Nat.le_refl 13)
  intro n
  induction n with
  | zero =>
    intro i a L mi f hi ha h ho h7 hK
    apply b_X3_takeOut_2
    simp (disch := omega) only [s_le, s_lt, s_eq, s_eq0, s_in, s_ix, s_rm, s_div, s_pdlt, s_pdle, s_lepd, s_pdpd, s_pdlepd, s_pdadd, nI_add, pk_mul, pd_succ, Nat.not_lt_zero, Nat.zero_lt_succ, not_false_eq_true, not_true_eq_false, false_implies, true_implies, implies_true, and_true, true_and, Nat.reduceLT, Nat.reduceLeDiff, Nat.reduceAdd, Nat.reduceSub, Nat.zero_add, Nat.add_zero]
    exact ⟨fun _ => hK mi ho h7 h, fun c => absurd (show 13 ≤ i by omega) c⟩
  | succ n ih =>
    intro i a L mi f hi ha h ho h7 hK
    have hL := h.2.1
    have hF : Fg q mi := h0.off (ho 1 (by omega) (by omega)) (ho 2 (by omega) (by omega))
    unfold tkf at hK
    have hr := rst_lt h2.1 ha (b := p)
    apply b_X3_takeOut_2
    simp (disch := omega) only [s_le, s_lt, s_eq, s_eq0, s_in, s_ix, s_rm, s_div, s_pdlt, s_pdle, s_lepd, s_pdpd, s_pdlepd, s_pdadd, nI_add, pk_mul, pd_succ, Nat.not_lt_zero, Nat.zero_lt_succ, not_false_eq_true, not_true_eq_false, false_implies, true_implies, implies_true, and_true, true_and, Nat.reduceLT, Nat.reduceLeDiff, Nat.reduceAdd, Nat.reduceSub, Nat.zero_add, Nat.add_zero]
    refine ⟨fun c => absurd c (by omega), fun _ => p_rest hF ha hp hp0 ?_⟩
    simp (disch := omega) only [s_le, s_lt, s_eq, s_eq0, s_in, s_ix, s_rm, s_div, s_pdlt, s_pdle, s_lepd, s_pdpd, s_pdlepd, s_pdadd, nI_add, pk_mul, pd_succ, Nat.not_lt_zero, Nat.zero_lt_succ, not_false_eq_true, not_true_eq_false, false_implies, true_implies, implies_true, and_true, true_and, Nat.reduceLT, Nat.reduceLeDiff, Nat.reduceAdd, Nat.reduceSub, Nat.zero_add, Nat.add_zero]
    refine ⟨fun c => ?_, fun c => ?_⟩
    · rw [if_neg c] at hK
      exact hK mi ho h7 h
    rw [if_pos c] at hK
    refine p_add h (by omega) (fun c1 => ?_) (fun mi1 c1 ho1 h71 h1 => ?_)
    · rw [if_neg (by omega)] at hK
      refine p_quotient hF ha hp hp0 ?_
      exact ih (i + 1) _ L mi f (by omega) (quo_lt h2.1 hp hp0) h ho h7 hK
    · rw [if_pos c1] at hK
      refine p_quotient (hF.off (ho1 1 (by omega) (by omega)) (ho1 2 (by omega) (by omega))) ha hp hp0 ?_
      exact ih (i + 1) _ (L + 1) mi1 _ (by omega) (quo_lt h2.1 hp hp0) h1 (fun o a7 a8 => by rw [ho1 o a7 a8]; exact ho o a7 a8) (fun k hk => by rw [h71 k hk]; exact h7 k hk) hK
/-- takes prime out as often as it goes -/
theorem p_takeOut (h0 : Fg q mi) {p a L : Nat} (hp : p < q ^ 13) (hp0 : 0 < p) (ha : a < q ^ 13) {f : Nat → Nat} (h : PFd mi L f) {K : Int32 → (Nat → Nat → Int32) → (Nat → Nat → Int64) → Prop}
    (hK : ∀ mi1 : Nat → Nat → Int32, (∀ o, o ≠ 7 → o ≠ 8 → mi1 o = mi o) → (∀ k, k ≠ 3 → mi1 7 k = mi 7 k) → PFd mi1 (tkf q p 13 a L f).2.1 (tkf q p 13 a L f).2.2 → K (nI (tkf q p 13 a L f).1) mi1 ml) :
    wpI G e 154 m_X3_takeOut [.ref 7, .int (nI a), .int (nI p)] (mi, ml, RX y) K := by
  apply e_X3_takeOut
  exact p_takeOut_loop hp hp0 mi h0 13 0 a L mi f rfl ha h (fun _ _ _ => rfl) (fun _ _ => rfl) hK
end TKO
