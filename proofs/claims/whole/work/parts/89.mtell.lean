/-! the reference: modules and maps told -/
section MTL
variable {G : GC} {e n : Nat} {mi : Nat → Nat → Int32} {ml : Nat → Nat → Int64} {A : Ast}
theorem m_step {v : Int32} {dn : Nat} (h5 : mi 155 5 = nI dn) (hd : dn < 20) {K : (Nat → Nat → Int32) → (Nat → Nat → Int64) → Prop} (hK : K (u2 (u2 (u2 mi 155 (130 + dn) v) 155 5 (nI (dn + 1))) 155 6 (nI (dn + 1))) ml) : wpV G e 168 m_X10_step [.ref 154, .int v] (mi, ml, RX RM) K := by
  apply e_X10_step
  simp (disch := omega) only [s_le, s_lt, s_eq, s_eq0, s_in, s_ix, s_rm, s_div, s_pdlt, s_pdle, s_lepd, s_pdpd, s_pdlepd, s_pdadd, nI_add, pk_mul, pd_succ, Nat.not_lt_zero, Nat.zero_lt_succ, not_false_eq_true, not_true_eq_false, false_implies, true_implies, implies_true, and_true, true_and, Nat.reduceLT, Nat.reduceLeDiff, Nat.reduceAdd, Nat.reduceSub, Nat.zero_add, Nat.add_zero, h5, u2_at, u2_ne]
  exact ⟨by omega, hK⟩
theorem m_tellModule (h : Ma 155 A mi) {r : Nat} {f : Nat → Nat} (hn : n ≤ 128) (hW : Wr n mi r f) (h10 : kc (aks A) 0 (adn A) ≤ 10) (h11 : kc (aks A) 1 (adn A) ≤ 10) (hks : ∀ i, aks A i ≤ 1) {K : Int32 → (Nat → Nat → Int32) → (Nat → Nat → Int64) → Prop}
    (hK1 : (2 ≤ rl f 25 ∧ rl f 25 ≤ 4) ∧ kc (aks A) 0 (adn A) < 10 → ∀ mi1, (∀ o, o ≠ 155 → mi1 o = mi o) → mi1 155 0 = mi 155 0 → mi1 155 1 = mi 155 1 → Ma 155 (tell0A A f) mi1 → K (nI (kc (aks A) 0 (adn A))) mi1 ml)
    (hK0 : ¬ ((2 ≤ rl f 25 ∧ rl f 25 ≤ 4) ∧ kc (aks A) 0 (adn A) < 10) → K NONE mi ml) : wpI G e 168 m_X10_tellModule [.ref 154, .int (nI r)] (mi, ml, RX RM) K := by
  obtain ⟨b0, b1, b2, b3, b4, b5, b6, b7, b8, b9⟩ := id h
  have hsum := kc_sum hks (adn A)
  have hr := hW.1
  have h25 := rl_le f 25
  generalize hc : kc (aks A) 0 (adn A) = c at *
  generalize hd : adn A = dn at *
  have loop : c < 10 → (2 ≤ rl f 25 ∧ rl f 25 ≤ 4) → ∀ (s j : Nat) (mi2 : Nat → Nat → Int32), s + j = 4 → (∀ o, o ≠ 155 → mi2 o = mi o) → (∀ k, (k < 10 + 4 * c ∨ 10 + 4 * c + 4 ≤ k) → mi2 155 k = mi 155 k) → (∀ i, i < j → mi2 155 (10 + 4 * c + i) = nI (f i)) → wp G e tM m_X10_tellModule 28 [(0, .ref 154), (1, .int (nI r)), (2, .int (nI j))] [] (mi2, ml, RX RM) (QI K) := by
    intro hc10 hrl s
    induction s with
    | zero =>
      intro j mi2 hj ho hk hf
      have : j = 4 := by omega
      subst this
      have e2 : mi2 155 2 = nI c := by rw [hk 2 (by omega)]; exact b2
      have e5 : mi2 155 5 = nI dn := by rw [hk 5 (by omega)]; exact b5
      apply b_X10_tellModule_28
      simp (disch := omega) only [s_le, s_lt, s_eq, s_eq0, s_in, s_ix, s_rm, s_div, s_pdlt, s_pdle, s_lepd, s_pdpd, s_pdlepd, s_pdadd, nI_add, pk_mul, pd_succ, Nat.not_lt_zero, Nat.zero_lt_succ, not_false_eq_true, not_true_eq_false, false_implies, true_implies, implies_true, and_true, true_and, Nat.reduceLT, Nat.reduceLeDiff, Nat.reduceAdd, Nat.reduceSub, Nat.zero_add, Nat.add_zero, Nat.le_refl, e2]
      refine m_step (dn := dn) (by rw [u2_ne (by omega)]; exact e5) (by omega) ?_
      simp (disch := omega) only [s_le, s_lt, s_eq, s_eq0, s_in, s_ix, s_rm, s_div, s_pdlt, s_pdle, s_lepd, s_pdpd, s_pdlepd, s_pdadd, nI_add, pk_mul, pd_succ, Nat.not_lt_zero, Nat.zero_lt_succ, not_false_eq_true, not_true_eq_false, false_implies, true_implies, implies_true, and_true, true_and, Nat.reduceLT, Nat.reduceLeDiff, Nat.reduceAdd, Nat.reduceSub, Nat.zero_add, Nat.add_zero, u2_at, u2_ne, s_sub, Nat.add_sub_cancel]
      refine hK1 ⟨hrl, hc10⟩ _ (fun o ho2 => by rw [u2_off ho2, u2_off ho2, u2_off ho2, u2_off ho2]; exact ho o ho2) ?_ ?_ ?_
      · rw [u2_ne (by omega), u2_ne (by omega), u2_ne (by omega), u2_ne (by omega)]
        exact hk 0 (by omega)
      · rw [u2_ne (by omega), u2_ne (by omega), u2_ne (by omega), u2_ne (by omega)]
        exact hk 1 (by omega)
      have ht : tell0A A f = (aq A, am A, atx A, dn + 1, dn + 1, upR (amd A) c f, amp A, up1 (aks A) dn 0) := by
        unfold tell0A
        rw [hd, hc]
      have hz : up1 (aks A) dn 0 dn = 0 := if_pos rfl
      obtain ⟨k0, k1⟩ := kc_step0 hz
      rw [kc_up (Nat.le_refl _)] at k0 k1
      have base : ∀ k, k ≠ 6 → k ≠ 5 → k ≠ 130 + dn → k ≠ 2 → (k < 10 + 4 * c ∨ 10 + 4 * c + 4 ≤ k) → u2 (u2 (u2 (u2 mi2 155 2 (nI (c + 1))) 155 (130 + dn) (nI 0)) 155 5 (nI (dn + 1))) 155 6 (nI (dn + 1)) 155 k = mi 155 k := fun k k6 k5 kd k2 kk => by
        rw [u2_ne k6, u2_ne k5, u2_ne kd, u2_ne k2]
        exact hk k kk
      rw [ht]
      refine ⟨?_, ?_, ?_, ?_, ?_, ?_, u2_at, fun i hi k hk4 => ?_, fun i hi k hk8 => ?_, fun i hi => ?_⟩
      · rw [base 0 (by omega) (by omega) (by omega) (by omega) (by omega)]; exact b0
      · rw [base 1 (by omega) (by omega) (by omega) (by omega) (by omega)]; exact b1
      · rw [u2_ne (by omega), u2_ne (by omega), u2_ne (by omega), u2_at]
        show nI (c + 1) = nI (kc (up1 (aks A) dn 0) 0 (dn + 1))
        rw [k0, hc]
      · rw [base 3 (by omega) (by omega) (by omega) (by omega) (by omega), b3]
        show _ = nI (kc (up1 (aks A) dn 0) 1 (dn + 1))
        rw [k1]
      · rw [base 4 (by omega) (by omega) (by omega) (by omega) (by omega)]; exact b4
      · rw [u2_ne (by omega), u2_at]
      · show _ = nI (upR (amd A) c f i k)
        unfold upR
        by_cases ci : i = c
        · subst ci
          rw [if_pos rfl, u2_ne (by omega), u2_ne (by omega), u2_ne (by omega), u2_ne (by omega)]
          exact hf k hk4
        · rw [if_neg ci, base _ (by omega) (by omega) (by omega) (by omega) (by omega)]
          exact b7 i hi k hk4
      · rw [base _ (by omega) (by omega) (by omega) (by omega) (by omega)]
        exact b8 i hi k hk8
      · show _ = nI (up1 (aks A) dn 0 i)
        unfold up1
        by_cases ci : i = dn
        · subst ci
          rw [if_pos rfl, u2_ne (by omega), u2_ne (by omega), u2_at]
        · rw [if_neg ci, base _ (by omega) (by omega) (by omega) (by omega) (by omega)]
          exact b9 i hi
    | succ s ih =>
      intro j mi2 hj ho hk hf
      have e2 : mi2 155 2 = nI c := by rw [hk 2 (by omega)]; exact b2
      have e1 : mi2 161 (25 * r + j) = nI (f j) := by rw [ho 161 (by omega)]; exact hW.2.1 j (by omega)
      have := ih (j + 1) (u2 mi2 155 (10 + 4 * c + j) (nI (f j))) (by omega) (fun o ho2 => by rw [u2_off ho2]; exact ho o ho2) (fun k kk => by rw [u2_ne (by omega)]; exact hk k kk) (fun i hi => by
        by_cases ci : i = j
        · rw [ci, u2_at]
        · rw [u2_ne (by omega)]
          exact hf i (by omega))
      apply b_X10_tellModule_28
      simp (disch := omega) only [s_le, s_lt, s_eq, s_eq0, s_in, s_ix, s_rm, s_div, s_pdlt, s_pdle, s_lepd, s_pdpd, s_pdlepd, s_pdadd, nI_add, pk_mul, pd_succ, Nat.not_lt_zero, Nat.zero_lt_succ, not_false_eq_true, not_true_eq_false, false_implies, true_implies, implies_true, and_true, true_and, Nat.reduceLT, Nat.reduceLeDiff, Nat.reduceAdd, Nat.reduceSub, Nat.zero_add, Nat.add_zero, e2, e1]
      exact ⟨fun c => absurd c (by omega), fun _ => ⟨by omega, by omega, this⟩⟩
  apply e_X10_tellModule
  refine m_degreeAt hn hW ?_
  have no : ¬ ((2 ≤ rl f 25 ∧ rl f 25 ≤ 4) ∧ c < 10) → (nI 0 = nI 0 → K (-(nI 1)) mi ml) := fun z _ => hK0 z
  refine m_isIn (a := 0) (by omega) (by omega) (fun a ha h1 h3 => ⟨fun z => absurd z (by decide), fun _ => ?_⟩) (fun hno => ⟨no (fun z => ?_), fun z => absurd rfl z⟩)
  · have hrl : rl f 25 = a + 1 := by
      obtain h0 | h0 := Nat.eq_zero_or_pos (rl f 25)
      · rw [h0] at ha
        exfalso
        have e1 : (pd 0).toInt = -1 := by decide
        rw [ha, nI_toInt (by omega)] at e1
        omega
      · obtain ⟨x, hx⟩ : ∃ x, rl f 25 = x + 1 := ⟨rl f 25 - 1, by omega⟩
        rw [hx, pd_succ, s_eq (by omega) (by omega)] at ha
        omega
    simp (disch := omega) only [s_le, s_lt, s_eq, s_eq0, s_in, s_ix, s_rm, s_div, s_pdlt, s_pdle, s_lepd, s_pdpd, s_pdlepd, s_pdadd, nI_add, pk_mul, pd_succ, Nat.not_lt_zero, Nat.zero_lt_succ, not_false_eq_true, not_true_eq_false, false_implies, true_implies, implies_true, and_true, true_and, Nat.reduceLT, Nat.reduceLeDiff, Nat.reduceAdd, Nat.reduceSub, Nat.zero_add, Nat.add_zero, b2]
    refine ⟨fun z => loop (by omega) (by omega) 4 0 mi rfl (fun _ _ => rfl) (fun _ _ => rfl) (fun i hi => absurd hi (by omega)), fun z => hK0 (by omega)⟩
  · obtain ⟨x, hx⟩ : ∃ x, rl f 25 = x + 1 := ⟨rl f 25 - 1, by omega⟩
    refine hno x (by omega) (by omega) ?_
    rw [hx, pd_succ]
end MTL
