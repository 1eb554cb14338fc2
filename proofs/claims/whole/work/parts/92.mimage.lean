/-! the reference: image, back, a new world -/
section MIM
variable {G : GC} {e n q m d : Nat} {mi : Nat → Nat → Int32} {ml : Nat → Nat → Int64} {A : Ast}
theorem an155 : (ak 155 = 11 ∧ an 155 = 150) ∧ ak 156 = 11 ∧ an 156 = 150 := by decide +kernel
theorem m_copy {a b : Nat} (ha : a = 155 ∨ a = 156) (hb : b = 155 ∨ b = 156) (hab : a ≠ b) {K : (Nat → Nat → Int32) → (Nat → Nat → Int64) → Prop} (hK : ∀ mi1, (∀ o, o ≠ b → mi1 o = mi o) → (∀ k, k < 150 → mi1 b k = mi a k) → K mi1 ml) : wpV G e 168 m_X10_copy [.ref a, .ref b] (mi, ml, RX RM) K := by
  have t := an155
  have ta : ak a = 11 ∧ an a = 150 := by
    rcases ha with c | c <;> rw [c]
    · exact t.1
    · exact t.2
  have tb : ak b = 11 ∧ an b = 150 := by
    rcases hb with c | c <;> rw [c]
    · exact t.1
    · exact t.2
  have loop : ∀ (r k : Nat) (mi2 : Nat → Nat → Int32), r + k = 150 → (∀ o, o ≠ b → mi2 o = mi o) → (∀ j, j < k → mi2 b j = mi a j) → wp G e tM m_X10_copy 2 [(0, .ref a), (1, .ref b), (2, .int (nI k))] [] (mi2, ml, RX RM) (QV K) := by
    intro r
    induction r with
    | zero =>
      intro k mi2 hk ho hj
      have : k = 150 := by omega
      subst this
      apply b_X10_copy_2
      simp (disch := omega) only [s_le, s_lt, s_eq, s_eq0, s_in, s_ix, s_rm, s_div, s_pdlt, s_pdle, s_lepd, s_pdpd, s_pdlepd, s_pdadd, nI_add, pk_mul, pd_succ, Nat.not_lt_zero, Nat.zero_lt_succ, not_false_eq_true, not_true_eq_false, false_implies, true_implies, implies_true, and_true, true_and, Nat.reduceLT, Nat.reduceLeDiff, Nat.reduceAdd, Nat.reduceSub, Nat.zero_add, Nat.add_zero, Nat.le_refl]
      exact hK mi2 ho hj
    | succ r ih =>
      intro k mi2 hk ho hj
      have := ih (k + 1) (u2 mi2 b k (mi2 a k)) (by omega) (fun o o1 => by rw [u2_off o1]; exact ho o o1) (fun j h => by
        by_cases c : j = k
        · rw [c, u2_at, ho a hab]
        · rw [u2_ne c]
          exact hj j (by omega))
      apply b_X10_copy_2
      rw [ta.1, ta.2, tb.1, tb.2]
      simp (disch := omega) only [s_le, s_lt, s_eq, s_eq0, s_in, s_ix, s_rm, s_div, s_pdlt, s_pdle, s_lepd, s_pdpd, s_pdlepd, s_pdadd, nI_add, pk_mul, pd_succ, Nat.not_lt_zero, Nat.zero_lt_succ, not_false_eq_true, not_true_eq_false, false_implies, true_implies, implies_true, and_true, true_and, Nat.reduceLT, Nat.reduceLeDiff, Nat.reduceAdd, Nat.reduceSub, Nat.zero_add, Nat.add_zero]
      exact ⟨fun c => absurd c (by omega), fun _ => ⟨by omega, by omega, by omega, by omega, this⟩⟩
  apply e_X10_copy
  exact loop 150 0 mi rfl (fun _ _ => rfl) (fun j hj => absurd hj (by omega))
theorem Ma.copy {a b : Nat} {mi1 : Nat → Nat → Int32} (h : Ma a A mi) (hc : ∀ k, k < 150 → mi1 b k = mi a k) : Ma b A mi1 := by
  obtain ⟨b0, b1, b2, b3, b4, b5, b6, b7, b8, b9⟩ := h
  refine ⟨?_, ?_, ?_, ?_, ?_, ?_, ?_, fun i hi k hk => ?_, fun i hi k hk => ?_, fun i hi => ?_⟩
  · rw [hc 0 (by omega)]; exact b0
  · rw [hc 1 (by omega)]; exact b1
  · rw [hc 2 (by omega)]; exact b2
  · rw [hc 3 (by omega)]; exact b3
  · rw [hc 4 (by omega)]; exact b4
  · rw [hc 5 (by omega)]; exact b5
  · rw [hc 6 (by omega)]; exact b6
  · rw [hc _ (by omega)]; exact b7 i hi k hk
  · rw [hc _ (by omega)]; exact b8 i hi k hk
  · rw [hc _ (by omega)]; exact b9 i hi
theorem Ma.start {mi1 : Nat → Nat → Int32} (h : Ma 155 A mi) (hw : m_wA q m mi mi1) : Ma 155 (startA A q m) mi1 := by
  obtain ⟨b0, b1, b2, b3, b4, b5, b6, b7, b8, b9⟩ := h
  obtain ⟨w1, w2, w3, w4, w5, w6, w7, w8, w9⟩ := hw
  refine ⟨w3, w4, w5, w6, ?_, w7, w8, fun i hi k hk => ?_, fun i hi k hk => ?_, fun i hi => ?_⟩
  · rw [w9 4 (by omega)]; exact b4
  · rw [w9 _ (by omega)]; exact b7 i hi k hk
  · rw [w9 _ (by omega)]; exact b8 i hi k hk
  · rw [w9 _ (by omega)]; exact b9 i hi
theorem m_image (h : Ma 155 A mi) {K : Int32 → (Nat → Nat → Int32) → (Nat → Nat → Int64) → Prop} (hK : ∀ mi1, (∀ o, o ≠ 156 → mi1 o = mi o) → Ma 156 A mi1 → K (nI (adn A)) mi1 ml) : wpI G e 168 m_X10_image [.ref 154] (mi, ml, RX RM) K := by
  apply e_X10_image
  refine m_copy (Or.inl rfl) (Or.inr rfl) (by omega) (fun mi1 ho hc => ?_)
  have e5 : mi1 155 5 = nI (adn A) := by rw [ho 155 (by omega)]; exact h.2.2.2.2.2.1
  simp (disch := omega) only [s_le, s_lt, s_eq, s_eq0, s_in, s_ix, s_rm, s_div, s_pdlt, s_pdle, s_lepd, s_pdpd, s_pdlepd, s_pdadd, nI_add, pk_mul, pd_succ, Nat.not_lt_zero, Nat.zero_lt_succ, not_false_eq_true, not_true_eq_false, false_implies, true_implies, implies_true, and_true, true_and, Nat.reduceLT, Nat.reduceLeDiff, Nat.reduceAdd, Nat.reduceSub, Nat.zero_add, Nat.add_zero, e5]
  exact hK mi1 ho (h.copy hc)
theorem m_back (h : Ma 156 A mi) (hp : Pw (aq A) (am A) d n) {K : Int32 → (Nat → Nat → Int32) → (Nat → Nat → Int64) → Prop} (hK : ∀ mi1, (∀ o, o ≠ 154 → o ≠ 155 → o ≠ 158 → o ≠ 159 → o ≠ 160 → mi1 o = mi o) → (∀ k, k ≠ 3 → k ≠ 4 → k ≠ 9 → k ≠ 10 → mi1 154 k = mi 154 k) → Ma 155 A mi1 → Mw (aq A) (am A) d n mi1 → K (nI (adn A)) mi1 ml) : wpI G e 168 m_X10_back [.ref 154] (mi, ml, RX RM) K := by
  apply e_X10_back
  refine m_copy (Or.inr rfl) (Or.inl rfl) (by omega) (fun mi1 ho hc => ?_)
  have hA : Ma 155 A mi1 := h.copy hc
  refine m_makeWorld hp ⟨hp.1.hq, hA.1⟩ hA.2.1 (fun mi2 hW hMw => ?_)
  have g : mi2 155 = mi1 155 := hW.1 155 (by omega) (by omega) (by omega) (by omega)
  have hA2 := hA.off g
  simp (disch := omega) only [s_le, s_lt, s_eq, s_eq0, s_in, s_ix, s_rm, s_div, s_pdlt, s_pdle, s_lepd, s_pdpd, s_pdlepd, s_pdadd, nI_add, pk_mul, pd_succ, Nat.not_lt_zero, Nat.zero_lt_succ, not_false_eq_true, not_true_eq_false, false_implies, true_implies, implies_true, and_true, true_and, Nat.reduceLT, Nat.reduceLeDiff, Nat.reduceAdd, Nat.reduceSub, Nat.zero_add, Nat.add_zero, hA2.2.2.2.2.2.1]
  exact hK mi2 (fun o o1 o2 o3 o4 o5 => by rw [hW.1 o o1 o3 o4 o5, ho o o2]) (fun k k1 k2 k3 k4 => by rw [hW.2 k k1 k2 k3 k4, ho 154 (by omega)]) hA2 hMw
end MIM
