/-! the reference: a world is set; poly -/
section MW2
variable {G : GC} {e q m d n : Nat} {mi : Nat → Nat → Int32} {ml : Nat → Nat → Int64} {K : Int32 → (Nat → Nat → Int32) → (Nat → Nat → Int64) → Prop}
theorem Mw.two (h : Mw q m d n mi) : 2 ≤ n ∧ n ≤ 128 := ⟨h.1.1.n2, h.1.1.2.2.2.2.2.2⟩
theorem Mw.off {mi1 : Nat → Nat → Int32} (h : Mw q m d n mi) (h5 : mi1 155 0 = mi 155 0 ∧ mi1 155 1 = mi 155 1) (h4 : mi1 154 3 = mi 154 3 ∧ mi1 154 4 = mi 154 4) (h8 : mi1 158 = mi 158) (h9 : mi1 159 = mi 159) (h0 : mi1 160 = mi 160) : Mw q m d n mi1 := by
  obtain ⟨a1, ⟨⟨b0, b1⟩, b2, b3, b4⟩, c1, c2, c3⟩ := h
  refine ⟨a1, ⟨⟨b0, ?_⟩, ?_, ?_, ?_⟩, ?_, ?_, ?_⟩
  · rw [h5.1]; exact b1
  · rw [h5.2]; exact b2
  · rw [h4.1]; exact b3
  · rw [h4.2]; exact b4
  · rw [h8]; exact c1
  · rw [h9]; exact c2
  · rw [h0]; exact c3
theorem Mw.offD {mi1 : Nat → Nat → Int32} (h : Mw q m d n mi) (ho : offD mi mi1) : Mw q m d n mi1 := h.off (by rw [ho.1 155 (by omega)]; exact ⟨rfl, rfl⟩) ⟨ho.2 3 (by omega) (by omega), ho.2 4 (by omega) (by omega)⟩ (ho.1 158 (by omega)) (ho.1 159 (by omega)) (ho.1 160 (by omega))
theorem m_mul (h : Mw q m d n mi) {a b : Nat} (ha : a < n) (hb : b < n) (hK : K (nI (mu q m a b)) mi ml) : wpI G e 168 m_X10_mul [.ref 154, .int (nI a), .int (nI b)] (mi, ml, RX RM) K := by
  have h2 := h.two
  apply e_X10_mul
  simp (disch := omega) only [s_le, s_lt, s_eq, s_eq0, s_in, s_ix, s_rm, s_div, s_pdlt, s_pdle, s_lepd, s_pdpd, s_pdlepd, s_pdadd, nI_add, pk_mul, pd_succ, Nat.not_lt_zero, Nat.zero_lt_succ, not_false_eq_true, not_true_eq_false, false_implies, true_implies, implies_true, and_true, true_and, Nat.reduceLT, Nat.reduceLeDiff, Nat.reduceAdd, Nat.reduceSub, Nat.zero_add, Nat.add_zero]
  refine ⟨by omega, ?_⟩
  rw [h.2.2.1 a b ha hb]
  exact hK
theorem m_minus (h : Mq q mi) {a : Nat} (ha : a < q ^ 13) (hK : K (nI (cmb q (q - 1) 13 0 a)) mi ml) : wpI G e 168 m_X10_minus [.ref 154, .int (nI a)] (mi, ml, RX RM) K := by
  have h2 := h.two
  apply e_X10_minus
  simp (disch := omega) only [s_le, s_lt, s_eq, s_eq0, s_in, s_ix, s_rm, s_div, s_pdlt, s_pdle, s_lepd, s_pdpd, s_pdlepd, s_pdadd, nI_add, pk_mul, pd_succ, Nat.not_lt_zero, Nat.zero_lt_succ, not_false_eq_true, not_true_eq_false, false_implies, true_implies, implies_true, and_true, true_and, Nat.reduceLT, Nat.reduceLeDiff, Nat.reduceAdd, Nat.reduceSub, Nat.zero_add, Nat.add_zero, h.2]
  rw [s_sub (by omega)]
  exact m_sumOf h (Nat.pow_pos (by omega)) ha (by omega) hK
theorem m_raise_loop (h : Mw q m d n mi) : ∀ (r v : Nat), v < n → r < 2 ^ 30 → K (nI (itr (fun v => tby q v m) r v)) mi ml → wp G e tM m_X10_raise 10 [(0, .ref 154), (3, .int (nI v)), (4, .int (nI r))] [] (mi, ml, RX RM) (QI K) := by
  have h2 := h.two
  intro r
  induction r with
  | zero =>
    intro v hv hr hK
    apply b_X10_raise_10
    simp (disch := omega) only [s_le, s_lt, s_eq, s_eq0, s_in, s_ix, s_rm, s_div, s_pdlt, s_pdle, s_lepd, s_pdpd, s_pdlepd, s_pdadd, nI_add, pk_mul, pd_succ, Nat.not_lt_zero, Nat.zero_lt_succ, not_false_eq_true, not_true_eq_false, false_implies, true_implies, implies_true, and_true, true_and, Nat.reduceLT, Nat.reduceLeDiff, Nat.reduceAdd, Nat.reduceSub, Nat.zero_add, Nat.add_zero]
    exact hK
  | succ r ih =>
    intro v hv hr hK
    have := ih (tby q v m) (tby_ltn h.1.1 hv) (by omega) hK
    apply b_X10_raise_10
    simp (disch := omega) only [s_le, s_lt, s_eq, s_eq0, s_in, s_ix, s_rm, s_div, s_pdlt, s_pdle, s_lepd, s_pdpd, s_pdlepd, s_pdadd, nI_add, pk_mul, pd_succ, Nat.not_lt_zero, Nat.zero_lt_succ, not_false_eq_true, not_true_eq_false, false_implies, true_implies, implies_true, and_true, true_and, Nat.reduceLT, Nat.reduceLeDiff, Nat.reduceAdd, Nat.reduceSub, Nat.zero_add, Nat.add_zero, h.2.2.2.2 v hv, pd_dec]
    exact ⟨by omega, this⟩
theorem m_raise (h : Mw q m d n mi) {a i : Nat} (ha : a < n) (hi : i < 2 ^ 31) (hK : K (nI (tu q m d a i)) mi ml) : wpI G e 168 m_X10_raise [.ref 154, .int (nI a), .int (nI i)] (mi, ml, RX RM) K := by
  have h2 := h.two
  have h7 := h.1.1.d7
  have hd1 := h.1.1.2.2.2.2.1
  have hm := Nat.mod_lt i (show 0 < d by omega)
  apply e_X10_raise
  rw [h.2.1.2.2.1]
  simp (disch := omega) only [s_le, s_lt, s_eq, s_eq0, s_in, s_ix, s_rm, s_div, s_pdlt, s_pdle, s_lepd, s_pdpd, s_pdlepd, s_pdadd, nI_add, pk_mul, pd_succ, Nat.not_lt_zero, Nat.zero_lt_succ, not_false_eq_true, not_true_eq_false, false_implies, true_implies, implies_true, and_true, true_and, Nat.reduceLT, Nat.reduceLeDiff, Nat.reduceAdd, Nat.reduceSub, Nat.zero_add, Nat.add_zero]
  exact ⟨by omega, m_raise_loop h _ _ ha (by omega) hK⟩
theorem m_isRest (h : Mw q m d n mi) {v : Int32} (h1 : ∀ a, v = nI a → a < n → K (nI 1) mi ml) (h0 : (∀ a, a < n → ¬ v = nI a) → K (nI 0) mi ml) : wpI G e 168 m_X10_isRest [.ref 154, .int v] (mi, ml, RX RM) K := by
  have h2 := h.two
  apply e_X10_isRest
  rw [h.2.1.2.2.2, s_sub (by omega)]
  exact m_isIn (a := 0) (by omega) (by omega) (fun a hv _ ha => ⟨Or.inr rfl, h1 a hv (by omega)⟩) (fun hn => ⟨Or.inl rfl, h0 (fun a ha => hn a (by omega) (by omega))⟩)
end MW2
