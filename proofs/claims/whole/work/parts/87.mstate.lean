/-! the reference: what was told -/
def Ma (c : Nat) (A : Ast) (mi : Nat → Nat → Int32) : Prop := mi c 0 = nI (aq A) ∧ mi c 1 = nI (am A) ∧ mi c 2 = nI (kc (aks A) 0 (adn A)) ∧ mi c 3 = nI (kc (aks A) 1 (adn A)) ∧ mi c 4 = nI (atx A) ∧ mi c 5 = nI (adn A) ∧ mi c 6 = nI (aal A) ∧
  (∀ i, i < 10 → ∀ k, k < 4 → mi c (10 + 4 * i + k) = nI (amd A i k)) ∧ (∀ i, i < 10 → ∀ k, k < 8 → mi c (50 + 8 * i + k) = nI (amp A i k)) ∧ ∀ i, i < 20 → mi c (130 + i) = nI (aks A i)
theorem Ma.off {c : Nat} {A : Ast} {mi mi1 : Nat → Nat → Int32} (h : Ma c A mi) (ho : mi1 c = mi c) : Ma c A mi1 := by
  unfold Ma at h ⊢
  rw [ho]
  exact h
section MST
variable {G : GC} {e q m d n : Nat} {mi : Nat → Nat → Int32} {ml : Nat → Nat → Int64} {A : Ast}
theorem m_below {K : Int32 → (Nat → Nat → Int32) → (Nat → Nat → Int64) → Prop} {k : Nat} (hk : k < 2 ^ 30) {v : Int32} (h1 : ∀ i, asN k v = some i → v = nI i → i < k → K (nI 1) mi ml) (h0 : asN k v = none → K (nI 0) mi ml) : wpI G e 168 m_X10_isIn [.int v, .int (nI 0), .int (nI k - nI 1)] (mi, ml, RX RM) K := by
  rcases Nat.eq_zero_or_pos k with c | c
  · subst c
    have h0' := h0 (asN_none (fun a ha => absurd ha (by omega)))
    apply e_X10_isIn
    refine ⟨fun _ => ⟨Or.inl rfl, h0'⟩, fun z => ⟨fun _ => ⟨Or.inl rfl, h0'⟩, fun z2 => ?_⟩⟩
    exfalso
    rw [Int32.lt_iff_toInt_lt] at z z2
    have e1 : (nI 0 - nI 1).toInt = -1 := by decide
    have e2 : (nI 0).toInt = 0 := by decide
    omega
  · rw [s_sub (by omega)]
    exact m_isIn (a := 0) (by omega) (by omega) (fun a hv _ ha => h1 a (by rw [hv, asN_nI (by omega), if_pos (by omega)]) hv (by omega)) (fun hn => h0 (asN_none (fun a ha => hn a (by omega) (by omega))))
theorem m_isModule {K : Int32 → (Nat → Nat → Int32) → (Nat → Nat → Int64) → Prop} (h : Ma 155 A mi) (hk : kc (aks A) 0 (adn A) ≤ 10) {v : Int32} (h1 : ∀ i, asN (kc (aks A) 0 (adn A)) v = some i → v = nI i → i < kc (aks A) 0 (adn A) → K (nI 1) mi ml) (h0 : asN (kc (aks A) 0 (adn A)) v = none → K (nI 0) mi ml) : wpI G e 168 m_X10_isModule [.ref 154, .int v] (mi, ml, RX RM) K := by
  apply e_X10_isModule
  simp (disch := omega) only [s_le, s_lt, s_eq, s_eq0, s_in, s_ix, s_rm, s_div, s_pdlt, s_pdle, s_lepd, s_pdpd, s_pdlepd, s_pdadd, nI_add, pk_mul, pd_succ, Nat.not_lt_zero, Nat.zero_lt_succ, not_false_eq_true, not_true_eq_false, false_implies, true_implies, implies_true, and_true, true_and, Nat.reduceLT, Nat.reduceLeDiff, Nat.reduceAdd, Nat.reduceSub, Nat.zero_add, Nat.add_zero, h.2.2.1]
  exact m_below (by omega) (fun i a b c => ⟨Or.inr rfl, h1 i a b c⟩) (fun a => ⟨Or.inl rfl, h0 a⟩)
theorem m_isMap {K : Int32 → (Nat → Nat → Int32) → (Nat → Nat → Int64) → Prop} (h : Ma 155 A mi) (hk : kc (aks A) 1 (adn A) ≤ 10) {v : Int32} (h1 : ∀ i, asN (kc (aks A) 1 (adn A)) v = some i → v = nI i → i < kc (aks A) 1 (adn A) → K (nI 1) mi ml) (h0 : asN (kc (aks A) 1 (adn A)) v = none → K (nI 0) mi ml) : wpI G e 168 m_X10_isMap [.ref 154, .int v] (mi, ml, RX RM) K := by
  apply e_X10_isMap
  simp (disch := omega) only [s_le, s_lt, s_eq, s_eq0, s_in, s_ix, s_rm, s_div, s_pdlt, s_pdle, s_lepd, s_pdpd, s_pdlepd, s_pdadd, nI_add, pk_mul, pd_succ, Nat.not_lt_zero, Nat.zero_lt_succ, not_false_eq_true, not_true_eq_false, false_implies, true_implies, implies_true, and_true, true_and, Nat.reduceLT, Nat.reduceLeDiff, Nat.reduceAdd, Nat.reduceSub, Nat.zero_add, Nat.add_zero, h.2.2.2.1]
  exact m_below (by omega) (fun i a b c => ⟨Or.inr rfl, h1 i a b c⟩) (fun a => ⟨Or.inl rfl, h0 a⟩)
theorem m_layModule {K : (Nat → Nat → Int32) → (Nat → Nat → Int64) → Prop} (h : Ma 155 A mi) {i r : Nat} (hi : i < 10) (hr : r < 50) (hl : ∀ k, amd A i k < n) (hz : ∀ k, 4 ≤ k → amd A i k = 0) (hK : ∀ mi1, offV r mi mi1 → Wr n mi1 r (amd A i) → K mi1 ml) : wpV G e 168 m_X10_layModule [.ref 154, .int (nI i), .int (nI r)] (mi, ml, RX RM) K := by
  have hn : 0 < n := Nat.lt_of_le_of_lt (Nat.zero_le _) (hl 0)
  have loop : ∀ (s k : Nat) (mi2 : Nat → Nat → Int32), s + k = 4 → offV r mi mi2 → (∀ j, j < 25 → mi2 161 (25 * r + j) = nI (if j < k then amd A i j else 0)) → wp G e tM m_X10_layModule 7 [(0, .ref 154), (1, .int (nI i)), (2, .int (nI r)), (3, .int (nI k))] [] (mi2, ml, RX RM) (QV K) := by
    intro s
    induction s with
    | zero =>
      intro k mi2 hk ho hf
      have : k = 4 := by omega
      subst this
      apply b_X10_layModule_7
      simp (disch := omega) only [s_le, s_lt, s_eq, s_eq0, s_in, s_ix, s_rm, s_div, s_pdlt, s_pdle, s_lepd, s_pdpd, s_pdlepd, s_pdadd, nI_add, pk_mul, pd_succ, Nat.not_lt_zero, Nat.zero_lt_succ, not_false_eq_true, not_true_eq_false, false_implies, true_implies, implies_true, and_true, true_and, Nat.reduceLT, Nat.reduceLeDiff, Nat.reduceAdd, Nat.reduceSub, Nat.zero_add, Nat.add_zero, Nat.le_refl]
      refine hK mi2 ho ⟨hr, fun j hj => ?_, fun j hj => hz j (by omega), hl⟩
      rw [hf j hj]
      by_cases c : j < 4
      · rw [if_pos c]
      · rw [if_neg c, hz j (by omega)]
    | succ s ih =>
      intro k mi2 hk ho hf
      have e1 : mi2 155 (10 + 4 * i + k) = nI (amd A i k) := by
        rw [ho.1 155 (by omega)]
        exact h.2.2.2.2.2.2.2.1 i hi k (by omega)
      have := ih (k + 1) (u2 mi2 161 (25 * r + k) (nI (amd A i k))) (by omega) (ho.put (by omega)) (fun j hj => by
        by_cases c : j = k
        · rw [c, u2_at, if_pos (by omega)]
        · rw [u2_ne (by omega), hf j hj]
          by_cases c2 : j < k
          · rw [if_pos c2, if_pos (by omega)]
          · rw [if_neg c2, if_neg (by omega)])
      apply b_X10_layModule_7
      simp (disch := omega) only [s_le, s_lt, s_eq, s_eq0, s_in, s_ix, s_rm, s_div, s_pdlt, s_pdle, s_lepd, s_pdpd, s_pdlepd, s_pdadd, nI_add, pk_mul, pd_succ, Nat.not_lt_zero, Nat.zero_lt_succ, not_false_eq_true, not_true_eq_false, false_implies, true_implies, implies_true, and_true, true_and, Nat.reduceLT, Nat.reduceLeDiff, Nat.reduceAdd, Nat.reduceSub, Nat.zero_add, Nat.add_zero, e1]
      exact ⟨fun c => absurd c (by omega), fun _ => ⟨by omega, by omega, this⟩⟩
  apply e_X10_layModule
  refine m_clear (n := n) hr hn (fun mi1 ho hw => loop 4 0 mi1 rfl ho (fun j hj => ?_))
  rw [hw.2.1 j hj, if_neg (by omega)]
theorem m_layMap {K : (Nat → Nat → Int32) → (Nat → Nat → Int64) → Prop} (h : Ma 155 A mi) {i r : Nat} (hi : i < 10) (hr : r < 50) (hl : ∀ k, amp A i k < n) (hz : ∀ k, 8 ≤ k → amp A i k = 0) (hK : ∀ mi1, offV r mi mi1 → Wr n mi1 r (amp A i) → K mi1 ml) : wpV G e 168 m_X10_layMap [.ref 154, .int (nI i), .int (nI r)] (mi, ml, RX RM) K := by
  have hn : 0 < n := Nat.lt_of_le_of_lt (Nat.zero_le _) (hl 0)
  have loop : ∀ (s k : Nat) (mi2 : Nat → Nat → Int32), s + k = 8 → offV r mi mi2 → (∀ j, j < 25 → mi2 161 (25 * r + j) = nI (if j < k then amp A i j else 0)) → wp G e tM m_X10_layMap 7 [(0, .ref 154), (1, .int (nI i)), (2, .int (nI r)), (3, .int (nI k))] [] (mi2, ml, RX RM) (QV K) := by
    intro s
    induction s with
    | zero =>
      intro k mi2 hk ho hf
      have : k = 8 := by omega
      subst this
      apply b_X10_layMap_7
      simp (disch := omega) only [s_le, s_lt, s_eq, s_eq0, s_in, s_ix, s_rm, s_div, s_pdlt, s_pdle, s_lepd, s_pdpd, s_pdlepd, s_pdadd, nI_add, pk_mul, pd_succ, Nat.not_lt_zero, Nat.zero_lt_succ, not_false_eq_true, not_true_eq_false, false_implies, true_implies, implies_true, and_true, true_and, Nat.reduceLT, Nat.reduceLeDiff, Nat.reduceAdd, Nat.reduceSub, Nat.zero_add, Nat.add_zero, Nat.le_refl]
      refine hK mi2 ho ⟨hr, fun j hj => ?_, fun j hj => hz j (by omega), hl⟩
      rw [hf j hj]
      by_cases c : j < 8
      · rw [if_pos c]
      · rw [if_neg c, hz j (by omega)]
    | succ s ih =>
      intro k mi2 hk ho hf
      have e1 : mi2 155 (50 + 8 * i + k) = nI (amp A i k) := by
        rw [ho.1 155 (by omega)]
        exact h.2.2.2.2.2.2.2.2.1 i hi k (by omega)
      have := ih (k + 1) (u2 mi2 161 (25 * r + k) (nI (amp A i k))) (by omega) (ho.put (by omega)) (fun j hj => by
        by_cases c : j = k
        · rw [c, u2_at, if_pos (by omega)]
        · rw [u2_ne (by omega), hf j hj]
          by_cases c2 : j < k
          · rw [if_pos c2, if_pos (by omega)]
          · rw [if_neg c2, if_neg (by omega)])
      apply b_X10_layMap_7
      simp (disch := omega) only [s_le, s_lt, s_eq, s_eq0, s_in, s_ix, s_rm, s_div, s_pdlt, s_pdle, s_lepd, s_pdpd, s_pdlepd, s_pdadd, nI_add, pk_mul, pd_succ, Nat.not_lt_zero, Nat.zero_lt_succ, not_false_eq_true, not_true_eq_false, false_implies, true_implies, implies_true, and_true, true_and, Nat.reduceLT, Nat.reduceLeDiff, Nat.reduceAdd, Nat.reduceSub, Nat.zero_add, Nat.add_zero, e1]
      exact ⟨fun c => absurd c (by omega), fun _ => ⟨by omega, by omega, this⟩⟩
  apply e_X10_layMap
  refine m_clear (n := n) hr hn (fun mi1 ho hw => loop 8 0 mi1 rfl ho (fun j hj => ?_))
  rw [hw.2.1 j hj, if_neg (by omega)]
theorem m_add {a b s : Nat} {f h : Nat → Nat} (h0 : Mw q m d n mi) (hf : Wr n mi a f) (hh : Wr n mi b h) (hab : b ≠ a) (hs : s ≤ q) {K : (Nat → Nat → Int32) → (Nat → Nat → Int64) → Prop} (hK : ∀ mi1, offV a mi mi1 → Wr n mi1 a (fun k => cmb q s 13 (f k) (h k)) → K mi1 ml) : wpV G e 168 m_X10_add [.ref 154, .int (nI a), .int (nI b), .int (nI s)] (mi, ml, RX RM) K := by
  have w := h0.1.1
  have h2 := w.q2
  have ha := hf.1
  have hb := hh.1
  have loop : ∀ (r k : Nat) (mi2 : Nat → Nat → Int32), r + k = 25 → offV a mi mi2 → (∀ j, j < 25 → mi2 161 (25 * a + j) = nI (if j < k then cmb q s 13 (f j) (h j) else f j)) → wp G e tM m_X10_add 3 [(0, .ref 154), (1, .int (nI a)), (2, .int (nI b)), (3, .int (nI s)), (4, .int (nI k))] [] (mi2, ml, RX RM) (QV K) := by
    intro r
    induction r with
    | zero =>
      intro k mi2 hk ho hz
      have : k = 25 := by omega
      subst this
      apply b_X10_add_3
      simp (disch := omega) only [s_le, s_lt, s_eq, s_eq0, s_in, s_ix, s_rm, s_div, s_pdlt, s_pdle, s_lepd, s_pdpd, s_pdlepd, s_pdadd, nI_add, pk_mul, pd_succ, Nat.not_lt_zero, Nat.zero_lt_succ, not_false_eq_true, not_true_eq_false, false_implies, true_implies, implies_true, and_true, true_and, Nat.reduceLT, Nat.reduceLeDiff, Nat.reduceAdd, Nat.reduceSub, Nat.zero_add, Nat.add_zero, Nat.le_refl]
      refine hK mi2 ho ⟨ha, fun j hj => ?_, fun j hj => ?_, fun j => cmb_ltn w (hf.2.2.2 j) (hh.2.2.2 j)⟩
      · rw [hz j hj, if_pos hj]
      · show cmb q s 13 (f j) (h j) = 0
        rw [hf.2.2.1 j hj, hh.2.2.1 j hj, cmb_zero s h2]
    | succ r ih =>
      intro k mi2 hk ho hz
      have hM := h0.offV ho
      have e1 := hz k (by omega)
      rw [if_neg (by omega)] at e1
      have e2 := (hh.offV ho hab).2.1 k (by omega)
      have := ih (k + 1) (u2 mi2 161 (25 * a + k) (nI (cmb q s 13 (f k) (h k)))) (by omega) (ho.put (by omega)) (fun j hj => by
        by_cases c : j = k
        · rw [c, u2_at, if_pos (by omega)]
        · rw [u2_ne (by omega), hz j hj]
          by_cases c2 : j < k
          · rw [if_pos c2, if_pos (by omega)]
          · rw [if_neg c2, if_neg (by omega)])
      apply b_X10_add_3
      simp (disch := omega) only [s_le, s_lt, s_eq, s_eq0, s_in, s_ix, s_rm, s_div, s_pdlt, s_pdle, s_lepd, s_pdpd, s_pdlepd, s_pdadd, nI_add, pk_mul, pd_succ, Nat.not_lt_zero, Nat.zero_lt_succ, not_false_eq_true, not_true_eq_false, false_implies, true_implies, implies_true, and_true, true_and, Nat.reduceLT, Nat.reduceLeDiff, Nat.reduceAdd, Nat.reduceSub, Nat.zero_add, Nat.add_zero, e1, e2]
      exact ⟨fun c => absurd c (by omega), fun _ => ⟨by omega, by omega, m_sumOf hM.2.1.1 (w.lt13 (hf.2.2.2 k)) (w.lt13 (hh.2.2.2 k)) hs ⟨by omega, this⟩⟩⟩
  apply e_X10_add
  exact loop 25 0 mi rfl (offV.refl a mi) (fun j hj => by rw [if_neg (by omega)]; exact hf.2.1 j hj)
end MST
