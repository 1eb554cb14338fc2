/-! the reference: send, acted -/
/-- what a makes of y by the module g, the low powers first -/
def acl (q m d : Nat) (g : Nat → Nat) : Nat → Nat → Nat → Nat → Nat
  | 0, _, _, s => s
  | r + 1, a, y, s => if a = 0 then s else acl q m d g r (a / q) (vl q m d g y) (cmb q (a % q) 13 s y)
def mac (q m d : Nat) (g : Nat → Nat) (a x : Nat) : Nat := acl q m d g 13 a x 0
theorem acl_lt {q m d n : Nat} (w : Wd q m d n) {g : Nat → Nat} : ∀ r a y s, y < n → s < n → acl q m d g r a y s < n
  | 0, _, _, _, _, hs => hs
  | r + 1, a, y, s, hy, hs => by
    unfold acl
    split
    · exact hs
    · exact acl_lt w r _ _ _ (vl_lt w hy) (cmb_ltn w hs hy)
section MAC
variable {G : GC} {e n q m d : Nat} {mi : Nat → Nat → Int32} {ml : Nat → Nat → Int64} {A : Ast}
theorem m_stepped (hM : Mw q m d n mi) (h : Ma 155 A mi) {i x : Nat} (hi : i < 10) (hl : ∀ k, amd A i k < n) (hz : ∀ k, 4 ≤ k → amd A i k = 0) (hx : x < n) {K : Int32 → (Nat → Nat → Int32) → (Nat → Nat → Int64) → Prop} (hK : K (nI (vl q m d (amd A i) x)) mi ml) : wpI G e 168 m_X10_stepped [.ref 154, .int (nI i), .int (nI x)] (mi, ml, RX RM) K := by
  have w := hM.1.1
  have h2 := w.q2
  have hn2 := hM.two
  have hq2 := hM.2.1.1.two
  have ev : vl q m d (amd A i) x = vls q m d (amd A i) x 4 := vls_ext w hx (by omega) hz
  rw [ev] at hK
  have loop : ∀ (r k : Nat), r + k = 4 → wp G e tM m_X10_stepped 5 [(0, .ref 154), (1, .int (nI i)), (2, .int (nI x)), (3, .int (nI (vls q m d (amd A i) x k))), (4, .int (nI k))] [] (mi, ml, RX RM) (QI K) := by
    intro r
    induction r with
    | zero =>
      intro k hk
      have : k = 4 := by omega
      subst this
      apply b_X10_stepped_5
      simp (disch := omega) only [s_le, s_lt, s_eq, s_eq0, s_in, s_ix, s_rm, s_div, s_pdlt, s_pdle, s_lepd, s_pdpd, s_pdlepd, s_pdadd, nI_add, pk_mul, pd_succ, Nat.not_lt_zero, Nat.zero_lt_succ, not_false_eq_true, not_true_eq_false, false_implies, true_implies, implies_true, and_true, true_and, Nat.reduceLT, Nat.reduceLeDiff, Nat.reduceAdd, Nat.reduceSub, Nat.zero_add, Nat.add_zero, Nat.le_refl]
      exact hK
    | succ r ih =>
      intro k hk
      have e1 := h.2.2.2.2.2.2.2.1 i hi k (by omega)
      have hs := vls_lt w (f := amd A i) hx k
      have := ih (k + 1) (by omega)
      apply b_X10_stepped_5
      simp (disch := omega) only [s_le, s_lt, s_eq, s_eq0, s_in, s_ix, s_rm, s_div, s_pdlt, s_pdle, s_lepd, s_pdpd, s_pdlepd, s_pdadd, nI_add, pk_mul, pd_succ, Nat.not_lt_zero, Nat.zero_lt_succ, not_false_eq_true, not_true_eq_false, false_implies, true_implies, implies_true, and_true, true_and, Nat.reduceLT, Nat.reduceLeDiff, Nat.reduceAdd, Nat.reduceSub, Nat.zero_add, Nat.add_zero, e1]
      exact ⟨fun c => absurd c (by omega), fun _ => ⟨by omega, m_raise hM hx (by omega) (m_mul hM (hl k) (tu_lt w hx) (m_sumOf hM.2.1.1 (w.lt13 hs) (w.lt13 (mu_lt w (tu_lt w hx))) (by omega) this))⟩⟩
  apply e_X10_stepped
  exact loop 4 0 rfl
theorem m_acted (hM : Mw q m d n mi) (h : Ma 155 A mi) {i a x : Nat} (hi : i < 10) (hl : ∀ k, amd A i k < n) (hz : ∀ k, 4 ≤ k → amd A i k = 0) (ha : a < q ^ 13) (hx : x < n) {K : Int32 → (Nat → Nat → Int32) → (Nat → Nat → Int64) → Prop} (hK : K (nI (mac q m d (amd A i) a x)) mi ml) : wpI G e 168 m_X10_acted [.ref 154, .int (nI i), .int (nI a), .int (nI x)] (mi, ml, RX RM) K := by
  have w := hM.1.1
  have h2 := w.q2
  have hn2 := hM.two
  have hq := hM.2.1.1
  have hq2 := hq.two
  have h31 := pow_lt31 (M := 13) hq.1 (Nat.le_refl _)
  have loop : ∀ (r a y s : Nat), a < q ^ r → r ≤ 13 → y < n → s < n → K (nI (acl q m d (amd A i) r a y s)) mi ml → wp G e tM m_X10_acted 9 [(0, .ref 154), (1, .int (nI i)), (4, .int (nI s)), (5, .int (nI a)), (6, .int (nI y))] [] (mi, ml, RX RM) (QI K) := by
    intro r
    induction r with
    | zero =>
      intro a y s ha _ _ _ hK
      have : a = 0 := by simpa using ha
      subst this
      apply b_X10_acted_9
      simp (disch := omega) only [s_le, s_lt, s_eq, s_eq0, s_in, s_ix, s_rm, s_div, s_pdlt, s_pdle, s_lepd, s_pdpd, s_pdlepd, s_pdadd, nI_add, pk_mul, pd_succ, Nat.not_lt_zero, Nat.zero_lt_succ, not_false_eq_true, not_true_eq_false, false_implies, true_implies, implies_true, and_true, true_and, Nat.reduceLT, Nat.reduceLeDiff, Nat.reduceAdd, Nat.reduceSub, Nat.zero_add, Nat.add_zero, Nat.le_refl]
      exact hK
    | succ r ih =>
      intro a y s ha hr hy hs hK
      have ha31 : a < 2 ^ 31 := by
        have := pow_lt31 (M := r + 1) hq.1 hr
        omega
      have hmd : a % q < q := Nat.mod_lt _ (by omega)
      unfold acl at hK
      apply b_X10_acted_9
      simp (disch := omega) only [s_le, s_lt, s_eq, s_eq0, s_in, s_ix, s_rm, s_div, s_pdlt, s_pdle, s_lepd, s_pdpd, s_pdlepd, s_pdadd, nI_add, pk_mul, pd_succ, Nat.not_lt_zero, Nat.zero_lt_succ, not_false_eq_true, not_true_eq_false, false_implies, true_implies, implies_true, and_true, true_and, Nat.reduceLT, Nat.reduceLeDiff, Nat.reduceAdd, Nat.reduceSub, Nat.zero_add, Nat.add_zero, hq.2]
      refine ⟨fun c => ?_, fun c => ⟨by omega, fun c2 => ⟨by omega, ?_⟩, fun c2 => ⟨by omega, ?_⟩⟩⟩
      · rw [if_pos (by omega)] at hK
        exact hK
      · rw [if_neg (by omega), show a % q = 0 by omega, cmb_a h2 _ (w.lt13 hs)] at hK
        exact m_stepped hM h hi hl hz hy (ih _ _ _ (div_lt_pow ha h2) (by omega) (vl_lt w hy) hs hK)
      · rw [if_neg (by omega)] at hK
        have hml : a % q ≤ q := Nat.le_of_lt (Nat.mod_lt _ (by omega))
        refine m_sumOf hq (w.lt13 hs) (w.lt13 hy) hml ?_
        simp (disch := omega) only [s_le, s_lt, s_eq, s_eq0, s_in, s_ix, s_rm, s_div, s_pdlt, s_pdle, s_lepd, s_pdpd, s_pdlepd, s_pdadd, nI_add, pk_mul, pd_succ, Nat.not_lt_zero, Nat.zero_lt_succ, not_false_eq_true, not_true_eq_false, false_implies, true_implies, implies_true, and_true, true_and, Nat.reduceLT, Nat.reduceLeDiff, Nat.reduceAdd, Nat.reduceSub, Nat.zero_add, Nat.add_zero, hq.2]
        exact ⟨by omega, m_stepped hM h hi hl hz hy (ih _ _ _ (div_lt_pow ha h2) (by omega) (vl_lt w hy) (cmb_ltn w hs hy) hK)⟩
  apply e_X10_acted
  exact loop 13 a x 0 ha (by omega) hx (by omega) hK
theorem m_send {s : Cst} (hs : A = cN s) (hM : Mw q m d n mi) (hq : aq (cN s) = q) (hm : am (cN s) = m) (hd : dO (cN s) = d) (hnO : nO (cN s) = n) (h : Ma 155 A mi) (h10 : kc (aks A) 1 (adn A) ≤ 10) (hl : ∀ i, i < kc (aks A) 1 (adn A) → (∀ k, amp A i k < n) ∧ ∀ k, 8 ≤ k → amp A i k = 0) {v1 v2 : Int32} {K : Int32 → (Nat → Nat → Int32) → (Nat → Nat → Int64) → Prop} (hK : ∀ mi1, (∀ o, o ≠ 161 → mi1 o = mi o) → K (fSend s v1 v2) mi1 ml) : wpI G e 168 m_X10_send [.ref 154, .int v1, .int v2] (mi, ml, RX RM) K := by
  subst hs
  have hn := hM.two
  unfold fSend at hK
  rw [hq, hm, hd, hnO] at hK
  apply e_X10_send
  refine m_isMap h h10 (fun i hi hv hlt => ⟨fun z => absurd z (by decide), fun _ => ?_⟩) (fun hno => ⟨fun _ => ?_, fun z => absurd rfl z⟩)
  · rw [hi] at hK
    subst hv
    refine m_isRest hM (fun x hx hlx => ⟨fun _ => ?_, fun z => absurd z (by decide)⟩) (fun hno => ⟨fun z => absurd rfl z, fun _ => ?_⟩)
    · subst hx
      rw [asN_nI (by omega), if_pos hlx] at hK
      refine m_layMap h (by omega) (by omega) (hl i hlt).1 (hl i hlt).2 (fun mi1 ho hW => m_sent (hM.offV ho) hW hlx ?_)
      exact hK mi1 ho.1
    · rw [asN_none hno] at hK
      exact hK mi (fun _ _ => rfl)
  · rw [hno] at hK
    exact hK mi (fun _ _ => rfl)
end MAC
