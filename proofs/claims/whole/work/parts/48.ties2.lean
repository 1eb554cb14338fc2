/-! class Ties: add, addRest -/
theorem ta_pos {q : Nat} {fl : Nat → Bool} {rw : Nat → Nat → Nat} {tg : Nat → Nat} : ∀ (p : Nat) (c : Nat → Nat) (t : Nat), (ta q fl rw tg p c t).1 ≤ p
  | 0, _, _ => Nat.le_refl 0
  | p + 1, c, t => by
    unfold ta
    split
    · exact Nat.le_succ_of_le (ta_pos p _ _)
    split
    · exact Nat.le_succ_of_le (ta_pos p _ _)
    · exact Nat.le_refl _
section TIE2
variable {G : GC} {e q m d n g : Nat} {mi : Nat → Nat → Int32} {ml : Nat → Nat → Int64} {y : Nat → Nat → Option Nat}
/-- what is to follow on the end of add -/
def TK (q n c : Nat) (mi0 : Nat → Nat → Int32) (ml : Nat → Nat → Int64) (fl : Nat → Bool) (rw : Nat → Nat → Nat) (tg : Nat → Nat) (K : Int32 → (Nat → Nat → Int32) → (Nat → Nat → Int64) → Prop) (R : Nat × Nat × (Nat → Nat)) : Prop :=
  (R.1 = 0 → ∀ mi1 : Nat → Nat → Int32, (∀ o, o ≠ c → mi1 o = mi0 o) → K (nI R.2.1) mi1 ml) ∧
  ∀ p, R.1 = p + 1 → ∀ mi1 : Nat → Nat → Int32, (∀ o, o ≠ c → (o < 16 ∨ 66 < o) → mi1 o = mi0 o) → Ts q n mi1 (kfl fl p) (krw q rw p R.2.2) (ktg q tg p R.2.1 R.2.2) → K (-(nI 1)) mi1 ml
theorem Ts.off {mi1 : Nat → Nat → Int32} {fl : Nat → Bool} {rw : Nat → Nat → Nat} {tg : Nat → Nat} (h : Ts q n mi fl rw tg) (ho : ∀ o, 16 ≤ o → o ≤ 66 → mi1 o = mi o) : Ts q n mi1 fl rw tg := by
  intro a ha
  obtain ⟨h1, h2⟩ := h a ha
  refine ⟨by rw [ho 66 (by omega) (by omega)]; exact h1, fun z => ⟨by rw [ho 65 (by omega) (by omega)]; exact (h2 z).1, (h2 z).2.1, fun j hj => ?_⟩⟩
  rw [ho (16 + a) (by omega) (by omega)]
  exact (h2 z).2.2 j hj
theorem p_tadd_in {c p k i t s : Nat} (hp : p < 49) (hk : p / 7 = k) (hs : s < q) (ht : t < q ^ 13) (hc : isR c) (hc67 : 66 < c) (hkc : k < an c) {f : Nat → Nat} (mi0 : Nat → Nat → Int32) (h0 : En q m d n g mi0) (hf : Rw n mi0 c f) {fl : Nat → Bool} {rw : Nat → Nat → Nat} {tg : Nat → Nat} (hT : Ts q n mi0 fl rw tg) (hfl : fl p = true) {K : Int32 → (Nat → Nat → Int32) → (Nat → Nat → Int64) → Prop}
    (hK : ∀ mi1 : Nat → Nat → Int32, (∀ o, o ≠ c → mi1 o = mi0 o) → Rw n mi1 c (fun j => if j ≤ k then cmb q s 13 (f j) (rw p j) else f j) →
      wp G e tX m_X7_add 18 [(0, .ref 14), (1, .ref c), (2, .int (nI (cmb q s 13 t (tg p)))), (3, .int (nI k)), (4, .int (pd i))] [] (mi1, ml, RX y) (QI K)) :
    ∀ (r j : Nat) (mi : Nat → Nat → Int32), j + r = k + 1 → (∀ o, o ≠ c → mi o = mi0 o) → (∀ j', j' < an c → mi c j' = nI (if j' < j then cmb q s 13 (f j') (rw p j') else f j')) →
      wp G e tX m_X7_add 97 [(0, .ref 14), (1, .ref c), (2, .int (nI t)), (3, .int (nI k)), (4, .int (nI i)), (6, .int (nI p)), (7, .int (nI s)), (8, .int (nI j))] [] (mi, ml, RX y) (QI K) := by
  have hcN := hc.2
  have w := h0.w
  have hq2 := w.q2
  have hw2 := w.n2
  obtain ⟨t1, t2⟩ := ties_at hp
  obtain ⟨T1, T2⟩ := hT p hp
  obtain ⟨T3, T4, T5⟩ := T2 hfl
  intro r
  induction r with
  | zero =>
    intro j mi hj ho hmi
    have hE : En q m d n g mi := h0.off (fun o o1 o2 => ho o (by omega))
    apply b_X7_add_97
    rw [pd_dec]
    simp (disch := omega) only [s_le, s_lt, s_eq, s_eq0, s_in, s_ix, s_rm, s_div, s_pdlt, s_pdle, s_lepd, s_pdpd, s_pdlepd, s_pdadd, nI_add, pk_mul, pd_succ, Nat.not_lt_zero, Nat.zero_lt_succ, not_false_eq_true, not_true_eq_false, false_implies, true_implies, implies_true, and_true, true_and, Nat.reduceLT, Nat.reduceLeDiff, Nat.reduceAdd, Nat.reduceSub, Nat.zero_add, Nat.add_zero]
    refine ⟨fun _ => ⟨by omega, ?_⟩, fun c1 => absurd c1 (by omega)⟩
    rw [ho 65 (by omega), T3]
    refine p_mix hE.1 ht T4 hs (hK mi ho ⟨fun j' hj' => ?_, fun j' hj' => ?_, fun j' => ?_⟩)
    · rw [hmi j' hj']
      show nI _ = nI (if j' ≤ k then _ else _)
      by_cases c1 : j' < j
      · rw [if_pos c1, if_pos (by omega)]
      · rw [if_neg c1, if_neg (by omega)]
    · show (if j' ≤ k then _ else _) = 0
      rw [if_neg (by omega)]
      exact hf.2.1 j' hj'
    · show (if j' ≤ k then _ else _) < n
      split
      · exact cmb_ltn w (hf.2.2 j') (T5 j' (by omega)).2
      · exact hf.2.2 j'
  | succ r ih =>
    intro j mi hj ho hmi
    have hE : En q m d n g mi := h0.off (fun o o1 o2 => ho o (by omega))
    apply b_X7_add_97
    simp (disch := omega) only [s_le, s_lt, s_eq, s_eq0, s_in, s_ix, s_rm, s_div, s_pdlt, s_pdle, s_lepd, s_pdpd, s_pdlepd, s_pdadd, nI_add, pk_mul, pd_succ, Nat.not_lt_zero, Nat.zero_lt_succ, not_false_eq_true, not_true_eq_false, false_implies, true_implies, implies_true, and_true, true_and, Nat.reduceLT, Nat.reduceLeDiff, Nat.reduceAdd, Nat.reduceSub, Nat.zero_add, Nat.add_zero]
    refine ⟨fun c1 => absurd c1 (by omega), fun _ => ⟨hc.1, by omega, by omega, ⟨t1, by omega⟩, by rw [t2]; omega, ?_⟩⟩
    rw [hmi j (by omega), if_neg (by omega), ho (16 + p) (by omega), (T5 j (by omega)).1]
    refine p_mix hE.1 (w.lt13 (hf.2.2 j)) (w.lt13 (T5 j (by omega)).2) hs ⟨hc.1, by omega, ?_⟩
    refine ih (j + 1) _ (by omega) (fun o h => by rw [u2_off h]; exact ho o h) (fun j' hj' => ?_)
    rw [u2_on]
    show (if j' = j then _ else _) = _
    by_cases c2 : j' = j
    · subst c2
      rw [if_pos rfl, if_pos (by omega)]
    · rw [if_neg c2, hmi j' hj']
      by_cases c3 : j' < j
      · rw [if_pos c3, if_pos (by omega)]
      · rw [if_neg c3, if_neg (by omega)]
theorem p_tadd_loop {c KK : Nat} (hc : isR c) (hc67 : 66 < c) (hKK : KK ≤ an c) (hK7 : KK ≤ 7) (mi0 : Nat → Nat → Int32) (h0 : En q m d n g mi0) {fl : Nat → Bool} {rw : Nat → Nat → Nat} {tg : Nat → Nat} (hT : Ts q n mi0 fl rw tg) {K : Int32 → (Nat → Nat → Int32) → (Nat → Nat → Int64) → Prop} :
    ∀ p : Nat, (∀ k i, i ≤ 7 → p = 7 * k + i → k < KK → ∀ (f : Nat → Nat) (t : Nat) (mi : Nat → Nat → Int32), (∀ o, o ≠ c → mi o = mi0 o) → Rw n mi c f → t < q ^ 13 → TK q n c mi0 ml fl rw tg K (ta q fl rw tg p f t) →
        wp G e tX m_X7_add 18 [(0, .ref 14), (1, .ref c), (2, .int (nI t)), (3, .int (nI k)), (4, .int (pd i))] [] (mi, ml, RX y) (QI K)) ∧
      (∀ k, p = 7 * k → k ≤ KK → ∀ (f : Nat → Nat) (t : Nat) (mi : Nat → Nat → Int32), (∀ o, o ≠ c → mi o = mi0 o) → Rw n mi c f → t < q ^ 13 → TK q n c mi0 ml fl rw tg K (ta q fl rw tg p f t) →
        wp G e tX m_X7_add 10 [(0, .ref 14), (1, .ref c), (2, .int (nI t)), (3, .int (pd k))] [] (mi, ml, RX y) (QI K)) := by
  have hcN := hc.2
  have w := h0.w
  have hq2 := w.q2
  have hq5 := h0.1.two
  have hw2 := w.n2
  intro p
  induction p with
  | zero =>
    have B : ∀ k, 0 = 7 * k → k ≤ KK → ∀ (f : Nat → Nat) (t : Nat) (mi : Nat → Nat → Int32), (∀ o, o ≠ c → mi o = mi0 o) → Rw n mi c f → t < q ^ 13 → TK q n c mi0 ml fl rw tg K (ta q fl rw tg 0 f t) →
        wp G e tX m_X7_add 10 [(0, .ref 14), (1, .ref c), (2, .int (nI t)), (3, .int (pd k))] [] (mi, ml, RX y) (QI K) := by
      intro k hk hkK f t mi ho hf ht hK
      have hk0 : k = 0 := by omega
      subst hk0
      apply b_X7_add_10
      simp (disch := omega) only [s_le, s_lt, s_eq, s_eq0, s_in, s_ix, s_rm, s_div, s_pdlt, s_pdle, s_lepd, s_pdpd, s_pdlepd, s_pdadd, nI_add, pk_mul, pd_succ, Nat.not_lt_zero, Nat.zero_lt_succ, not_false_eq_true, not_true_eq_false, false_implies, true_implies, implies_true, and_true, true_and, Nat.reduceLT, Nat.reduceLeDiff, Nat.reduceAdd, Nat.reduceSub, Nat.zero_add, Nat.add_zero]
      exact hK.1 rfl mi ho
    refine ⟨fun k i hi hp hkK f t mi ho hf ht hK => ?_, B⟩
    have hi0 : i = 0 := by omega
    have hk0 : k = 0 := by omega
    subst hi0
    subst hk0
    apply b_X7_add_18
    rw [pd_dec]
    simp (disch := omega) only [s_le, s_lt, s_eq, s_eq0, s_in, s_ix, s_rm, s_div, s_pdlt, s_pdle, s_lepd, s_pdpd, s_pdlepd, s_pdadd, nI_add, pk_mul, pd_succ, Nat.not_lt_zero, Nat.zero_lt_succ, not_false_eq_true, not_true_eq_false, false_implies, true_implies, implies_true, and_true, true_and, Nat.reduceLT, Nat.reduceLeDiff, Nat.reduceAdd, Nat.reduceSub, Nat.zero_add, Nat.add_zero]
    exact B 0 rfl (by omega) f t mi ho hf ht hK
  | succ p ih =>
    have A : ∀ k i, i < 7 → p = 7 * k + i → k < KK → ∀ (f : Nat → Nat) (t : Nat) (mi : Nat → Nat → Int32), (∀ o, o ≠ c → mi o = mi0 o) → Rw n mi c f → t < q ^ 13 → TK q n c mi0 ml fl rw tg K (ta q fl rw tg (p + 1) f t) →
        wp G e tX m_X7_add 18 [(0, .ref 14), (1, .ref c), (2, .int (nI t)), (3, .int (nI k)), (4, .int (pd (i + 1)))] [] (mi, ml, RX y) (QI K) := by
      intro k i hi hp hkK f t mi ho hf ht hK
      have hE : En q m d n g mi := h0.off (fun o o1 o2 => ho o (by omega))
      have hp7 : p / 7 = k := by omega
      have hpm : p % 7 = i := by omega
      have hp49 : p < 49 := by omega
      have hfk := hf.2.2 k
      have hdg := dg_lt (n := f k) (k := i) hq2
      obtain ⟨T1, T2⟩ := hT p hp49
      unfold ta at hK
      rw [hp7, hpm] at hK
      apply b_X7_add_18
      rw [pd_succ]
      simp (disch := omega) only [s_le, s_lt, s_eq, s_eq0, s_in, s_ix, s_rm, s_div, s_pdlt, s_pdle, s_lepd, s_pdpd, s_pdlepd, s_pdadd, nI_add, pk_mul, pd_succ, Nat.not_lt_zero, Nat.zero_lt_succ, not_false_eq_true, not_true_eq_false, false_implies, true_implies, implies_true, and_true, true_and, Nat.reduceLT, Nat.reduceLeDiff, Nat.reduceAdd, Nat.reduceSub, Nat.zero_add, Nat.add_zero]
      refine ⟨hc.1, by omega, ?_⟩
      rw [hf.1 k (by omega)]
      refine p_figure hE.1 (w.lt13 hfk) (by omega) ?_
      have e7 : k * 7 + i = p := by omega
      rw [pd_dec]
      simp (disch := omega) only [s_le, s_lt, s_eq, s_eq0, s_in, s_ix, s_rm, s_div, s_pdlt, s_pdle, s_lepd, s_pdpd, s_pdlepd, s_pdadd, nI_add, pk_mul, pd_succ, Nat.not_lt_zero, Nat.zero_lt_succ, not_false_eq_true, not_true_eq_false, false_implies, true_implies, implies_true, and_true, true_and, Nat.reduceLT, Nat.reduceLeDiff, Nat.reduceAdd, Nat.reduceSub, Nat.zero_add, Nat.add_zero]
      rw [e7]
      refine ⟨fun c1 => ⟨hp49, ?_⟩, fun c1 => ?_⟩
      · rw [if_neg c1] at hK
        rw [ho 66 (by omega), T1]
        refine ⟨fun c2 => ?_, fun c2 => ?_⟩
        · have hfl : fl p = true := by
            by_cases z : fl p = true
            · exact z
            · rw [if_neg z] at c2
              exact absurd rfl c2
          rw [if_pos hfl] at hK
          refine p_negative hE.1 (Nat.le_of_lt hdg) ?_
          have hs : (q - dg q (f k) i) % q < q := mod_q_lt hq2 _
          refine p_tadd_in hp49 hp7 hs ht hc hc67 (by omega) mi hE hf (hT.off (fun o o1 o2 => ho o (by omega))) hfl ?_ (k + 1) 0 mi (Nat.zero_add _) (fun _ _ => rfl) (fun j' hj' => ?_)
          · intro mi1 ho1 hf1
            refine (ih.1 k i (by omega) hp hkK _ _ mi1 (fun o h => by rw [ho1 o h]; exact ho o h) ?_ (cmb_lt _ hq2 13 _ _) hK)
            have e9 : tal q rw p f = fun j => if j ≤ k then cmb q ((q - dg q (f k) i) % q) 13 (f j) (rw p j) else f j := by
              unfold tal
              rw [hp7, hpm]
            rw [e9]
            exact hf1
          · rw [if_neg (by omega)]
            exact hf.1 j' hj'
        · have hfl : ¬ fl p = true := by
            intro z
            rw [if_pos z] at c2
            exact absurd c2 (by decide)
          rw [if_neg hfl] at hK
          refine p_inverse hE.1 hdg ?_
          refine p_keep hE hp49 (iv_lt hE.1.1 hdg) ht hc hc67 hf (hT.off (fun o o1 o2 => ho o (by omega))) (by unfold ksc; rw [hp7, hpm]) ?_
          intro mi1 ho1 hT1
          exact hK.2 p rfl mi1 (fun o oc o2 => by rw [ho1 o o2]; exact ho o oc) hT1
      · rw [if_pos c1] at hK
        exact ih.1 k i (by omega) hp hkK f t mi ho hf ht hK
    have B : ∀ k, p + 1 = 7 * k → k ≤ KK → ∀ (f : Nat → Nat) (t : Nat) (mi : Nat → Nat → Int32), (∀ o, o ≠ c → mi o = mi0 o) → Rw n mi c f → t < q ^ 13 → TK q n c mi0 ml fl rw tg K (ta q fl rw tg (p + 1) f t) →
        wp G e tX m_X7_add 10 [(0, .ref 14), (1, .ref c), (2, .int (nI t)), (3, .int (pd k))] [] (mi, ml, RX y) (QI K) := by
      intro k hk hkK f t mi ho hf ht hK
      obtain ⟨k', rfl⟩ : ∃ k', k = k' + 1 := ⟨k - 1, by omega⟩
      apply b_X7_add_10
      rw [pd_succ]
      simp (disch := omega) only [s_le, s_lt, s_eq, s_eq0, s_in, s_ix, s_rm, s_div, s_pdlt, s_pdle, s_lepd, s_pdpd, s_pdlepd, s_pdadd, nI_add, pk_mul, pd_succ, Nat.not_lt_zero, Nat.zero_lt_succ, not_false_eq_true, not_true_eq_false, false_implies, true_implies, implies_true, and_true, true_and, Nat.reduceLT, Nat.reduceLeDiff, Nat.reduceAdd, Nat.reduceSub, Nat.zero_add, Nat.add_zero]
      have := A k' 6 (by omega) (by omega) (by omega) f t mi ho hf ht hK
      rw [pd_succ] at this
      exact this
    refine ⟨fun k i hi hp hkK f t mi ho hf ht hK => ?_, B⟩
    rcases Nat.eq_zero_or_pos i with z | z
    · subst z
      apply b_X7_add_18
      rw [pd_dec]
      simp (disch := omega) only [s_le, s_lt, s_eq, s_eq0, s_in, s_ix, s_rm, s_div, s_pdlt, s_pdle, s_lepd, s_pdpd, s_pdlepd, s_pdadd, nI_add, pk_mul, pd_succ, Nat.not_lt_zero, Nat.zero_lt_succ, not_false_eq_true, not_true_eq_false, false_implies, true_implies, implies_true, and_true, true_and, Nat.reduceLT, Nat.reduceLeDiff, Nat.reduceAdd, Nat.reduceSub, Nat.zero_add, Nat.add_zero]
      exact B k (by omega) (by omega) f t mi ho hf ht hK
    · obtain ⟨i', rfl⟩ : ∃ i', i = i' + 1 := ⟨i - 1, by omega⟩
      exact A k i' (by omega) (by omega) hkK f t mi ho hf ht hK
theorem p_tadd (h0 : En q m d n g mi) {c t : Nat} (hc : isR c) (hc67 : 66 < c) (ht : t < q ^ 13) {f : Nat → Nat} (hf : Rw n mi c f) {fl : Nat → Bool} {rw : Nat → Nat → Nat} {tg : Nat → Nat} (hT : Ts q n mi fl rw tg) (hc7 : 7 ≤ an c) {K : Int32 → (Nat → Nat → Int32) → (Nat → Nat → Int64) → Prop}
    (hK : TK q n c mi ml fl rw tg K (ta q fl rw tg 49 f t)) : wpI G e 154 m_X7_add [.ref 14, .ref c, .int (nI t)] (mi, ml, RX y) K := by
  have hcN := hc.2
  apply e_X7_add
  have e1 : (if (nI 7) < (nI (an c)) then (nI 7) else (nI (an c))) = nI 7 := by
    by_cases c1 : 7 = an c
    · rw [← c1]
      split <;> rfl
    · rw [if_pos]
      rw [s_lt (by omega) (by omega)]
      omega
  rw [e1, pd_sub]
  exact ⟨hc.1, (p_tadd_loop hc hc67 hc7 (Nat.le_refl 7) mi h0 hT 49).2 7 rfl (Nat.le_refl 7) f t mi (fun _ _ => rfl) hf ht hK⟩
theorem row67 : isR 67 ∧ an 67 = 7 := by
  have h : (ak 67 = 11 ∧ an 67 = 7) := by decide +kernel
  exact ⟨⟨⟨h.1, by omega⟩, by rw [h.2]; omega⟩, h.2⟩
/-- the row that is one rest -/
def r1 (x : Nat) : Nat → Nat := fun k => if k = 0 then x else 0
theorem p_addRest (h0 : En q m d n g mi) {x t : Nat} (hx : x < n) (ht : t < q ^ 13) {fl : Nat → Bool} {rw : Nat → Nat → Nat} {tg : Nat → Nat} (hT : Ts q n mi fl rw tg) {K : Int32 → (Nat → Nat → Int32) → (Nat → Nat → Int64) → Prop}
    (hK : TK q n 67 mi ml fl rw tg K (ta q fl rw tg 49 (r1 x) t)) : wpI G e 154 m_X7_addRest [.ref 14, .int (nI x), .int (nI t)] (mi, ml, RX y) K := by
  have hw2 := h0.w.n2
  obtain ⟨hr, h7⟩ := row67
  apply e_X7_addRest
  refine p_clear hr (fun mi1 ho1 hr1 => ?_)
  simp (disch := omega) only [s_le, s_lt, s_eq, s_eq0, s_in, s_ix, s_rm, s_div, s_pdlt, s_pdle, s_lepd, s_pdpd, s_pdlepd, s_pdadd, nI_add, pk_mul, pd_succ, Nat.not_lt_zero, Nat.zero_lt_succ, not_false_eq_true, not_true_eq_false, false_implies, true_implies, implies_true, and_true, true_and, Nat.reduceLT, Nat.reduceLeDiff, Nat.reduceAdd, Nat.reduceSub, Nat.zero_add, Nat.add_zero]
  have ho2 : ∀ o, o ≠ 67 → u2 mi1 67 0 (nI x) o = mi o := fun o h => by rw [u2_off h]; exact ho1 o h
  refine p_tadd (h0.off (fun o o1 o2 => ho2 o (by omega))) hr (by omega) ht (f := r1 x) ⟨fun k hk => ?_, fun k hk => ?_, fun k => ?_⟩ (hT.off (fun o o1 o2 => ho2 o (by omega))) (by omega) ⟨fun z mi2 ho3 => ?_, fun p z mi2 ho3 hT3 => ?_⟩
  · rw [u2_on]
    show (if k = 0 then _ else _) = nI (if k = 0 then _ else _)
    by_cases c1 : k = 0
    · rw [if_pos c1, if_pos c1]
    · rw [if_neg c1, if_neg c1]
      exact (hr1 k hk).1
  · show (if k = 0 then _ else _) = 0
    rw [if_neg (by omega)]
  · show (if k = 0 then _ else _) < n
    split
    · exact hx
    · omega
  · exact hK.1 z mi2 (fun o h => by rw [ho3 o h]; exact ho2 o h)
  · exact hK.2 p z mi2 (fun o h h3 => by rw [ho3 o h h3]; exact ho2 o h) hT3
end TIE2
