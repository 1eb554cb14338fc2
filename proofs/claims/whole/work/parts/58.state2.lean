/-! class State: tell, copyOf, start -/
theorem Rw.up {n c : Nat} {mi mi1 : Nat → Nat → Int32} {f : Nat → Nat} (h : Rw n mi c f) (hn : n ≤ 128) (ho : mi1 c = mi c) : Rw 128 mi1 c f := ⟨fun k hk => by rw [ho]; exact h.1 k hk, h.2.1, fun k => Nat.lt_of_lt_of_le (h.2.2 k) hn⟩
theorem rl_zero {f : Nat → Nat} {N M : Nat} (h : rl f N ≤ M) (hz : ∀ k, N ≤ k → f k = 0) : ∀ k, M ≤ k → f k = 0 := by
  intro k hk
  rcases Nat.lt_or_ge k N with c | c
  · exact rl_above (by omega) c
  · exact hz k c
section STB
variable {G : GC} {e n : Nat} {mi : Nat → Nat → Int32} {ml : Nat → Nat → Int64} {y : Nat → Nat → Option Nat} {A : Ast}
theorem p_tell0 (h : SM 96 A mi) (hks : ∀ i, aks A i ≤ 1) (h0 : kc (aks A) 0 (adn A) ≤ 10) (h1 : kc (aks A) 1 (adn A) ≤ 10) (hn : n ≤ 128) {c : Nat} (hc : isR c) (c25 : an c = 25) (hc96 : c < 96 ∨ 120 < c) {f : Nat → Nat} (hf : Rw n mi c f) {K : Int32 → (Nat → Nat → Int32) → (Nat → Nat → Int64) → Prop}
    (hK0 : ¬ ((2 ≤ rl f 25 ∧ rl f 25 ≤ 4) ∧ kc (aks A) 0 (adn A) < 10) → K (-(nI 1)) mi ml)
    (hK1 : 2 ≤ rl f 25 ∧ rl f 25 ≤ 4 → kc (aks A) 0 (adn A) < 10 → ∀ mi1 : Nat → Nat → Int32, (∀ o, (o < 96 ∨ 120 < o) → mi1 o = mi o) → SM 96 (tell0A A f) mi1 → K (nI (kc (aks A) 0 (adn A))) mi1 ml) :
    wpI G e 154 m_X6_tell [.ref 96, .int (nI 0), .ref c] (mi, ml, RX y) K := by
  have hsum := kc_sum hks (adn A)
  have hrl := rl_le f 25
  obtain ⟨s0, s1, s2, s3, s4, s5, s6, s7, s8⟩ := id h
  have go : 2 ≤ rl f 25 ∧ rl f 25 ≤ 4 → wpI G e 154 m_X6_many [.ref 96, .int (nI 0)] (mi, ml, (RX y)) (fun r28 mi26 ml27 => (((nI 10) ≤ r28 → K (-(nI 1)) mi26 ml27) ∧ (¬ (nI 10) ≤ r28 → (((mi26 96 3) < (nI 20) → (wpR G e 154 m_X6_get [.ref 96, .int (nI 0), .int r28] (mi26, ml27, (RX y)) (fun q31 mi29 ml30 => (wpV G e 154 m_X8_copy [.ref c, .ref q31] (mi29, ml30, (RX y)) (fun mi32 ml33 => (vp_in (mi32 96 3) 20 ∧ (wpI G e 154 m_X6_redoLatest [.ref 96] ((u2 (u2 mi32 120 (ix (mi32 96 3)) (nI 0)) 96 4 (((u2 mi32 120 (ix (mi32 96 3)) (nI 0)) 96 3) + (nI 1))), ml33, (RX y)) (fun r36 mi34 ml35 => K r28 mi34 ml35)))))))) ∧ (¬ (mi26 96 3) < (nI 20) → K (-(nI 1)) mi26 ml27))))) := by
    intro hfit
    refine p_smany0 h ?_
    rw [s3]
    simp (disch := omega) only [s_le, s_lt, s_eq, s_eq0, s_in, s_ix, s_rm, s_div, s_pdlt, s_pdle, s_lepd, s_pdpd, s_pdlepd, s_pdadd, nI_add, pk_mul, pd_succ, Nat.not_lt_zero, Nat.zero_lt_succ, not_false_eq_true, not_true_eq_false, false_implies, true_implies, implies_true, and_true, true_and, Nat.reduceLT, Nat.reduceLeDiff, Nat.reduceAdd, Nat.reduceSub, Nat.zero_add, Nat.add_zero]
    refine ⟨fun z => hK0 (by omega), fun z => ⟨fun _ => ?_, fun z2 => absurd (show adn A < 20 by omega) z2⟩⟩
    have hj : kc (aks A) 0 (adn A) < 10 := by omega
    refine p_sget0 hj ?_
    have hst := st_rows hj
    have hr : isR (98 + kc (aks A) 0 (adn A)) ∧ an (98 + kc (aks A) 0 (adn A)) = 4 := hst.1
    have hz4 := rl_zero (M := 4) hfit.2 (fun k hk => hf.2.1 k (by omega))
    refine p_copyR hc hr.1 (by omega) hn hf (fun k hk => hz4 k (by omega)) (fun mi1 ho1 hr1 => ?_)
    have e3 : mi1 96 3 = nI (adn A) := by rw [ho1 96 (by omega)]; exact s3
    rw [e3, s_ix (by omega), u2_off (show 96 ≠ 120 by omega), e3, nI_add]
    simp (disch := omega) only [s_le, s_lt, s_eq, s_eq0, s_in, s_ix, s_rm, s_div, s_pdlt, s_pdle, s_lepd, s_pdpd, s_pdlepd, s_pdadd, nI_add, pk_mul, pd_succ, Nat.not_lt_zero, Nat.zero_lt_succ, not_false_eq_true, not_true_eq_false, false_implies, true_implies, implies_true, and_true, true_and, Nat.reduceLT, Nat.reduceLeDiff, Nat.reduceAdd, Nat.reduceSub, Nat.zero_add, Nat.add_zero]
    refine ⟨by omega, ?_⟩
    have hS : SM 96 (aq A, am A, atx A, adn A, adn A + 1, upR (amd A) (kc (aks A) 0 (adn A)) f, amp A, up1 (aks A) (adn A) 0) (u2 (u2 mi1 120 (adn A) (nI 0)) 96 4 (nI (adn A + 1))) := by
      have ho2 : ∀ o, o ≠ 96 → o ≠ 120 → u2 (u2 mi1 120 (adn A) (nI 0)) 96 4 (nI (adn A + 1)) o = mi1 o := fun o o1 o2 => by rw [u2_off o1, u2_off o2]
      have h96 : ∀ k, k ≠ 4 → u2 (u2 mi1 120 (adn A) (nI 0)) 96 4 (nI (adn A + 1)) 96 k = mi 96 k := fun k hk => by
        rw [u2_on]
        show (if k = 4 then _ else _) = _
        rw [if_neg hk, u2_off (by omega), ho1 96 (by omega)]
      refine ⟨by rw [h96 0 (by omega)]; exact s0, by rw [h96 1 (by omega)]; exact s1, by rw [h96 2 (by omega)]; exact s2, by rw [h96 3 (by omega)]; exact s3, by rw [u2_on]; rfl, fun i hi => ?_, ?_, ?_, fun i hi => ?_⟩
      · refine ⟨?_, (s5 i hi).2.off (by rw [ho2 _ (by omega) (by omega), ho1 _ (by omega)])⟩
        show Rw 128 _ (98 + i) (if i = kc (aks A) 0 (adn A) then f else amd A i)
        by_cases c1 : i = kc (aks A) 0 (adn A)
        · rw [if_pos c1, c1]
          exact hr1.up hn (ho2 _ (by omega) (by omega))
        · rw [if_neg c1]
          exact (s5 i hi).1.off (by rw [ho2 _ (by omega) (by omega), ho1 _ (by omega)])
      · show u2 _ _ _ _ 119 0 = nI (kc (up1 (aks A) (adn A) 0) 0 (adn A))
        rw [kc_up (Nat.le_refl _), ho2 119 (by omega) (by omega), ho1 119 (by omega)]
        exact s6
      · show u2 _ _ _ _ 119 1 = nI (kc (up1 (aks A) (adn A) 0) 1 (adn A))
        rw [kc_up (Nat.le_refl _), ho2 119 (by omega) (by omega), ho1 119 (by omega)]
        exact s7
      · show u2 _ _ _ _ 120 i = nI (up1 (aks A) (adn A) 0 i)
        rw [u2_off (by omega), u2_on]
        show (if i = adn A then _ else _) = nI (if i = adn A then _ else _)
        by_cases c1 : i = adn A
        · rw [if_pos c1, if_pos c1]
        · rw [if_neg c1, if_neg c1, ho1 120 (by omega)]
          exact s8 i hi
    refine p_redoLatest hS (show adn A + 1 ≤ 20 by omega) (fun i => ?_) (fun z => absurd (show adn A + 1 ≤ adn A from z) (by omega)) (show adn A ≤ 20 by omega) (fun _ mi2 ho2 hS2 => ?_)
    · show (if i = adn A then 0 else aks A i) ≤ 1
      split
      · omega
      · exact hks i
    · refine hK1 hfit hj mi2 (fun o oo => ?_) hS2
      rw [ho2 o (by omega) (by omega), u2_off (by omega), u2_off (by omega)]
      exact ho1 o (by omega)
  apply e_X6_tell
  refine p_degreeOf hc (hf.row hn) ?_
  rw [c25]
  simp (disch := omega) only [s_le, s_lt, s_eq, s_eq0, s_in, s_ix, s_rm, s_div, s_pdlt, s_pdle, s_lepd, s_pdpd, s_pdlepd, s_pdadd, nI_add, pk_mul, pd_succ, Nat.not_lt_zero, Nat.zero_lt_succ, not_false_eq_true, not_true_eq_false, false_implies, true_implies, implies_true, and_true, true_and, Nat.reduceLT, Nat.reduceLeDiff, Nat.reduceAdd, Nat.reduceSub, Nat.zero_add, Nat.add_zero, s_ltpd, Nat.one_ne_zero, Nat.zero_ne_one]
  refine ⟨fun c1 => ?_, fun c1 => ⟨fun c2 => ?_, fun c2 => go (by omega)⟩⟩
  · refine p_smany0 h ?_
    exact hK0 (by omega)
  · refine p_smany0 h ?_
    exact hK0 (by omega)
theorem p_tell1 (h : SM 96 A mi) (hks : ∀ i, aks A i ≤ 1) (h0 : kc (aks A) 0 (adn A) ≤ 10) (h1 : kc (aks A) 1 (adn A) ≤ 10) (hn : n ≤ 128) {c : Nat} (hc : isR c) (c25 : an c = 25) (hc96 : c < 96 ∨ 120 < c) {f : Nat → Nat} (hf : Rw n mi c f) {K : Int32 → (Nat → Nat → Int32) → (Nat → Nat → Int64) → Prop}
    (hK0 : ¬ ((1 ≤ rl f 25 ∧ rl f 25 ≤ 8) ∧ kc (aks A) 1 (adn A) < 10) → K (-(nI 1)) mi ml)
    (hK1 : 1 ≤ rl f 25 ∧ rl f 25 ≤ 8 → kc (aks A) 1 (adn A) < 10 → ∀ mi1 : Nat → Nat → Int32, (∀ o, (o < 96 ∨ 120 < o) → mi1 o = mi o) → SM 96 (tell1A A f) mi1 → K (nI (kc (aks A) 1 (adn A))) mi1 ml) :
    wpI G e 154 m_X6_tell [.ref 96, .int (nI 1), .ref c] (mi, ml, RX y) K := by
  have hsum := kc_sum hks (adn A)
  have hrl := rl_le f 25
  obtain ⟨s0, s1, s2, s3, s4, s5, s6, s7, s8⟩ := id h
  have go : 1 ≤ rl f 25 ∧ rl f 25 ≤ 8 → wpI G e 154 m_X6_many [.ref 96, .int (nI 1)] (mi, ml, (RX y)) (fun r28 mi26 ml27 => (((nI 10) ≤ r28 → K (-(nI 1)) mi26 ml27) ∧ (¬ (nI 10) ≤ r28 → (((mi26 96 3) < (nI 20) → (wpR G e 154 m_X6_get [.ref 96, .int (nI 1), .int r28] (mi26, ml27, (RX y)) (fun q31 mi29 ml30 => (wpV G e 154 m_X8_copy [.ref c, .ref q31] (mi29, ml30, (RX y)) (fun mi32 ml33 => (vp_in (mi32 96 3) 20 ∧ (wpI G e 154 m_X6_redoLatest [.ref 96] ((u2 (u2 mi32 120 (ix (mi32 96 3)) (nI 1)) 96 4 (((u2 mi32 120 (ix (mi32 96 3)) (nI 1)) 96 3) + (nI 1))), ml33, (RX y)) (fun r36 mi34 ml35 => K r28 mi34 ml35)))))))) ∧ (¬ (mi26 96 3) < (nI 20) → K (-(nI 1)) mi26 ml27))))) := by
    intro hfit
    refine p_smany1 h ?_
    rw [s3]
    simp (disch := omega) only [s_le, s_lt, s_eq, s_eq0, s_in, s_ix, s_rm, s_div, s_pdlt, s_pdle, s_lepd, s_pdpd, s_pdlepd, s_pdadd, nI_add, pk_mul, pd_succ, Nat.not_lt_zero, Nat.zero_lt_succ, not_false_eq_true, not_true_eq_false, false_implies, true_implies, implies_true, and_true, true_and, Nat.reduceLT, Nat.reduceLeDiff, Nat.reduceAdd, Nat.reduceSub, Nat.zero_add, Nat.add_zero]
    refine ⟨fun z => hK0 (by omega), fun z => ⟨fun _ => ?_, fun z2 => absurd (show adn A < 20 by omega) z2⟩⟩
    have hj : kc (aks A) 1 (adn A) < 10 := by omega
    refine p_sget1 hj ?_
    have hst := st_rows hj
    have hr : isR (109 + kc (aks A) 1 (adn A)) ∧ an (109 + kc (aks A) 1 (adn A)) = 8 := hst.2.1
    have hz4 := rl_zero (M := 8) hfit.2 (fun k hk => hf.2.1 k (by omega))
    refine p_copyR hc hr.1 (by omega) hn hf (fun k hk => hz4 k (by omega)) (fun mi1 ho1 hr1 => ?_)
    have e3 : mi1 96 3 = nI (adn A) := by rw [ho1 96 (by omega)]; exact s3
    rw [e3, s_ix (by omega), u2_off (show 96 ≠ 120 by omega), e3, nI_add]
    simp (disch := omega) only [s_le, s_lt, s_eq, s_eq0, s_in, s_ix, s_rm, s_div, s_pdlt, s_pdle, s_lepd, s_pdpd, s_pdlepd, s_pdadd, nI_add, pk_mul, pd_succ, Nat.not_lt_zero, Nat.zero_lt_succ, not_false_eq_true, not_true_eq_false, false_implies, true_implies, implies_true, and_true, true_and, Nat.reduceLT, Nat.reduceLeDiff, Nat.reduceAdd, Nat.reduceSub, Nat.zero_add, Nat.add_zero]
    refine ⟨by omega, ?_⟩
    have hS : SM 96 (aq A, am A, atx A, adn A, adn A + 1, amd A, upR (amp A) (kc (aks A) 1 (adn A)) f, up1 (aks A) (adn A) 1) (u2 (u2 mi1 120 (adn A) (nI 1)) 96 4 (nI (adn A + 1))) := by
      have ho2 : ∀ o, o ≠ 96 → o ≠ 120 → u2 (u2 mi1 120 (adn A) (nI 1)) 96 4 (nI (adn A + 1)) o = mi1 o := fun o o1 o2 => by rw [u2_off o1, u2_off o2]
      have h96 : ∀ k, k ≠ 4 → u2 (u2 mi1 120 (adn A) (nI 1)) 96 4 (nI (adn A + 1)) 96 k = mi 96 k := fun k hk => by
        rw [u2_on]
        show (if k = 4 then _ else _) = _
        rw [if_neg hk, u2_off (by omega), ho1 96 (by omega)]
      refine ⟨by rw [h96 0 (by omega)]; exact s0, by rw [h96 1 (by omega)]; exact s1, by rw [h96 2 (by omega)]; exact s2, by rw [h96 3 (by omega)]; exact s3, by rw [u2_on]; rfl, fun i hi => ?_, ?_, ?_, fun i hi => ?_⟩
      · refine ⟨(s5 i hi).1.off (by rw [ho2 _ (by omega) (by omega), ho1 _ (by omega)]), ?_⟩
        show Rw 128 _ (109 + i) (if i = kc (aks A) 1 (adn A) then f else amp A i)
        by_cases c1 : i = kc (aks A) 1 (adn A)
        · rw [if_pos c1, c1]
          exact hr1.up hn (ho2 _ (by omega) (by omega))
        · rw [if_neg c1]
          exact (s5 i hi).2.off (by rw [ho2 _ (by omega) (by omega), ho1 _ (by omega)])
      · show u2 _ _ _ _ 119 0 = nI (kc (up1 (aks A) (adn A) 1) 0 (adn A))
        rw [kc_up (Nat.le_refl _), ho2 119 (by omega) (by omega), ho1 119 (by omega)]
        exact s6
      · show u2 _ _ _ _ 119 1 = nI (kc (up1 (aks A) (adn A) 1) 1 (adn A))
        rw [kc_up (Nat.le_refl _), ho2 119 (by omega) (by omega), ho1 119 (by omega)]
        exact s7
      · show u2 _ _ _ _ 120 i = nI (up1 (aks A) (adn A) 1 i)
        rw [u2_off (by omega), u2_on]
        show (if i = adn A then _ else _) = nI (if i = adn A then _ else _)
        by_cases c1 : i = adn A
        · rw [if_pos c1, if_pos c1]
        · rw [if_neg c1, if_neg c1, ho1 120 (by omega)]
          exact s8 i hi
    refine p_redoLatest hS (show adn A + 1 ≤ 20 by omega) (fun i => ?_) (fun z => absurd (show adn A + 1 ≤ adn A from z) (by omega)) (show adn A ≤ 20 by omega) (fun _ mi2 ho2 hS2 => ?_)
    · show (if i = adn A then 1 else aks A i) ≤ 1
      split
      · omega
      · exact hks i
    · refine hK1 hfit hj mi2 (fun o oo => ?_) hS2
      rw [ho2 o (by omega) (by omega), u2_off (by omega), u2_off (by omega)]
      exact ho1 o (by omega)
  apply e_X6_tell
  refine p_degreeOf hc (hf.row hn) ?_
  rw [c25]
  simp (disch := omega) only [s_le, s_lt, s_eq, s_eq0, s_in, s_ix, s_rm, s_div, s_pdlt, s_pdle, s_lepd, s_pdpd, s_pdlepd, s_pdadd, nI_add, pk_mul, pd_succ, Nat.not_lt_zero, Nat.zero_lt_succ, not_false_eq_true, not_true_eq_false, false_implies, true_implies, implies_true, and_true, true_and, Nat.reduceLT, Nat.reduceLeDiff, Nat.reduceAdd, Nat.reduceSub, Nat.zero_add, Nat.add_zero, s_ltpd, Nat.one_ne_zero, Nat.zero_ne_one]
  refine ⟨fun c1 => ?_, fun c1 => ⟨fun c2 => ?_, fun c2 => go (by omega)⟩⟩
  · refine p_smany1 h ?_
    exact hK0 (by omega)
  · refine p_smany1 h ?_
    exact hK0 (by omega)
theorem p_copyOf_loop (mi0 : Nat → Nat → Int32) (h : SM 121 A mi0) {K : (Nat → Nat → Int32) → (Nat → Nat → Int64) → Prop}
    (h0 : mi0 96 0 = nI (aq A)) (h1 : mi0 96 1 = nI (am A)) (h2 : mi0 96 2 = nI (atx A)) (h3 : mi0 96 3 = nI (adn A)) (h4 : mi0 96 4 = nI (aal A)) (hks : ∀ i, aks A i ≤ 1) (h10 : kc (aks A) 0 (adn A) ≤ 20) (h11 : kc (aks A) 1 (adn A) ≤ 20)
    (hK : ∀ mi1 : Nat → Nat → Int32, (∀ o, (o < 96 ∨ 96+24 < o) → mi1 o = mi0 o) → SM 96 A mi1 → K mi1 ml) :
    ∀ (r i : Nat) (mi : Nat → Nat → Int32), r + i = 10 → (∀ o, (o < 96+2 ∨ 96+22 < o) → mi o = mi0 o) → (∀ j, j < i → Rw 128 mi (96+2 + j) (amd A j) ∧ Rw 128 mi (96+13 + j) (amp A j)) →
      wp G e tX m_X6_copyOf 42 [(0, .ref 96), (1, .ref 121), (2, .int (nI i))] [] (mi, ml, RX y) (QV K) := by
  obtain ⟨s0, s1, s2, s3, s4, s5, s6, s7, s8⟩ := id h
  obtain ⟨c1, c2, c3, c4⟩ := st_cnt
  intro r
  induction r with
  | zero =>
    intro i mi hr ho hrow
    have hi : i = 10 := by omega
    subst hi
    apply b_X6_copyOf_42
    simp (disch := omega) only [s_le, s_lt, s_eq, s_eq0, s_in, s_ix, s_rm, s_div, s_pdlt, s_pdle, s_lepd, s_pdpd, s_pdlepd, s_pdadd, nI_add, pk_mul, pd_succ, Nat.not_lt_zero, Nat.zero_lt_succ, not_false_eq_true, not_true_eq_false, false_implies, true_implies, implies_true, and_true, true_and, Nat.reduceLT, Nat.reduceLeDiff, Nat.reduceAdd, Nat.reduceSub, Nat.zero_add, Nat.add_zero]
    have hz : Rw 128 mi (121+23) (fun k => if k = 0 then kc (aks A) 0 (adn A) else if k = 1 then kc (aks A) 1 (adn A) else 0) := by
      refine ⟨fun k hk => ?_, fun k hk => ?_, fun k => ?_⟩
      · rw [ho (121+23) (by omega)]
        have hk2 : k < 2 := by rw [c3.2] at hk; exact hk
        rcases (show k = 0 ∨ k = 1 by omega) with rfl | rfl
        · exact s6
        · exact s7
      · have hk2 : 2 ≤ k := by rw [c3.2] at hk; exact hk
        show (if k = 0 then _ else if k = 1 then _ else 0) = 0
        rw [if_neg (by omega), if_neg (by omega)]
      · show (if k = 0 then _ else if k = 1 then _ else 0) < 128
        split
        · omega
        split <;> omega
    have hz2 : Rw 128 mi (121+24) (fun k => if k < 20 then aks A k else 0) := by
      refine ⟨fun k hk => ?_, fun k hk => ?_, fun k => ?_⟩
      · rw [ho (121+24) (by omega)]
        have hk2 : k < 20 := by rw [c4.2] at hk; exact hk
        show _ = nI (if k < 20 then _ else _)
        rw [if_pos hk2]
        exact s8 k hk2
      · have hk2 : 20 ≤ k := by rw [c4.2] at hk; exact hk
        show (if k < 20 then _ else _) = 0
        rw [if_neg (by omega)]
      · show (if k < 20 then _ else _) < 128
        have := hks k
        split <;> omega
    refine p_copyR c3.1 c1.1 (by omega) (by omega) hz (fun k hk => hz.2.1 k (by rw [c3.2, ← c1.2]; exact hk)) (fun mi1 ho1 hr1 => ?_)
    refine p_copyR c4.1 c2.1 (by omega) (by omega) (hz2.off (ho1 (121+24) (by omega))) (fun k hk => hz2.2.1 k (by rw [c4.2, ← c2.2]; exact hk)) (fun mi2 ho2 hr2 => ?_)
    have ho3 : ∀ o, o ≠ 96+23 → o ≠ 96+24 → mi2 o = mi o := fun o o1 o2 => by rw [ho2 o o2, ho1 o o1]
    have hT : mi2 96 = mi0 96 := by rw [ho3 96 (by omega) (by omega), ho 96 (by omega)]
    refine hK mi2 (fun o oo => by rw [ho3 o (by omega) (by omega), ho o (by omega)]) ⟨by rw [hT]; exact h0, by rw [hT]; exact h1, by rw [hT]; exact h2, by rw [hT]; exact h3, by rw [hT]; exact h4, fun i hi => ⟨(hrow i hi).1.off (ho3 _ (by omega) (by omega)), (hrow i hi).2.off (ho3 _ (by omega) (by omega))⟩, ?_, ?_, fun i hi => ?_⟩
    · rw [ho2 (96+23) (by omega), hr1.1 0 (by rw [c1.2]; omega)]
      rfl
    · rw [ho2 (96+23) (by omega), hr1.1 1 (by rw [c1.2]; omega)]
      rfl
    · rw [hr2.1 i (by rw [c2.2]; exact hi)]
      show nI (if i < 20 then _ else _) = _
      rw [if_pos hi]
  | succ r ih =>
    intro i mi hr ho hrow
    have hi : i < 10 := by omega
    obtain ⟨r1, r2, r3, r4⟩ := st_rows hi
    apply b_X6_copyOf_42
    simp (disch := omega) only [s_le, s_lt, s_eq, s_eq0, s_in, s_ix, s_rm, s_div, s_pdlt, s_pdle, s_lepd, s_pdpd, s_pdlepd, s_pdadd, nI_add, pk_mul, pd_succ, Nat.not_lt_zero, Nat.zero_lt_succ, not_false_eq_true, not_true_eq_false, false_implies, true_implies, implies_true, and_true, true_and, Nat.reduceLT, Nat.reduceLeDiff, Nat.reduceAdd, Nat.reduceSub, Nat.zero_add, Nat.add_zero]
    refine ⟨fun z => absurd z (by omega), fun _ => ⟨by omega, by omega, ?_⟩⟩
    refine p_copyR r3.1 r1.1 (by omega) (by omega) ((s5 i hi).1.off (ho _ (by omega))) (fun k hk => (s5 i hi).1.2.1 k (by have e1 := r3.2; have e2 := r1.2; show an (123 + i) ≤ k; omega)) (fun mi1 ho1 hr1 => ⟨by omega, by omega, ?_⟩)
    refine p_copyR r4.1 r2.1 (by omega) (by omega) (((s5 i hi).2.off (ho _ (by omega))).off (ho1 _ (by omega))) (fun k hk => (s5 i hi).2.2.1 k (by have e1 := r4.2; have e2 := r2.2; show an (134 + i) ≤ k; omega)) (fun mi2 ho2 hr2 => ?_)
    refine ih (i + 1) mi2 (by omega) (fun o oo => by rw [ho2 o (by omega), ho1 o (by omega)]; exact ho o oo) (fun j hj => ?_)
    by_cases z : j = i
    · subst z
      exact ⟨hr1.off (ho2 _ (by omega)), hr2⟩
    · obtain ⟨q1, q2⟩ := hrow j (by omega)
      exact ⟨(q1.off (ho1 _ (by omega))).off (ho2 _ (by omega)), (q2.off (ho1 _ (by omega))).off (ho2 _ (by omega))⟩
theorem p_copyOf (h : SM 121 A mi) {K : (Nat → Nat → Int32) → (Nat → Nat → Int64) → Prop} (hks : ∀ i, aks A i ≤ 1) (h10 : kc (aks A) 0 (adn A) ≤ 20) (h11 : kc (aks A) 1 (adn A) ≤ 20)
    (hK : ∀ mi1 : Nat → Nat → Int32, (∀ o, (o < 96 ∨ 96+24 < o) → mi1 o = mi o) → SM 96 A mi1 → K mi1 ml) : wpV G e 154 m_X6_copyOf [.ref 96, .ref 121] (mi, ml, RX y) K := by
  obtain ⟨s0, s1, s2, s3, s4, s5, s6, s7, s8⟩ := id h
  apply e_X6_copyOf
  refine p_copyOf_loop _ (h.off (fun o o1 o2 => ?_)) ?_ ?_ ?_ ?_ ?_ hks h10 h11 (fun mi1 ho1 hS => hK mi1 (fun o oo => ?_) hS) 10 0 _ rfl (fun _ _ => rfl) (fun j hj => absurd hj (by omega))
  · rw [u2_off (by omega), u2_off (by omega), u2_off (by omega), u2_off (by omega), u2_off (by omega)]
  · exact s0
  · exact s1
  · exact s2
  · exact s3
  · exact s4
  · rw [ho1 o oo, u2_off (by omega), u2_off (by omega), u2_off (by omega), u2_off (by omega), u2_off (by omega)]
theorem p_copyOf_k_loop (mi0 : Nat → Nat → Int32) (h : SM 96 A mi0) {K : (Nat → Nat → Int32) → (Nat → Nat → Int64) → Prop}
    (h0 : mi0 121 0 = nI (aq A)) (h1 : mi0 121 1 = nI (am A)) (h2 : mi0 121 2 = nI (atx A)) (h3 : mi0 121 3 = nI (adn A)) (h4 : mi0 121 4 = nI (aal A)) (hks : ∀ i, aks A i ≤ 1) (h10 : kc (aks A) 0 (adn A) ≤ 20) (h11 : kc (aks A) 1 (adn A) ≤ 20)
    (hK : ∀ mi1 : Nat → Nat → Int32, (∀ o, (o < 121 ∨ 121+24 < o) → mi1 o = mi0 o) → SM 121 A mi1 → K mi1 ml) :
    ∀ (r i : Nat) (mi : Nat → Nat → Int32), r + i = 10 → (∀ o, (o < 121+2 ∨ 121+22 < o) → mi o = mi0 o) → (∀ j, j < i → Rw 128 mi (121+2 + j) (amd A j) ∧ Rw 128 mi (121+13 + j) (amp A j)) →
      wp G e tX m_X6_copyOf 42 [(0, .ref 121), (1, .ref 96), (2, .int (nI i))] [] (mi, ml, RX y) (QV K) := by
  obtain ⟨s0, s1, s2, s3, s4, s5, s6, s7, s8⟩ := id h
  obtain ⟨c1, c2, c3, c4⟩ := st_cnt
  intro r
  induction r with
  | zero =>
    intro i mi hr ho hrow
    have hi : i = 10 := by omega
    subst hi
    apply b_X6_copyOf_k_42
    simp (disch := omega) only [s_le, s_lt, s_eq, s_eq0, s_in, s_ix, s_rm, s_div, s_pdlt, s_pdle, s_lepd, s_pdpd, s_pdlepd, s_pdadd, nI_add, pk_mul, pd_succ, Nat.not_lt_zero, Nat.zero_lt_succ, not_false_eq_true, not_true_eq_false, false_implies, true_implies, implies_true, and_true, true_and, Nat.reduceLT, Nat.reduceLeDiff, Nat.reduceAdd, Nat.reduceSub, Nat.zero_add, Nat.add_zero]
    have hz : Rw 128 mi (96+23) (fun k => if k = 0 then kc (aks A) 0 (adn A) else if k = 1 then kc (aks A) 1 (adn A) else 0) := by
      refine ⟨fun k hk => ?_, fun k hk => ?_, fun k => ?_⟩
      · rw [ho (96+23) (by omega)]
        have hk2 : k < 2 := by rw [c1.2] at hk; exact hk
        rcases (show k = 0 ∨ k = 1 by omega) with rfl | rfl
        · exact s6
        · exact s7
      · have hk2 : 2 ≤ k := by rw [c1.2] at hk; exact hk
        show (if k = 0 then _ else if k = 1 then _ else 0) = 0
        rw [if_neg (by omega), if_neg (by omega)]
      · show (if k = 0 then _ else if k = 1 then _ else 0) < 128
        split
        · omega
        split <;> omega
    have hz2 : Rw 128 mi (96+24) (fun k => if k < 20 then aks A k else 0) := by
      refine ⟨fun k hk => ?_, fun k hk => ?_, fun k => ?_⟩
      · rw [ho (96+24) (by omega)]
        have hk2 : k < 20 := by rw [c2.2] at hk; exact hk
        show _ = nI (if k < 20 then _ else _)
        rw [if_pos hk2]
        exact s8 k hk2
      · have hk2 : 20 ≤ k := by rw [c2.2] at hk; exact hk
        show (if k < 20 then _ else _) = 0
        rw [if_neg (by omega)]
      · show (if k < 20 then _ else _) < 128
        have := hks k
        split <;> omega
    refine p_copyR c1.1 c3.1 (by omega) (by omega) hz (fun k hk => hz.2.1 k (by rw [c1.2, ← c3.2]; exact hk)) (fun mi1 ho1 hr1 => ?_)
    refine p_copyR c2.1 c4.1 (by omega) (by omega) (hz2.off (ho1 (96+24) (by omega))) (fun k hk => hz2.2.1 k (by rw [c2.2, ← c4.2]; exact hk)) (fun mi2 ho2 hr2 => ?_)
    have ho3 : ∀ o, o ≠ 121+23 → o ≠ 121+24 → mi2 o = mi o := fun o o1 o2 => by rw [ho2 o o2, ho1 o o1]
    have hT : mi2 121 = mi0 121 := by rw [ho3 121 (by omega) (by omega), ho 121 (by omega)]
    refine hK mi2 (fun o oo => by rw [ho3 o (by omega) (by omega), ho o (by omega)]) ⟨by rw [hT]; exact h0, by rw [hT]; exact h1, by rw [hT]; exact h2, by rw [hT]; exact h3, by rw [hT]; exact h4, fun i hi => ⟨(hrow i hi).1.off (ho3 _ (by omega) (by omega)), (hrow i hi).2.off (ho3 _ (by omega) (by omega))⟩, ?_, ?_, fun i hi => ?_⟩
    · rw [ho2 (121+23) (by omega), hr1.1 0 (by rw [c3.2]; omega)]
      rfl
    · rw [ho2 (121+23) (by omega), hr1.1 1 (by rw [c3.2]; omega)]
      rfl
    · rw [hr2.1 i (by rw [c4.2]; exact hi)]
      show nI (if i < 20 then _ else _) = _
      rw [if_pos hi]
  | succ r ih =>
    intro i mi hr ho hrow
    have hi : i < 10 := by omega
    obtain ⟨r1, r2, r3, r4⟩ := st_rows hi
    apply b_X6_copyOf_k_42
    simp (disch := omega) only [s_le, s_lt, s_eq, s_eq0, s_in, s_ix, s_rm, s_div, s_pdlt, s_pdle, s_lepd, s_pdpd, s_pdlepd, s_pdadd, nI_add, pk_mul, pd_succ, Nat.not_lt_zero, Nat.zero_lt_succ, not_false_eq_true, not_true_eq_false, false_implies, true_implies, implies_true, and_true, true_and, Nat.reduceLT, Nat.reduceLeDiff, Nat.reduceAdd, Nat.reduceSub, Nat.zero_add, Nat.add_zero]
    refine ⟨fun z => absurd z (by omega), fun _ => ⟨by omega, by omega, ?_⟩⟩
    refine p_copyR r1.1 r3.1 (by omega) (by omega) ((s5 i hi).1.off (ho _ (by omega))) (fun k hk => (s5 i hi).1.2.1 k (by have e1 := r1.2; have e2 := r3.2; show an (98 + i) ≤ k; omega)) (fun mi1 ho1 hr1 => ⟨by omega, by omega, ?_⟩)
    refine p_copyR r2.1 r4.1 (by omega) (by omega) (((s5 i hi).2.off (ho _ (by omega))).off (ho1 _ (by omega))) (fun k hk => (s5 i hi).2.2.1 k (by have e1 := r2.2; have e2 := r4.2; show an (109 + i) ≤ k; omega)) (fun mi2 ho2 hr2 => ?_)
    refine ih (i + 1) mi2 (by omega) (fun o oo => by rw [ho2 o (by omega), ho1 o (by omega)]; exact ho o oo) (fun j hj => ?_)
    by_cases z : j = i
    · subst z
      exact ⟨hr1.off (ho2 _ (by omega)), hr2⟩
    · obtain ⟨q1, q2⟩ := hrow j (by omega)
      exact ⟨(q1.off (ho1 _ (by omega))).off (ho2 _ (by omega)), (q2.off (ho1 _ (by omega))).off (ho2 _ (by omega))⟩
theorem p_copyOf_k (h : SM 96 A mi) {K : (Nat → Nat → Int32) → (Nat → Nat → Int64) → Prop} (hks : ∀ i, aks A i ≤ 1) (h10 : kc (aks A) 0 (adn A) ≤ 20) (h11 : kc (aks A) 1 (adn A) ≤ 20)
    (hK : ∀ mi1 : Nat → Nat → Int32, (∀ o, (o < 121 ∨ 121+24 < o) → mi1 o = mi o) → SM 121 A mi1 → K mi1 ml) : wpV G e 154 m_X6_copyOf [.ref 121, .ref 96] (mi, ml, RX y) K := by
  obtain ⟨s0, s1, s2, s3, s4, s5, s6, s7, s8⟩ := id h
  apply e_X6_copyOf_k
  refine p_copyOf_k_loop _ (h.off (fun o o1 o2 => ?_)) ?_ ?_ ?_ ?_ ?_ hks h10 h11 (fun mi1 ho1 hS => hK mi1 (fun o oo => ?_) hS) 10 0 _ rfl (fun _ _ => rfl) (fun j hj => absurd hj (by omega))
  · rw [u2_off (by omega), u2_off (by omega), u2_off (by omega), u2_off (by omega), u2_off (by omega)]
  · exact s0
  · exact s1
  · exact s2
  · exact s3
  · exact s4
  · rw [ho1 o oo, u2_off (by omega), u2_off (by omega), u2_off (by omega), u2_off (by omega), u2_off (by omega)]
theorem p_start (h : SM 96 A mi) {q m : Nat} {K : (Nat → Nat → Int32) → (Nat → Nat → Int64) → Prop} (hK : ∀ mi1 : Nat → Nat → Int32, (∀ o, (o < 96 ∨ 120 < o) → mi1 o = mi o) → SM 96 (startA A q m) mi1 → K mi1 ml) : wpV G e 154 m_X6_start [.ref 96, .int (nI q), .int (nI m)] (mi, ml, RX y) K := by
  obtain ⟨s0, s1, s2, s3, s4, s5, s6, s7, s8⟩ := id h
  apply e_X6_start
  simp (disch := omega) only [s_le, s_lt, s_eq, s_eq0, s_in, s_ix, s_rm, s_div, s_pdlt, s_pdle, s_lepd, s_pdpd, s_pdlepd, s_pdadd, nI_add, pk_mul, pd_succ, Nat.not_lt_zero, Nat.zero_lt_succ, not_false_eq_true, not_true_eq_false, false_implies, true_implies, implies_true, and_true, true_and, Nat.reduceLT, Nat.reduceLeDiff, Nat.reduceAdd, Nat.reduceSub, Nat.zero_add, Nat.add_zero]
  refine hK _ (fun o oo => ?_) ⟨rfl, rfl, s2, rfl, rfl, fun i hi => ⟨(s5 i hi).1.off ?_, (s5 i hi).2.off ?_⟩, rfl, rfl, fun i hi => s8 i hi⟩
  · rw [u2_off (by omega), u2_off (by omega), u2_off (by omega), u2_off (by omega), u2_off (by omega), u2_off (by omega)]
  · rw [u2_off (by omega), u2_off (by omega), u2_off (by omega), u2_off (by omega), u2_off (by omega), u2_off (by omega)]
  · rw [u2_off (by omega), u2_off (by omega), u2_off (by omega), u2_off (by omega), u2_off (by omega), u2_off (by omega)]
end STB
