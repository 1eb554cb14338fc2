/-! the reference: maps told, module, map -/
section MTL2
variable {G : GC} {e n : Nat} {mi : Nat → Nat → Int32} {ml : Nat → Nat → Int64} {A : Ast}
theorem m_tellMap (h : Ma 155 A mi) {r : Nat} {f : Nat → Nat} (hn : n ≤ 128) (hW : Wr n mi r f) (h10 : kc (aks A) 0 (adn A) ≤ 10) (h11 : kc (aks A) 1 (adn A) ≤ 10) (hks : ∀ i, aks A i ≤ 1) {K : Int32 → (Nat → Nat → Int32) → (Nat → Nat → Int64) → Prop}
    (hK1 : (1 ≤ rl f 25 ∧ rl f 25 ≤ 8) ∧ kc (aks A) 1 (adn A) < 10 → ∀ mi1, (∀ o, o ≠ 155 → mi1 o = mi o) → mi1 155 0 = mi 155 0 → mi1 155 1 = mi 155 1 → Ma 155 (tell1A A f) mi1 → K (nI (kc (aks A) 1 (adn A))) mi1 ml)
    (hK0 : ¬ ((1 ≤ rl f 25 ∧ rl f 25 ≤ 8) ∧ kc (aks A) 1 (adn A) < 10) → K NONE mi ml) : wpI G e 168 m_X10_tellMap [.ref 154, .int (nI r)] (mi, ml, RX RM) K := by
  obtain ⟨b0, b1, b2, b3, b4, b5, b6, b7, b8, b9⟩ := id h
  have hsum := kc_sum hks (adn A)
  have hr := hW.1
  have h25 := rl_le f 25
  generalize hc : kc (aks A) 1 (adn A) = c at *
  generalize hd : adn A = dn at *
  have loop : c < 10 → (1 ≤ rl f 25 ∧ rl f 25 ≤ 8) → ∀ (s j : Nat) (mi2 : Nat → Nat → Int32), s + j = 8 → (∀ o, o ≠ 155 → mi2 o = mi o) → (∀ k, (k < 50 + 8 * c ∨ 50 + 8 * c + 8 ≤ k) → mi2 155 k = mi 155 k) → (∀ i, i < j → mi2 155 (50 + 8 * c + i) = nI (f i)) → wp G e tM m_X10_tellMap 29 [(0, .ref 154), (1, .int (nI r)), (2, .int (nI j))] [] (mi2, ml, RX RM) (QI K) := by
    intro hc10 hrl s
    induction s with
    | zero =>
      intro j mi2 hj ho hk hf
      have : j = 8 := by omega
      subst this
      have e2 : mi2 155 3 = nI c := by rw [hk 3 (by omega)]; exact b3
      have e5 : mi2 155 5 = nI dn := by rw [hk 5 (by omega)]; exact b5
      apply b_X10_tellMap_29
      simp (disch := omega) only [s_le, s_lt, s_eq, s_eq0, s_in, s_ix, s_rm, s_div, s_pdlt, s_pdle, s_lepd, s_pdpd, s_pdlepd, s_pdadd, nI_add, pk_mul, pd_succ, Nat.not_lt_zero, Nat.zero_lt_succ, not_false_eq_true, not_true_eq_false, false_implies, true_implies, implies_true, and_true, true_and, Nat.reduceLT, Nat.reduceLeDiff, Nat.reduceAdd, Nat.reduceSub, Nat.zero_add, Nat.add_zero, Nat.le_refl, e2]
      refine m_step (dn := dn) (by rw [u2_ne (by omega)]; exact e5) (by omega) ?_
      simp (disch := omega) only [s_le, s_lt, s_eq, s_eq0, s_in, s_ix, s_rm, s_div, s_pdlt, s_pdle, s_lepd, s_pdpd, s_pdlepd, s_pdadd, nI_add, pk_mul, pd_succ, Nat.not_lt_zero, Nat.zero_lt_succ, not_false_eq_true, not_true_eq_false, false_implies, true_implies, implies_true, and_true, true_and, Nat.reduceLT, Nat.reduceLeDiff, Nat.reduceAdd, Nat.reduceSub, Nat.zero_add, Nat.add_zero, u2_at, u2_ne, s_sub, Nat.add_sub_cancel]
      refine hK1 ⟨hrl, hc10⟩ _ (fun o ho2 => by rw [u2_off ho2, u2_off ho2, u2_off ho2, u2_off ho2]; exact ho o ho2) ?_ ?_ ?_
      · rw [u2_ne (by omega), u2_ne (by omega), u2_ne (by omega), u2_ne (by omega)]
        exact hk 0 (by omega)
      · rw [u2_ne (by omega), u2_ne (by omega), u2_ne (by omega), u2_ne (by omega)]
        exact hk 1 (by omega)
      have ht : tell1A A f = (aq A, am A, atx A, dn + 1, dn + 1, amd A, upR (amp A) c f, up1 (aks A) dn 1) := by
        unfold tell1A
        rw [hd, hc]
      have hz : up1 (aks A) dn 1 dn = 1 := if_pos rfl
      obtain ⟨k0, k1⟩ := kc_step1 hz
      rw [kc_up (Nat.le_refl _)] at k0 k1
      have base : ∀ k, k ≠ 6 → k ≠ 5 → k ≠ 130 + dn → k ≠ 3 → (k < 50 + 8 * c ∨ 50 + 8 * c + 8 ≤ k) → u2 (u2 (u2 (u2 mi2 155 3 (nI (c + 1))) 155 (130 + dn) (nI 1)) 155 5 (nI (dn + 1))) 155 6 (nI (dn + 1)) 155 k = mi 155 k := fun k k6 k5 kd k2 kk => by
        rw [u2_ne k6, u2_ne k5, u2_ne kd, u2_ne k2]
        exact hk k kk
      rw [ht]
      refine ⟨?_, ?_, ?_, ?_, ?_, ?_, u2_at, fun i hi k hk4 => ?_, fun i hi k hk8 => ?_, fun i hi => ?_⟩
      · rw [base 0 (by omega) (by omega) (by omega) (by omega) (by omega)]; exact b0
      · rw [base 1 (by omega) (by omega) (by omega) (by omega) (by omega)]; exact b1
      · rw [base 2 (by omega) (by omega) (by omega) (by omega) (by omega), b2]
        show _ = nI (kc (up1 (aks A) dn 1) 0 (dn + 1))
        rw [k1]
      · rw [u2_ne (by omega), u2_ne (by omega), u2_ne (by omega), u2_at]
        show nI (c + 1) = nI (kc (up1 (aks A) dn 1) 1 (dn + 1))
        rw [k0, hc]
      · rw [base 4 (by omega) (by omega) (by omega) (by omega) (by omega)]; exact b4
      · rw [u2_ne (by omega), u2_at]
      · rw [base _ (by omega) (by omega) (by omega) (by omega) (by omega)]
        exact b7 i hi k hk4
      · show _ = nI (upR (amp A) c f i k)
        unfold upR
        by_cases ci : i = c
        · subst ci
          rw [if_pos rfl, u2_ne (by omega), u2_ne (by omega), u2_ne (by omega), u2_ne (by omega)]
          exact hf k hk8
        · rw [if_neg ci, base _ (by omega) (by omega) (by omega) (by omega) (by omega)]
          exact b8 i hi k hk8
      · show _ = nI (up1 (aks A) dn 1 i)
        unfold up1
        by_cases ci : i = dn
        · subst ci
          rw [if_pos rfl, u2_ne (by omega), u2_ne (by omega), u2_at]
        · rw [if_neg ci, base _ (by omega) (by omega) (by omega) (by omega) (by omega)]
          exact b9 i hi
    | succ s ih =>
      intro j mi2 hj ho hk hf
      have e2 : mi2 155 3 = nI c := by rw [hk 3 (by omega)]; exact b3
      have e1 : mi2 161 (25 * r + j) = nI (f j) := by rw [ho 161 (by omega)]; exact hW.2.1 j (by omega)
      have := ih (j + 1) (u2 mi2 155 (50 + 8 * c + j) (nI (f j))) (by omega) (fun o ho2 => by rw [u2_off ho2]; exact ho o ho2) (fun k kk => by rw [u2_ne (by omega)]; exact hk k kk) (fun i hi => by
        by_cases ci : i = j
        · rw [ci, u2_at]
        · rw [u2_ne (by omega)]
          exact hf i (by omega))
      apply b_X10_tellMap_29
      simp (disch := omega) only [s_le, s_lt, s_eq, s_eq0, s_in, s_ix, s_rm, s_div, s_pdlt, s_pdle, s_lepd, s_pdpd, s_pdlepd, s_pdadd, nI_add, pk_mul, pd_succ, Nat.not_lt_zero, Nat.zero_lt_succ, not_false_eq_true, not_true_eq_false, false_implies, true_implies, implies_true, and_true, true_and, Nat.reduceLT, Nat.reduceLeDiff, Nat.reduceAdd, Nat.reduceSub, Nat.zero_add, Nat.add_zero, e2, e1]
      exact ⟨fun c => absurd c (by omega), fun _ => ⟨by omega, by omega, this⟩⟩
  apply e_X10_tellMap
  refine m_degreeAt hn hW ?_
  have no : ¬ ((1 ≤ rl f 25 ∧ rl f 25 ≤ 8) ∧ c < 10) → (nI 0 = nI 0 → K (-(nI 1)) mi ml) := fun z _ => hK0 z
  refine m_isIn (a := 0) (by omega) (by omega) (fun a ha h1 h7 => ⟨fun z => absurd z (by decide), fun _ => ?_⟩) (fun hno => ⟨no (fun z => ?_), fun z => absurd rfl z⟩)
  · have hrl : rl f 25 = a + 1 := by
      obtain h0 | h0 := Nat.eq_zero_or_pos (rl f 25)
      · rw [h0] at ha
        exfalso
        have e1 : (pd 0).toInt = -1 := by decide
        rw [ha, nI_toInt (by omega)] at e1
        omega
      · obtain ⟨x, hx⟩ : ∃ x, rl f 25 = x + 1 := ⟨rl f 25 - 1, by omega⟩
        rw [hx, pd_succ, s_eq (by omega) (by omega)] at ha
        omega
    simp (disch := omega) only [s_le, s_lt, s_eq, s_eq0, s_in, s_ix, s_rm, s_div, s_pdlt, s_pdle, s_lepd, s_pdpd, s_pdlepd, s_pdadd, nI_add, pk_mul, pd_succ, Nat.not_lt_zero, Nat.zero_lt_succ, not_false_eq_true, not_true_eq_false, false_implies, true_implies, implies_true, and_true, true_and, Nat.reduceLT, Nat.reduceLeDiff, Nat.reduceAdd, Nat.reduceSub, Nat.zero_add, Nat.add_zero, b3]
    refine ⟨fun z => loop (by omega) (by omega) 8 0 mi rfl (fun _ _ => rfl) (fun _ _ => rfl) (fun i hi => absurd hi (by omega)), fun z => hK0 (by omega)⟩
  · obtain ⟨x, hx⟩ : ∃ x, rl f 25 = x + 1 := ⟨rl f 25 - 1, by omega⟩
    refine hno x (by omega) (by omega) ?_
    rw [hx, pd_succ]
theorem m_module {q m d : Nat} {s : Cst} (hs : A = cN s) (hM : Mw q m d n mi) (hnO : nO (cN s) = n) (h : Ma 155 A mi) (h10 : kc (aks A) 0 (adn A) ≤ 10) (h11 : kc (aks A) 1 (adn A) ≤ 10) (hks : ∀ i, aks A i ≤ 1) {v1 v2 v3 v4 : Int32} {K : Int32 → (Nat → Nat → Int32) → (Nat → Nat → Int64) → Prop}
    (hK : ∀ mi1, (∀ o, o ≠ 155 → o ≠ 161 → mi1 o = mi o) → mi1 155 0 = mi 155 0 → mi1 155 1 = mi 155 1 → Ma 155 (cN (fModule s v1 v2 v3 v4).2) mi1 → K (fModule s v1 v2 v3 v4).1 mi1 ml) : wpI G e 168 m_X10_module [.ref 154, .int v1, .int v2, .int v3, .int v4] (mi, ml, RX RM) K := by
  subst hs
  have hn := hM.two
  unfold fModule at hK
  rw [hnO] at hK
  have fail : (∀ (p : Int32 × Cst), p = (NONE, s) → (∀ mi1, (∀ o, o ≠ 155 → o ≠ 161 → mi1 o = mi o) → mi1 155 0 = mi 155 0 → mi1 155 1 = mi 155 1 → Ma 155 (cN p.2) mi1 → K p.1 mi1 ml) → K NONE mi ml) := fun p hp hh => by
    subst hp
    exact hh mi (fun _ _ _ => rfl) rfl rfl h
  apply e_X10_module
  refine m_isRest hM (fun a ha hla => ⟨fun z => absurd z (by decide), fun _ => ?_⟩) (fun hno => ⟨fun _ => ?_, fun z => absurd rfl z⟩)
  · refine m_isRest hM (fun b hb hlb => ⟨fun z => absurd z (by decide), fun _ => ?_⟩) (fun hno => ⟨fun _ => ?_, fun z => absurd rfl z⟩)
    · refine m_isRest hM (fun c hc hlc => ⟨fun z => absurd z (by decide), fun _ => ?_⟩) (fun hno => ⟨fun _ => ?_, fun z => absurd rfl z⟩)
      · refine m_isRest hM (fun d hd hld => ⟨fun _ => ?_, fun z => absurd z (by decide)⟩) (fun hno => ⟨fun z => absurd rfl z, fun _ => ?_⟩)
        · have fa : ∀ x, x < n → asN n (nI x) = some x := fun x hx => by rw [asN_nI (by omega), if_pos hx]
          rw [ha, hb, hc, hd, fa a hla, fa b hlb, fa c hlc, fa d hld] at hK
          have hK2 : ∀ mi1, (∀ o, o ≠ 155 → o ≠ 161 → mi1 o = mi o) → mi1 155 0 = mi 155 0 → mi1 155 1 = mi 155 1 → Ma 155 (cN (tellM s (r4 a b c d)).2) mi1 → K (tellM s (r4 a b c d)).1 mi1 ml := hK
          refine m_clear (n := n) (r := 3) (by omega) (by omega) (fun mi1 ho hw => ?_)
          subst ha
          subst hb
          subst hc
          subst hd
          have h161 := hw.2.1
          have hW : Wr n (u2 (u2 (u2 (u2 mi1 161 75 (nI a)) 161 76 (nI b)) 161 77 (nI c)) 161 78 (nI d)) 3 (r4 a b c d) := by
            refine ⟨by omega, fun k hk => ?_, fun k hk => ?_, fun k => ?_⟩
            · unfold r4
              by_cases c0 : k = 0
              · subst c0
                rw [if_pos rfl, u2_ne (by omega), u2_ne (by omega), u2_ne (by omega), u2_at]
              · by_cases c1 : k = 1
                · subst c1
                  rw [if_neg (by omega), if_pos rfl, u2_ne (by omega), u2_ne (by omega), u2_at]
                · by_cases c2 : k = 2
                  · subst c2
                    rw [if_neg (by omega), if_neg (by omega), if_pos rfl, u2_ne (by omega), u2_at]
                  · by_cases c3 : k = 3
                    · subst c3
                      rw [if_neg (by omega), if_neg (by omega), if_neg (by omega), if_pos rfl, u2_at]
                    · rw [if_neg c0, if_neg c1, if_neg c2, if_neg c3, u2_ne (by omega), u2_ne (by omega), u2_ne (by omega), u2_ne (by omega)]
                      exact h161 k hk
            · unfold r4
              rw [if_neg (by omega), if_neg (by omega), if_neg (by omega), if_neg (by omega)]
            · unfold r4
              split
              · exact hla
              split
              · exact hlb
              split
              · exact hlc
              split
              · exact hld
              · omega
          have ho4 : ∀ o, o ≠ 161 → u2 (u2 (u2 (u2 mi1 161 75 (nI a)) 161 76 (nI b)) 161 77 (nI c)) 161 78 (nI d) o = mi o := fun o o1 => by
            rw [u2_off o1, u2_off o1, u2_off o1, u2_off o1, ho.1 o o1]
          simp (disch := omega) only [s_le, s_lt, s_eq, s_eq0, s_in, s_ix, s_rm, s_div, s_pdlt, s_pdle, s_lepd, s_pdpd, s_pdlepd, s_pdadd, nI_add, pk_mul, pd_succ, Nat.not_lt_zero, Nat.zero_lt_succ, not_false_eq_true, not_true_eq_false, false_implies, true_implies, implies_true, and_true, true_and, Nat.reduceLT, Nat.reduceLeDiff, Nat.reduceAdd, Nat.reduceSub, Nat.zero_add, Nat.add_zero]
          refine m_tellModule (h.off (ho4 155 (by omega))) hn.2 hW h10 h11 hks (fun hc mi2 ho2 g0 g1 hA => ?_) (fun hc => ?_)
          · unfold tellM at hK2
            rw [if_pos hc] at hK2
            exact hK2 mi2 (fun o o1 o2 => by rw [ho2 o o1, ho4 o o2]) (by rw [g0, ho4 155 (by omega)]) (by rw [g1, ho4 155 (by omega)]) hA
          · unfold tellM at hK2
            rw [if_neg hc] at hK2
            exact hK2 _ (fun o o1 o2 => ho4 o o2) (by rw [ho4 155 (by omega)]) (by rw [ho4 155 (by omega)]) (h.off (ho4 155 (by omega)))
        · refine fail _ ?_ hK
          rw [ha, hb, hc, asN_none hno, asN_nI (by omega), asN_nI (by omega), asN_nI (by omega), if_pos hla, if_pos hlb, if_pos hlc]
      · refine fail _ ?_ hK
        rw [ha, hb, asN_none hno, asN_nI (by omega), asN_nI (by omega), if_pos hla, if_pos hlb]
    · refine fail _ ?_ hK
      rw [ha, asN_none hno, asN_nI (by omega), if_pos hla]
  · refine fail _ ?_ hK
    rw [asN_none hno]
end MTL2
