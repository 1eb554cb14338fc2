/-! the reference: map, count -/
section MTL3
variable {G : GC} {e n : Nat} {mi : Nat → Nat → Int32} {ml : Nat → Nat → Int64} {A : Ast}
theorem m_map {q m d : Nat} {s : Cst} (hs : A = cN s) (hM : Mw q m d n mi) (hnO : nO (cN s) = n) (h : Ma 155 A mi) (h10 : kc (aks A) 0 (adn A) ≤ 10) (h11 : kc (aks A) 1 (adn A) ≤ 10) (hks : ∀ i, aks A i ≤ 1) {v1 v2 v3 : Int32} {K : Int32 → (Nat → Nat → Int32) → (Nat → Nat → Int64) → Prop}
    (hK : ∀ mi1, (∀ o, o ≠ 155 → o ≠ 161 → mi1 o = mi o) → mi1 155 0 = mi 155 0 → mi1 155 1 = mi 155 1 → Ma 155 (cN (fMap s v1 v2 v3).2) mi1 → K (fMap s v1 v2 v3).1 mi1 ml) : wpI G e 168 m_X10_map [.ref 154, .int v1, .int v2, .int v3] (mi, ml, RX RM) K := by
  subst hs
  have hn := hM.two
  unfold fMap at hK
  rw [hnO] at hK
  have fail : (∀ (p : Int32 × Cst), p = (NONE, s) → (∀ mi1, (∀ o, o ≠ 155 → o ≠ 161 → mi1 o = mi o) → mi1 155 0 = mi 155 0 → mi1 155 1 = mi 155 1 → Ma 155 (cN p.2) mi1 → K p.1 mi1 ml) → K NONE mi ml) := fun p hp hh => by
    subst hp
    exact hh mi (fun _ _ _ => rfl) rfl rfl h
  apply e_X10_map
  refine m_isRest hM (fun a ha hla => ⟨fun z => absurd z (by decide), fun _ => ?_⟩) (fun hno => ⟨fun _ => ?_, fun z => absurd rfl z⟩)
  · refine m_isRest hM (fun b hb hlb => ⟨fun z => absurd z (by decide), fun _ => ?_⟩) (fun hno => ⟨fun _ => ?_, fun z => absurd rfl z⟩)
    · refine m_isRest hM (fun c hc hlc => ⟨fun _ => ?_, fun z => absurd z (by decide)⟩) (fun hno => ⟨fun z => absurd rfl z, fun _ => ?_⟩)
      · have fa : ∀ x, x < n → asN n (nI x) = some x := fun x hx => by rw [asN_nI (by omega), if_pos hx]
        rw [ha, hb, hc, fa a hla, fa b hlb, fa c hlc] at hK
        have hK2 : ∀ mi1, (∀ o, o ≠ 155 → o ≠ 161 → mi1 o = mi o) → mi1 155 0 = mi 155 0 → mi1 155 1 = mi 155 1 → Ma 155 (cN (tellP s (r4 a b c 0)).2) mi1 → K (tellP s (r4 a b c 0)).1 mi1 ml := hK
        refine m_clear (n := n) (r := 3) (by omega) (by omega) (fun mi1 ho hw => ?_)
        subst ha
        subst hb
        subst hc
        have h161 := hw.2.1
        have hW : Wr n (u2 (u2 (u2 mi1 161 75 (nI a)) 161 76 (nI b)) 161 77 (nI c)) 3 (r4 a b c 0) := by
          refine ⟨by omega, fun k hk => ?_, fun k hk => ?_, fun k => ?_⟩
          · unfold r4
            by_cases c0 : k = 0
            · subst c0
              rw [if_pos rfl, u2_ne (by omega), u2_ne (by omega), u2_at]
            · by_cases c1 : k = 1
              · subst c1
                rw [if_neg (by omega), if_pos rfl, u2_ne (by omega), u2_at]
              · by_cases c2 : k = 2
                · subst c2
                  rw [if_neg (by omega), if_neg (by omega), if_pos rfl, u2_at]
                · rw [if_neg c0, if_neg c1, if_neg c2, u2_ne (by omega), u2_ne (by omega), u2_ne (by omega), ite_self]
                  exact h161 k hk
          · unfold r4
            rw [if_neg (by omega), if_neg (by omega), if_neg (by omega), if_neg (by omega)]
          · unfold r4
            split
            · exact hla
            split
            · exact hlb
            split
            · exact hlc
            split
            · omega
            · omega
        have ho4 : ∀ o, o ≠ 161 → u2 (u2 (u2 mi1 161 75 (nI a)) 161 76 (nI b)) 161 77 (nI c) o = mi o := fun o o1 => by
          rw [u2_off o1, u2_off o1, u2_off o1, ho.1 o o1]
        simp (disch := omega) only [s_le, s_lt, s_eq, s_eq0, s_in, s_ix, s_rm, s_div, s_pdlt, s_pdle, s_lepd, s_pdpd, s_pdlepd, s_pdadd, nI_add, pk_mul, pd_succ, Nat.not_lt_zero, Nat.zero_lt_succ, not_false_eq_true, not_true_eq_false, false_implies, true_implies, implies_true, and_true, true_and, Nat.reduceLT, Nat.reduceLeDiff, Nat.reduceAdd, Nat.reduceSub, Nat.zero_add, Nat.add_zero]
        refine m_tellMap (h.off (ho4 155 (by omega))) hn.2 hW h10 h11 hks (fun hc mi2 ho2 g0 g1 hA => ?_) (fun hc => ?_)
        · unfold tellP at hK2
          rw [if_pos hc] at hK2
          exact hK2 mi2 (fun o o1 o2 => by rw [ho2 o o1, ho4 o o2]) (by rw [g0, ho4 155 (by omega)]) (by rw [g1, ho4 155 (by omega)]) hA
        · unfold tellP at hK2
          rw [if_neg hc] at hK2
          exact hK2 _ (fun o o1 o2 => ho4 o o2) (by rw [ho4 155 (by omega)]) (by rw [ho4 155 (by omega)]) (h.off (ho4 155 (by omega)))
      · refine fail _ ?_ hK
        rw [ha, hb, asN_none hno, asN_nI (by omega), asN_nI (by omega), if_pos hla, if_pos hlb]
    · refine fail _ ?_ hK
      rw [ha, asN_none hno, asN_nI (by omega), if_pos hla]
  · refine fail _ ?_ hK
    rw [asN_none hno]
theorem m_count {q m d : Nat} {s : Cst} (hM : Mw q m d n mi) (hd : dO (cN s) = d) (hnO : nO (cN s) = n) (h : Ma 155 (cN s) mi) (hda : adn (cN s) ≤ aal (cN s)) (hT : mi 154 12 = nI (cTl s)) {v : Int32} {K : Int32 → (Nat → Nat → Int32) → (Nat → Nat → Int64) → Prop}
    (hK : K (fCount s v) mi ml) : wpI G e 168 m_X10_count [.ref 154, .int v] (mi, ml, RX RM) K := by
  obtain ⟨b0, b1, b2, b3, b4, b5, b6, b7, b8, b9⟩ := h
  have v0 : ∀ i, i < 150 → vp_in (nI i) 150 := fun i hi => by rw [s_in (by omega)]; exact hi
  unfold fCount at hK
  rw [hd, hnO] at hK
  apply e_X10_count
  rw [s_ix (by omega), s_ix (by omega), s_ix (by omega), s_ix (by omega), s_ix (by omega), s_ix (by omega), s_ix (by omega), b0, b1, b2, b3, b4, b5, b6, hM.2.1.2.2.1, hM.2.1.2.2.2, hT, s_sub hda]
  refine ⟨fun z => ⟨v0 0 (by omega), ?_⟩, fun z0 => ⟨fun z => ⟨v0 1 (by omega), ?_⟩, fun z1 => ⟨fun z => ?_, fun z2 => ⟨fun z => ?_, fun z3 => ⟨fun z => ⟨v0 2 (by omega), ?_⟩, fun z4 => ⟨fun z => ⟨v0 3 (by omega), ?_⟩, fun z5 => ⟨fun z => ⟨v0 4 (by omega), ?_⟩, fun z6 => ⟨fun z => ⟨v0 5 (by omega), ?_⟩, fun z7 => ⟨fun z => ⟨v0 6 (by omega), v0 5 (by omega), ?_⟩, fun z8 => ⟨fun z => ?_, fun z9 => ?_⟩⟩⟩⟩⟩⟩⟩⟩⟩⟩
  · rw [if_pos z] at hK; exact hK
  · rw [if_neg z0, if_pos z] at hK; exact hK
  · rw [if_neg z0, if_neg z1, if_pos z] at hK; exact hK
  · rw [if_neg z0, if_neg z1, if_neg z2, if_pos z] at hK; exact hK
  · rw [if_neg z0, if_neg z1, if_neg z2, if_neg z3, if_pos z] at hK; exact hK
  · rw [if_neg z0, if_neg z1, if_neg z2, if_neg z3, if_neg z4, if_pos z] at hK; exact hK
  · rw [if_neg z0, if_neg z1, if_neg z2, if_neg z3, if_neg z4, if_neg z5, if_pos z] at hK; exact hK
  · rw [if_neg z0, if_neg z1, if_neg z2, if_neg z3, if_neg z4, if_neg z5, if_neg z6, if_pos z] at hK; exact hK
  · rw [if_neg z0, if_neg z1, if_neg z2, if_neg z3, if_neg z4, if_neg z5, if_neg z6, if_neg z7, if_pos z] at hK; exact hK
  · rw [if_neg z0, if_neg z1, if_neg z2, if_neg z3, if_neg z4, if_neg z5, if_neg z6, if_neg z7, if_neg z8, if_pos z] at hK; exact hK
  · rw [if_neg z0, if_neg z1, if_neg z2, if_neg z3, if_neg z4, if_neg z5, if_neg z6, if_neg z7, if_neg z8, if_neg z9] at hK; exact hK
end MTL3
