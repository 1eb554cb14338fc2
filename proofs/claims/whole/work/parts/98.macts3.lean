/-! the reference: acts -/
section MLC
variable {G : GC} {e n q m d : Nat} {mi : Nat → Nat → Int32} {ml : Nat → Nat → Int64} {A : Ast} {K : Int32 → (Nat → Nat → Int32) → (Nat → Nat → Int64) → Prop}
theorem m_acts {s : Cst} (hs : A = cN s) (hM : Mw q m d n mi) (hq : aq (cN s) = q) (hm : am (cN s) = m) (hd : dO (cN s) = d) (h : Ma 155 A mi) (h10 : kc (aks A) 0 (adn A) ≤ 10) (hl : ∀ i, i < kc (aks A) 0 (adn A) → (∀ k, amd A i k < n) ∧ (∀ k, 4 ≤ k → amd A i k = 0) ∧ 2 ≤ rl (amd A i) 25) {v1 v2 v3 : Int32} (hK : ∀ mi1, (∀ o, o ≠ 161 → mi1 o = mi o) → K (fActs s v1 v2 v3) mi1 ml) : wpI G e 168 m_X10_acts [.ref 154, .int v1, .int v2, .int v3] (mi, ml, RX RM) K := by
  subst hs
  have hn := hM.two
  have hK0 := hK mi (fun _ _ => rfl)
  unfold fActs at hK hK0
  rw [hq, hm, hd] at hK hK0
  apply e_X10_acts
  refine m_isModule h h10 (fun i hi hv hlt => ⟨fun z => absurd z (by decide), fun _ => ?_⟩) (fun hno => ⟨fun _ => ?_, fun z => absurd rfl z⟩)
  · rw [hi] at hK hK0
    subst hv
    obtain ⟨l1, l2, l3⟩ := hl i hlt
    refine m_isPoly hM.2.1.1 (fun a ha hv hla => ⟨fun z => absurd z (by decide), fun _ => ?_⟩) (fun hno => ⟨fun _ => ?_, fun z => absurd rfl z⟩)
    · rw [ha] at hK hK0
      subst hv
      refine m_isIn (a := 0) (by omega) (by omega) (fun j hj _ hj24 => ⟨fun z => absurd z (by decide), fun _ => ?_⟩) (fun hno => ⟨fun _ => ?_, fun z => absurd rfl z⟩)
      · subst hj
        rw [asN_nI (by omega), if_pos (by omega)] at hK
        have hK2 : ∀ mi1, (∀ o, o ≠ 161 → mi1 o = mi o) → K (if (trn q m d (amd (cN s) i) a).1 = true then nI ((trn q m d (amd (cN s) i) a).2 j) else NONE) mi1 ml := hK
        refine m_layActs hM h (by omega) l1 l2 l3 hla (by omega) (by omega) (by omega) (fun ht mi1 o1 w1 => ?_) (fun ht mi1 o1 => ?_)
        · have e1 := w1.2.1 j (by omega)
          have hk := hK2 mi1 o1.1
          rw [if_pos ht] at hk
          rw [show 25 * 1 + j = 25 + j by omega] at e1
          simp (disch := omega) only [s_le, s_lt, s_eq, s_eq0, s_in, s_ix, s_rm, s_div, s_pdlt, s_pdle, s_lepd, s_pdpd, s_pdlepd, s_pdadd, nI_add, pk_mul, pd_succ, Nat.not_lt_zero, Nat.zero_lt_succ, not_false_eq_true, not_true_eq_false, false_implies, true_implies, implies_true, and_true, true_and, Nat.reduceLT, Nat.reduceLeDiff, Nat.reduceAdd, Nat.reduceSub, Nat.zero_add, Nat.add_zero, e1]
          exact ⟨fun z => absurd z (by decide), fun _ => ⟨by omega, hk⟩⟩
        · have hk := hK2 mi1 o1.1
          rw [if_neg (by rw [ht]; exact Bool.false_ne_true)] at hk
          exact ⟨fun _ => hk, fun z => absurd rfl z⟩
      · rw [asN_none (fun j hj => hno j (by omega) (by omega))] at hK0
        exact hK0
    · rw [hno] at hK0
      exact hK0
  · rw [hno] at hK0
    exact hK0
end MLC
