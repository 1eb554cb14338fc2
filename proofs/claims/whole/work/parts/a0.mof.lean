/-! the reference: of -/
section MOF
variable {G : GC} {e n q m d : Nat} {mi : Nat → Nat → Int32} {ml : Nat → Nat → Int64} {A : Ast} {K : Int32 → (Nat → Nat → Int32) → (Nat → Nat → Int64) → Prop}
theorem m_ofRow {f : Nat → Nat} {N : Nat} (hn : n ≤ 128) (hN : N ≤ 25) (hW : Wr n mi 3 f) (hz : ∀ k, N ≤ k → f k = 0) {v : Int32} (hv : NONE ≤ v) (hK : K (fOfR f N v) mi ml) :
    (¬ v = (-(nI 1)) → ((v ≤ (nI 24) → (vp_in ((nI 75) + v) 1250 ∧ K (mi 161 (ix ((nI 75) + v))) mi ml)) ∧ (¬ v ≤ (nI 24) → K (nI 0) mi ml))) ∧ (v = (-(nI 1)) → (wpI G e 168 m_X10_degreeAt [.ref 154, .int (nI 3)] (mi, ml, (RX RM)) (fun r8 mi6 ml7 => K r8 mi6 ml7))) := by
  unfold fOfR at hK
  refine ⟨fun z => ?_, fun z => m_degreeAt hn hW ?_⟩
  · rw [if_neg z] at hK
    have hneg : ¬ v < 0 := fun z2 => by
      apply z
      rw [Int32.le_iff_toInt_le] at hv
      rw [Int32.lt_iff_toInt_lt] at z2
      have h1 : (NONE : Int32).toInt = -1 := by decide
      have h3 : (0 : Int32).toInt = 0 := by decide
      apply Int32.toInt_inj.mp
      have h4 : (-(nI 1)).toInt = -1 := by decide
      omega
    obtain ⟨j, hj, rfl⟩ := nI_of hneg
    rw [asN_nI hj] at hK
    rw [s_le hj (by omega)]
    refine ⟨fun c => ?_, fun c => ?_⟩
    · have e1 := hW.2.1 j (by omega)
      rw [show 25 * 3 + j = 75 + j by omega] at e1
      have e0 : K (nI (f j)) mi ml := by
        by_cases c2 : j < N
        · rw [if_pos c2] at hK
          exact hK
        · rw [if_neg c2] at hK
          rw [hz j (by omega)]
          exact hK
      simp (disch := omega) only [s_le, s_lt, s_eq, s_eq0, s_in, s_ix, s_rm, s_div, s_pdlt, s_pdle, s_lepd, s_pdpd, s_pdlepd, s_pdadd, nI_add, pk_mul, pd_succ, Nat.not_lt_zero, Nat.zero_lt_succ, not_false_eq_true, not_true_eq_false, false_implies, true_implies, implies_true, and_true, true_and, Nat.reduceLT, Nat.reduceLeDiff, Nat.reduceAdd, Nat.reduceSub, Nat.zero_add, Nat.add_zero, e1]
      exact ⟨by omega, e0⟩
    · rw [if_neg (by omega)] at hK
      exact hK
  · rw [if_pos z] at hK
    rw [rl_ext hN hz]
    exact hK
theorem m_of {s : Cst} (hs : A = cN s) (hn : n ≤ 128) (h : Ma 155 A mi) (h10 : kc (aks A) 0 (adn A) ≤ 10) (h11 : kc (aks A) 1 (adn A) ≤ 10) (hl : ∀ i, i < kc (aks A) 0 (adn A) → (∀ k, amd A i k < n) ∧ ∀ k, 4 ≤ k → amd A i k = 0) (hp : ∀ i, i < kc (aks A) 1 (adn A) → (∀ k, amp A i k < n) ∧ ∀ k, 8 ≤ k → amp A i k = 0) {v1 v2 v3 : Int32} (hK : ∀ mi1, (∀ o, o ≠ 161 → mi1 o = mi o) → K (fOf s v1 v2 v3) mi1 ml) : wpI G e 168 m_X10_of [.ref 154, .int v1, .int v2, .int v3] (mi, ml, RX RM) K := by
  subst hs
  have hK0 := hK mi (fun _ _ => rfl)
  unfold fOf at hK hK0
  apply e_X10_of
  refine ⟨fun c1 => ?_, fun c1 => ?_⟩
  · refine m_isModule h h10 (fun i hi hv hlt => ⟨fun z => absurd z (by decide), fun _ => ⟨fun z => ⟨fun _ => ?_, fun z2 => absurd c1 z2⟩, fun z => ?_⟩⟩) (fun hno => ⟨fun _ => ?_, fun z => absurd rfl z⟩)
    · subst hv
      refine m_layModule h (by omega) (by omega) (hl i hlt).1 (hl i hlt).2 (fun mi1 o1 w1 => m_ofRow hn (by omega) w1 (hl i hlt).2 z ?_)
      have := hK mi1 o1.1
      rw [if_neg (fun z2 => z2 z), if_pos c1, hi] at this
      exact this
    · rw [if_pos z] at hK0
      exact hK0
    · rw [hno] at hK0
      by_cases z : ¬ NONE ≤ v3
      · rw [if_pos z] at hK0; exact hK0
      · rw [if_neg z, if_pos c1] at hK0; exact hK0
  · refine m_isMap h h11 (fun i hi hv hlt => ⟨fun z => absurd z (by decide), fun _ => ⟨fun z => ⟨fun z2 => absurd z2 c1, fun _ => ?_⟩, fun z => ?_⟩⟩) (fun hno => ⟨fun _ => ?_, fun z => absurd rfl z⟩)
    · subst hv
      refine m_layMap h (by omega) (by omega) (hp i hlt).1 (hp i hlt).2 (fun mi1 o1 w1 => m_ofRow hn (by omega) w1 (hp i hlt).2 z ?_)
      have := hK mi1 o1.1
      rw [if_neg (fun z2 => z2 z), if_neg c1, hi] at this
      exact this
    · rw [if_pos z] at hK0
      exact hK0
    · rw [hno] at hK0
      by_cases z : ¬ NONE ≤ v3
      · rw [if_pos z] at hK0; exact hK0
      · rw [if_neg z, if_neg c1] at hK0; exact hK0
end MOF
