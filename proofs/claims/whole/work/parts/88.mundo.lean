/-! the reference: undo, redo, image, count -/
section MUN
variable {G : GC} {e : Nat} {mi : Nat → Nat → Int32} {ml : Nat → Nat → Int64} {A : Ast}
theorem kc_step0 {ks : Nat → Nat} {j : Nat} (h : ks j = 0) : kc ks 0 (j + 1) = kc ks 0 j + 1 ∧ kc ks 1 (j + 1) = kc ks 1 j := by
  have e1 : kc ks 0 (j + 1) = kc ks 0 j + if ks j = 0 then 1 else 0 := rfl
  have e2 : kc ks 1 (j + 1) = kc ks 1 j + if ks j = 1 then 1 else 0 := rfl
  rw [e1, e2, if_pos h, if_neg (by omega)]
  exact ⟨rfl, rfl⟩
theorem kc_step1 {ks : Nat → Nat} {j : Nat} (h : ks j = 1) : kc ks 1 (j + 1) = kc ks 1 j + 1 ∧ kc ks 0 (j + 1) = kc ks 0 j := by
  have e1 : kc ks 0 (j + 1) = kc ks 0 j + if ks j = 0 then 1 else 0 := rfl
  have e2 : kc ks 1 (j + 1) = kc ks 1 j + if ks j = 1 then 1 else 0 := rfl
  rw [e1, e2, if_pos h, if_neg (by omega)]
  exact ⟨rfl, rfl⟩
/-- the counts and the last step put anew -/
theorem Ma.counts {A1 : Ast} {mi1 : Nat → Nat → Int32} (h : Ma 155 A mi) (hq : aq A1 = aq A) (hm : am A1 = am A) (hx : atx A1 = atx A) (ha : aal A1 = aal A) (hmd : amd A1 = amd A) (hmp : amp A1 = amp A) (hks : aks A1 = aks A)
    (hk : ∀ k, k ≠ 2 → k ≠ 3 → k ≠ 5 → mi1 155 k = mi 155 k) (h2 : mi1 155 2 = nI (kc (aks A) 0 (adn A1))) (h3 : mi1 155 3 = nI (kc (aks A) 1 (adn A1))) (h5 : mi1 155 5 = nI (adn A1)) : Ma 155 A1 mi1 := by
  obtain ⟨b0, b1, b2, b3, b4, b5, b6, b7, b8, b9⟩ := h
  refine ⟨?_, ?_, ?_, ?_, ?_, h5, ?_, fun i hi k hk4 => ?_, fun i hi k hk8 => ?_, fun i hi => ?_⟩
  · rw [hk 0 (by omega) (by omega) (by omega), hq]; exact b0
  · rw [hk 1 (by omega) (by omega) (by omega), hm]; exact b1
  · rw [hks]; exact h2
  · rw [hks]; exact h3
  · rw [hk 4 (by omega) (by omega) (by omega), hx]; exact b4
  · rw [hk 6 (by omega) (by omega) (by omega), ha]; exact b6
  · rw [hk _ (by omega) (by omega) (by omega), hmd]; exact b7 i hi k hk4
  · rw [hk _ (by omega) (by omega) (by omega), hmp]; exact b8 i hi k hk8
  · rw [hk _ (by omega) (by omega) (by omega), hks]; exact b9 i hi
theorem m_undo (h : Ma 155 A mi) (h20 : adn A ≤ 20) (hks : ∀ i, aks A i ≤ 1) {K : Int32 → (Nat → Nat → Int32) → (Nat → Nat → Int64) → Prop} (hK0 : adn A = 0 → K NONE mi ml)
    (hK1 : 0 < adn A → ∀ mi1 : Nat → Nat → Int32, (∀ o, o ≠ 155 → mi1 o = mi o) → mi1 155 0 = mi 155 0 → mi1 155 1 = mi 155 1 → Ma 155 (undoA A) mi1 → K (nI (adn A - 1)) mi1 ml) : wpI G e 168 m_X10_undo [.ref 154] (mi, ml, RX RM) K := by
  obtain ⟨b0, b1, b2, b3, b4, b5, b6, b7, b8, b9⟩ := id h
  apply e_X10_undo
  rcases Nat.eq_zero_or_pos (adn A) with z | z
  · rw [z] at b5
    simp (disch := omega) only [s_le, s_lt, s_eq, s_eq0, s_in, s_ix, s_rm, s_div, s_pdlt, s_pdle, s_lepd, s_pdpd, s_pdlepd, s_pdadd, nI_add, pk_mul, pd_succ, Nat.not_lt_zero, Nat.zero_lt_succ, not_false_eq_true, not_true_eq_false, false_implies, true_implies, implies_true, and_true, true_and, Nat.reduceLT, Nat.reduceLeDiff, Nat.reduceAdd, Nat.reduceSub, Nat.zero_add, Nat.add_zero, b5]
    exact hK0 z
  · obtain ⟨j, hj⟩ : ∃ j, adn A = j + 1 := ⟨adn A - 1, by omega⟩
    have hs := b9 j (by omega)
    have hu : undoA A = (aq A, am A, atx A, j, aal A, amd A, amp A, aks A) := by
      unfold undoA
      rw [hj, Nat.add_sub_cancel]
    rw [hj] at b5 b2 b3
    replace hK1 := hK1 z
    rw [hu, hj, Nat.add_sub_cancel] at hK1
    have h1 := hks j
    rcases (show aks A j = 0 ∨ aks A j = 1 by omega) with c | c
    · obtain ⟨k0, k1⟩ := kc_step0 c
      have hb := kc_le (ks := aks A) (b := 0) (show j ≤ 20 by omega)
      have hs20 := kc_sum hks 20
      rw [k0] at b2
      rw [k1] at b3
      rw [c] at hs
      simp (disch := omega) only [s_le, s_lt, s_eq, s_eq0, s_in, s_ix, s_rm, s_div, s_pdlt, s_pdle, s_lepd, s_pdpd, s_pdlepd, s_pdadd, nI_add, pk_mul, pd_succ, Nat.not_lt_zero, Nat.zero_lt_succ, not_false_eq_true, not_true_eq_false, false_implies, true_implies, implies_true, and_true, true_and, Nat.reduceLT, Nat.reduceLeDiff, Nat.reduceAdd, Nat.reduceSub, Nat.zero_add, Nat.add_zero, b5, b2, s_sub, Nat.add_sub_cancel, u2_at, u2_ne, hs]
      exact ⟨fun _ => ⟨by omega, hK1 (u2 (u2 mi 155 5 (nI j)) 155 2 (nI (kc (aks A) 0 j))) (fun o ho => by rw [u2_off ho, u2_off ho]) (by rw [u2_ne (by omega), u2_ne (by omega)]) (by rw [u2_ne (by omega), u2_ne (by omega)]) (h.counts rfl rfl rfl rfl rfl rfl rfl (fun k k2 k3 k5 => by rw [u2_ne k2, u2_ne k5]) u2_at (by rw [u2_ne (by omega), u2_ne (by omega)]; exact b3) (by rw [u2_ne (by omega), u2_at]))⟩, fun y => absurd y (by omega)⟩
    · obtain ⟨k1, k0⟩ := kc_step1 c
      have hb := kc_le (ks := aks A) (b := 1) (show j ≤ 20 by omega)
      have hs20 := kc_sum hks 20
      rw [k0] at b2
      rw [k1] at b3
      rw [c] at hs
      simp (disch := omega) only [s_le, s_lt, s_eq, s_eq0, s_in, s_ix, s_rm, s_div, s_pdlt, s_pdle, s_lepd, s_pdpd, s_pdlepd, s_pdadd, nI_add, pk_mul, pd_succ, Nat.not_lt_zero, Nat.zero_lt_succ, not_false_eq_true, not_true_eq_false, false_implies, true_implies, implies_true, and_true, true_and, Nat.reduceLT, Nat.reduceLeDiff, Nat.reduceAdd, Nat.reduceSub, Nat.zero_add, Nat.add_zero, b5, b3, s_sub, Nat.add_sub_cancel, u2_at, u2_ne, hs, Nat.one_ne_zero]
      exact ⟨fun _ => ⟨by omega, hK1 (u2 (u2 mi 155 5 (nI j)) 155 3 (nI (kc (aks A) 1 j))) (fun o ho => by rw [u2_off ho, u2_off ho]) (by rw [u2_ne (by omega), u2_ne (by omega)]) (by rw [u2_ne (by omega), u2_ne (by omega)]) (h.counts rfl rfl rfl rfl rfl rfl rfl (fun k k2 k3 k5 => by rw [u2_ne k3, u2_ne k5]) (by rw [u2_ne (by omega), u2_ne (by omega)]; exact b2) u2_at (by rw [u2_ne (by omega), u2_at]))⟩, fun y => absurd y (by omega)⟩
theorem m_redo (h : Ma 155 A mi) (h20 : aal A ≤ 20) (hda : adn A ≤ aal A) (hks : ∀ i, aks A i ≤ 1) {K : Int32 → (Nat → Nat → Int32) → (Nat → Nat → Int64) → Prop} (hK0 : adn A = aal A → K NONE mi ml)
    (hK1 : adn A < aal A → ∀ mi1 : Nat → Nat → Int32, (∀ o, o ≠ 155 → mi1 o = mi o) → mi1 155 0 = mi 155 0 → mi1 155 1 = mi 155 1 → Ma 155 (redoA A) mi1 → K (nI (adn A + 1)) mi1 ml) : wpI G e 168 m_X10_redo [.ref 154] (mi, ml, RX RM) K := by
  obtain ⟨b0, b1, b2, b3, b4, b5, b6, b7, b8, b9⟩ := id h
  apply e_X10_redo
  rcases Nat.lt_or_ge (adn A) (aal A) with z | z
  · obtain ⟨j, hj⟩ : ∃ j, adn A = j := ⟨adn A, rfl⟩
    have hs := b9 j (by omega)
    have hu : redoA A = (aq A, am A, atx A, j + 1, aal A, amd A, amp A, aks A) := by
      unfold redoA
      rw [hj]
    rw [hj] at b5 b2 b3
    replace hK1 := hK1 z
    rw [hu, hj] at hK1
    have h1 := hks j
    have hs20 := kc_sum hks 20
    rcases (show aks A j = 0 ∨ aks A j = 1 by omega) with c | c
    · obtain ⟨k0, k1⟩ := kc_step0 c
      have hb := kc_le (ks := aks A) (b := 0) (show j ≤ 20 by omega)
      rw [c] at hs
      simp (disch := omega) only [s_le, s_lt, s_eq, s_eq0, s_in, s_ix, s_rm, s_div, s_pdlt, s_pdle, s_lepd, s_pdpd, s_pdlepd, s_pdadd, nI_add, pk_mul, pd_succ, Nat.not_lt_zero, Nat.zero_lt_succ, not_false_eq_true, not_true_eq_false, false_implies, true_implies, implies_true, and_true, true_and, Nat.reduceLT, Nat.reduceLeDiff, Nat.reduceAdd, Nat.reduceSub, Nat.zero_add, Nat.add_zero, b5, b6, b2, u2_at, u2_ne, hs]
      exact ⟨fun _ => ⟨by omega, hK1 (u2 (u2 mi 155 2 (nI (kc (aks A) 0 j + 1))) 155 5 (nI (j + 1))) (fun o ho => by rw [u2_off ho, u2_off ho]) (by rw [u2_ne (by omega), u2_ne (by omega)]) (by rw [u2_ne (by omega), u2_ne (by omega)]) (h.counts rfl rfl rfl rfl rfl rfl rfl (fun k k2 k3 k5 => by rw [u2_ne k5, u2_ne k2]) (by rw [u2_ne (by omega), u2_at, ← k0]) (by rw [u2_ne (by omega), u2_ne (by omega), b3, ← k1]) u2_at)⟩, fun y => absurd y (by omega)⟩
    · obtain ⟨k1, k0⟩ := kc_step1 c
      have hb := kc_le (ks := aks A) (b := 1) (show j ≤ 20 by omega)
      rw [c] at hs
      simp (disch := omega) only [s_le, s_lt, s_eq, s_eq0, s_in, s_ix, s_rm, s_div, s_pdlt, s_pdle, s_lepd, s_pdpd, s_pdlepd, s_pdadd, nI_add, pk_mul, pd_succ, Nat.not_lt_zero, Nat.zero_lt_succ, not_false_eq_true, not_true_eq_false, false_implies, true_implies, implies_true, and_true, true_and, Nat.reduceLT, Nat.reduceLeDiff, Nat.reduceAdd, Nat.reduceSub, Nat.zero_add, Nat.add_zero, b5, b6, b3, u2_at, u2_ne, hs, Nat.one_ne_zero]
      exact ⟨fun _ => ⟨by omega, hK1 (u2 (u2 mi 155 3 (nI (kc (aks A) 1 j + 1))) 155 5 (nI (j + 1))) (fun o ho => by rw [u2_off ho, u2_off ho]) (by rw [u2_ne (by omega), u2_ne (by omega)]) (by rw [u2_ne (by omega), u2_ne (by omega)]) (h.counts rfl rfl rfl rfl rfl rfl rfl (fun k k2 k3 k5 => by rw [u2_ne k5, u2_ne k3]) (by rw [u2_ne (by omega), u2_ne (by omega), b2, ← k0]) (by rw [u2_ne (by omega), u2_at, ← k1]) u2_at)⟩, fun y => absurd y (by omega)⟩
  · have hz : adn A = aal A := by omega
    rw [hz] at b5
    simp (disch := omega) only [s_le, s_lt, s_eq, s_eq0, s_in, s_ix, s_rm, s_div, s_pdlt, s_pdle, s_lepd, s_pdpd, s_pdlepd, s_pdadd, nI_add, pk_mul, pd_succ, Nat.not_lt_zero, Nat.zero_lt_succ, not_false_eq_true, not_true_eq_false, false_implies, true_implies, implies_true, and_true, true_and, Nat.reduceLT, Nat.reduceLeDiff, Nat.reduceAdd, Nat.reduceSub, Nat.zero_add, Nat.add_zero, b5, b6]
    exact hK0 hz
end MUN
