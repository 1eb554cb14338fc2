/-! the reference: work, fault -/
section MWK
variable {G : GC} {e n q m d : Nat} {mi : Nat → Nat → Int32} {ml : Nat → Nat → Int64} {K : Int32 → (Nat → Nat → Int32) → (Nat → Nat → Int64) → Prop}
theorem m_work {s : Cst} (hM : Mw q m d n mi) (hq : aq (cN s) = q) (hm : am (cN s) = m) (hnO : nO (cN s) = n) {v1 v2 v3 : Int32} (hK : K (fWork s v1 v2 v3) mi ml) : wpI G e 168 m_X10_work [.ref 154, .int v1, .int v2, .int v3] (mi, ml, RX RM) K := by
  have hn := hM.two
  have w := hM.1.1
  have hMq := hM.2.1.1
  have hq2 := hMq.two
  unfold fWork at hK
  rw [hq, hm, hnO] at hK
  apply e_X10_work
  refine m_isRest hM (fun a ha hla => ⟨fun z => absurd z (by decide), fun _ => ?_⟩) (fun hno => ⟨fun _ => ?_, fun z => absurd rfl z⟩)
  · subst ha
    rw [asN_nI (by omega), if_pos hla] at hK
    refine m_isRest hM (fun b hb hlb => ⟨fun z => absurd z (by decide), fun _ => ?_⟩) (fun hno => ⟨fun _ => ?_, fun z => absurd rfl z⟩)
    · subst hb
      rw [asN_nI (by omega), if_pos hlb] at hK
      replace hK : K (if v1 = nI 0 then nI (cmb q 1 13 a b) else if v1 = nI 1 then nI (cmb q (q - 1) 13 a b) else if v1 = nI 2 then nI (mu q m a b) else if v1 = nI 3 then (if b = 0 then NONE else nI (dv q m n a b)) else NONE) mi ml := hK
      refine m_isIn (a := 0) (by omega) (by omega) (fun c hc _ hc3 => ⟨fun z => absurd z (by decide), fun _ => ?_⟩) (fun hno => ⟨fun _ => ?_, fun z => absurd rfl z⟩)
      · subst hc
        have n0 : ∀ i, i ≤ 3 → (nI c = nI i) = (c = i) := fun i hi => s_eq (by omega) (by omega)
        have pn : ∀ i, i ≤ 3 → c ≠ i → ¬ nI c = nI i := fun i hi hne z => hne (by rw [n0 i hi] at z; exact z)
        have e1 : mi 155 (ix (nI 0)) - nI 1 = nI (q - 1) := by
          rw [s_ix (by omega), hMq.2, s_sub (by omega)]
        have v0 : vp_in (nI 0) 150 := by rw [s_in (by omega)]; omega
        have k0 : c = 0 → wpI G e 168 m_X10_sumOf [.ref 154, .int (nI a), .int (nI b), .int (nI 1)] (mi, ml, (RX RM)) (fun r21 mi19 ml20 => K r21 mi19 ml20) := fun z => by
          rw [if_pos (by rw [z])] at hK
          exact m_sumOf hMq (w.lt13 hla) (w.lt13 hlb) (by omega) hK
        have k1 : c = 1 → wpI G e 168 m_X10_sumOf [.ref 154, .int (nI a), .int (nI b), .int (nI (q - 1))] (mi, ml, (RX RM)) (fun r21 mi19 ml20 => K r21 mi19 ml20) := fun z => by
          rw [if_neg (pn 0 (by omega) (by omega)), if_pos (by rw [z])] at hK
          exact m_sumOf hMq (w.lt13 hla) (w.lt13 hlb) (by omega) hK
        have k2 : c = 2 → wpI G e 168 m_X10_mul [.ref 154, .int (nI a), .int (nI b)] (mi, ml, (RX RM)) (fun r21 mi19 ml20 => K r21 mi19 ml20) := fun z => by
          rw [if_neg (pn 0 (by omega) (by omega)), if_neg (pn 1 (by omega) (by omega)), if_pos (by rw [z])] at hK
          exact m_mul hM hla hlb hK
        have k3 : c = 3 → K (if b = 0 then NONE else nI (dv q m n a b)) mi ml := fun z => by
          rw [if_neg (pn 0 (by omega) (by omega)), if_neg (pn 1 (by omega) (by omega)), if_neg (pn 2 (by omega) (by omega)), if_pos (by rw [z])] at hK
          exact hK
        rw [n0 0 (by omega), n0 1 (by omega), n0 2 (by omega), n0 3 (by omega), s_eq (a := b) (b := 0) (by omega) (by omega), e1, s_ix (n := b) (by omega), hM.2.2.2.1 b hlb, show vp_in (nI b) 128 = (b < 128) from s_in (by omega)]
        refine ⟨fun z3 => ⟨fun z0 => ⟨fun z1 => ⟨fun z2 => absurd z3 (by omega), fun z2 => k2 z2⟩, fun z1 => ⟨v0, k1 z1⟩⟩, fun z0 => k0 z0⟩, fun z3 => ⟨fun zb => ⟨fun z0 => ⟨fun z1 => ⟨fun z2 => ⟨by omega, ?_⟩, fun z2 => k2 z2⟩, fun z1 => ⟨v0, k1 z1⟩⟩, fun z0 => k0 z0⟩, fun zb => ?_⟩⟩
        · have := k3 z3
          rw [if_neg zb] at this
          exact m_mul hM hla (rinv_lt (by omega)) this
        · have := k3 z3
          rw [if_pos zb] at this
          exact this
      · rw [if_neg (hno 0 (by omega) (by omega)), if_neg (hno 1 (by omega) (by omega)), if_neg (hno 2 (by omega) (by omega)), if_neg (hno 3 (by omega) (by omega))] at hK
        exact hK
    · rw [asN_none hno] at hK
      exact hK
  · rw [asN_none hno] at hK
    exact hK
theorem m_fault {s : Cst} (h3 : mi 154 13 = cF s) (h4 : mi 154 14 = cP s) {v : Int32} (hK : K (fFault s v) mi ml) : wpI G e 168 m_X10_fault [.ref 154, .int v] (mi, ml, RX RM) K := by
  unfold fFault at hK
  apply e_X10_fault
  rw [h3, h4]
  refine ⟨fun z => ⟨fun z2 => ?_, fun z2 => ?_⟩, fun z => ?_⟩
  · rw [if_neg z, if_neg z2] at hK; exact hK
  · rw [if_neg z, if_pos z2] at hK; exact hK
  · rw [if_pos z] at hK; exact hK
end MWK
