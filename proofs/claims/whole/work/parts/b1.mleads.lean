/-! the reference: leads, alike, made -/
/-- a map's row -/
def Rma (n : Nat) (u : Nat → Nat) : Prop := (∀ k, u k < n) ∧ (∀ k, 8 ≤ k → u k = 0) ∧ 1 ≤ rl u 25
theorem Rma.rl8 {n : Nat} {u : Nat → Nat} (h : Rma n u) : rl u 25 = rl u 8 := rl_ext (by omega) h.2.1
section MLD
variable {G : GC} {e n q m d : Nat} {ml : Nat → Nat → Int64} {A : Ast} {K : Int32 → (Nat → Nat → Int32) → (Nat → Nat → Int64) → Prop}
theorem fits_mm {u g : Nat → Nat} (hu : Rma n u) (hg : Rmo n g) : fitsM u g := by
  have h1 := hu.rl8
  have h2 := hg.rl4
  have h3 := rl_le u 8
  have h4 := rl_le g 4
  right
  right
  omega
theorem m_leadsTo {i j : Nat} {mi0 : Nat → Nat → Int32} (hM0 : Mw q m d n mi0) (h : Ma 155 A mi0) (hi : i < 10) (hj : j < 10) (hu : Rma n (amp A i)) (hg : Rmo n (amd A j)) (hK : ∀ mi1, (∀ o, o ≠ 161 → mi1 o = mi0 o) → Wr n mi1 4 (lds q m d n (amp A i) (amd A j)).2 → K (if rl (lds q m d n (amp A i) (amd A j)).1 25 = 0 then nI 1 else nI 0) mi1 ml) : wpI G e 168 m_X10_leadsTo [.ref 154, .int (nI i), .int (nI j)] (mi0, ml, RX RM) K := by
  have hn := hM0.two
  apply e_X10_leadsTo
  refine m_layMap h hi (by omega) hu.1 hu.2.1 (fun mi1 o1 w1 => ?_)
  refine m_layModule (h.off (o1.1 155 (by omega))) hj (by omega) hg.1 hg.2.1 (fun mi2 o2 w2 => ?_)
  have hM2 := (hM0.offV o1).offV o2
  refine m_multiply (a := 2) (b := 0) (c := 3) hM2 (w1.offV o2 (by omega)) w2 (by omega) (by omega) (by omega) (fun _ mi3 o3 w3 => ?_) (fun z => absurd (fits_mm hu hg) z)
  have hM3 := hM2.offV o3
  refine m_divideBy (a := 3) (b := 2) (c := 4) hM3 w3 ((w1.offV o2 (by omega)).offV o3 (by omega)) (by omega) (by omega) (by omega) (by omega) hu.2.2 (fun mi4 o4 w4 w5 => ?_)
  refine m_degreeAt (by omega) w4 ?_
  have := hK mi4 (fun o z => by rw [o4.1 o z, o3.1 o z, o2.1 o z, o1.1 o z]) w5
  have hl := rl_le (dvd q m d n 25 (cv q m d (amp A i) (amd A j)) (amp A i)).1 25
  have e0 : (lds q m d n (amp A i) (amd A j)).1 = (dvd q m d n 25 (cv q m d (amp A i) (amd A j)) (amp A i)).1 := rfl
  rw [e0] at this
  rw [s_pdle (by omega) (by omega)]
  refine ⟨fun c => ⟨Or.inl rfl, ?_⟩, fun c => ⟨Or.inr rfl, ?_⟩⟩
  · rw [if_neg (by omega)] at this
    exact this
  · rw [if_pos (by omega)] at this
    exact this
theorem m_leads {s : Cst} {mi0 : Nat → Nat → Int32} (hs : A = cN s) (hM : Mw q m d n mi0) (hq : aq (cN s) = q) (hm : am (cN s) = m) (hd : dO (cN s) = d) (hnO : nO (cN s) = n) (h : Ma 155 A mi0) (h10 : kc (aks A) 0 (adn A) ≤ 10) (h11 : kc (aks A) 1 (adn A) ≤ 10) (hl : ∀ i, i < kc (aks A) 0 (adn A) → Rmo n (amd A i)) (hp : ∀ i, i < kc (aks A) 1 (adn A) → Rma n (amp A i)) {v1 v2 v3 : Int32} (hK : ∀ mi1, offS mi0 mi1 → K (fLeads s v1 v2 v3) mi1 ml) : wpI G e 168 m_X10_leads [.ref 154, .int v1, .int v2, .int v3] (mi0, ml, RX RM) K := by
  subst hs
  have hn := hM.two
  unfold fLeads at hK
  rw [hq, hm, hd, hnO] at hK
  apply e_X10_leads
  refine m_isMap h h11 (fun i hi hv hlt => ⟨fun z => absurd z (by decide), fun _ => ?_⟩) (fun hno => ⟨fun _ => ?_, fun z => absurd rfl z⟩)
  · rw [hi] at hK
    subst hv
    refine m_isModule h h10 (fun j hj hv2 hlt2 => ⟨fun z => absurd z (by decide), fun _ => ?_⟩) (fun hno => ⟨fun _ => ?_, fun z => absurd rfl z⟩)
    · rw [hj] at hK
      subst hv2
      refine m_isIn (a := 0) (lo := 0) (hi := 3) (by omega) (by omega) (fun k hv3 _ hk => ⟨fun z => absurd z (by decide), fun _ => ?_⟩) (fun hno => ⟨fun _ => ?_, fun z => absurd rfl z⟩)
      · subst hv3
        rw [asN_nI (by omega), if_pos (by omega)] at hK
        refine m_leadsTo hM h (by omega) (by omega) (hp i hlt) (hl j hlt2) (fun mi1 o1 w1 => ?_)
        have := hK mi1 (offS.w o1)
        by_cases c : rl (lds q m d n (amp (cN s) i) (amd (cN s) j)).1 25 = 0
        · rw [if_pos c]
          dsimp only at this
          rw [if_pos c] at this
          refine ⟨fun z => absurd z (by decide), fun _ => ?_⟩
          have e1 := w1.2.1 k (by omega)
          rw [show 25 * 4 + k = 100 + k by omega] at e1
          simp (disch := omega) only [s_le, s_lt, s_eq, s_eq0, s_in, s_ix, s_rm, s_div, s_pdlt, s_pdle, s_lepd, s_pdpd, s_pdlepd, s_pdadd, nI_add, pk_mul, pd_succ, Nat.not_lt_zero, Nat.zero_lt_succ, not_false_eq_true, not_true_eq_false, false_implies, true_implies, implies_true, and_true, true_and, Nat.reduceLT, Nat.reduceLeDiff, Nat.reduceAdd, Nat.reduceSub, Nat.zero_add, Nat.add_zero, e1]
          exact ⟨by omega, this⟩
        · rw [if_neg c]
          dsimp only at this
          rw [if_neg c] at this
          exact ⟨fun _ => this, fun z => absurd rfl z⟩
      · have e3 : asN 4 v3 = none := asN_none (fun a ha z => hno a (by omega) (by omega) z)
        rw [e3] at hK
        exact hK mi0 (offS.refl _)
    · rw [hno] at hK
      exact hK mi0 (offS.refl _)
  · rw [hno] at hK
    exact hK mi0 (offS.refl _)
theorem m_alike_in {i j c : Nat} {mi : Nat → Nat → Int32} (hM : Mw q m d n mi) (h : Ma 155 A mi) (hi : i < 10) (hj : j < 10) (hu : Rmo n (amd A i)) (hv : Rmo n (amd A j)) (hc : c < n) (hK1 : als q m d (amd A i) (amd A j) c 4 0 = true → K (nI c) mi ml) (hK0 : ¬ als q m d (amd A i) (amd A j) c 4 0 = true → wp G e tM m_X10_alike 20 [(0, .ref 154), (1, .int (nI i)), (2, .int (nI j)), (3, .int (nI (c + 1)))] [] (mi, ml, RX RM) (QI K)) :
    ∀ (r k : Nat) (b : Bool), r + k = 4 → (b = true → als q m d (amd A i) (amd A j) c 4 0 = als q m d (amd A i) (amd A j) c r k) → (b = false → als q m d (amd A i) (amd A j) c 4 0 = false) → wp G e tM m_X10_alike 34 [(0, .ref 154), (1, .int (nI i)), (2, .int (nI j)), (3, .int (nI c)), (4, .int (if b = true then nI 1 else nI 0)), (5, .int (nI k))] [] (mi, ml, RX RM) (QI K) := by
  have w := hM.1.1
  have hn := hM.two
  intro r
  induction r with
  | zero =>
    intro k b hk h1 h0
    have : k = 4 := by omega
    subst this
    apply b_X10_alike_34
    simp (disch := omega) only [s_le, s_lt, s_eq, s_eq0, s_in, s_ix, s_rm, s_div, s_pdlt, s_pdle, s_lepd, s_pdpd, s_pdlepd, s_pdadd, nI_add, pk_mul, pd_succ, Nat.not_lt_zero, Nat.zero_lt_succ, not_false_eq_true, not_true_eq_false, false_implies, true_implies, implies_true, and_true, true_and, Nat.reduceLT, Nat.reduceLeDiff, Nat.reduceAdd, Nat.reduceSub, Nat.zero_add, Nat.add_zero, Nat.le_refl]
    cases b
    · exact ⟨fun _ => hK0 (by rw [h0 rfl]; decide), fun z => absurd rfl z⟩
    · exact ⟨fun z => absurd z (by decide), fun _ => hK1 (h1 rfl)⟩
  | succ r ih =>
    intro k b hk h1 h0
    apply b_X10_alike_34
    have e1 := h.2.2.2.2.2.2.2.1 i hi k (by omega)
    have e2 := h.2.2.2.2.2.2.2.1 j hj k (by omega)
    simp (disch := omega) only [s_le, s_lt, s_eq, s_eq0, s_in, s_ix, s_rm, s_div, s_pdlt, s_pdle, s_lepd, s_pdpd, s_pdlepd, s_pdadd, nI_add, pk_mul, pd_succ, Nat.not_lt_zero, Nat.zero_lt_succ, not_false_eq_true, not_true_eq_false, false_implies, true_implies, implies_true, and_true, true_and, Nat.reduceLT, Nat.reduceLeDiff, Nat.reduceAdd, Nat.reduceSub, Nat.zero_add, Nat.add_zero, e1, e2]
    refine ⟨fun z => absurd z (by omega), fun _ => ?_⟩
    cases b
    · refine ⟨fun _ => ?_, fun z => absurd rfl z⟩
      exact ih (k + 1) false (by omega) (fun z => absurd z (by decide)) h0
    · refine ⟨fun z => absurd z (by decide), fun _ => ⟨by omega, m_mul hM hc (hu.1 k) ⟨by omega, m_raise hM hc (by omega) ?_⟩⟩⟩
      rw [e2]
      refine m_mul hM (hv.1 k) (tu_lt w hc) ?_
      have ea : als q m d (amd A i) (amd A j) c (r + 1) k = if mu q m c (amd A i k) = mu q m (amd A j k) (tu q m d c k) then als q m d (amd A i) (amd A j) c r (k + 1) else false := rfl
      have l1 := mu_lt (a := c) w (hu.1 k)
      have l2 := mu_lt (a := amd A j k) w (tu_lt (i := k) w hc)
      rw [s_eq (by omega) (by omega)]
      refine ⟨fun z => ?_, fun z => ?_⟩
      · rw [ea, if_neg z] at h1
        exact ih (k + 1) false (by omega) (fun z => absurd z (by decide)) (fun _ => h1 rfl)
      · rw [ea, if_pos z] at h1
        exact ih (k + 1) true (by omega) h1 (fun z => absurd z (by decide))
theorem m_alike {s : Cst} {mi : Nat → Nat → Int32} (hs : A = cN s) (hM : Mw q m d n mi) (hq : aq (cN s) = q) (hm : am (cN s) = m) (hd : dO (cN s) = d) (hnO : nO (cN s) = n) (h : Ma 155 A mi) (h10 : kc (aks A) 0 (adn A) ≤ 10) (hl : ∀ i, i < kc (aks A) 0 (adn A) → Rmo n (amd A i)) {v1 v2 : Int32} (hK : K (fAlike s v1 v2) mi ml) : wpI G e 168 m_X10_alike [.ref 154, .int v1, .int v2] (mi, ml, RX RM) K := by
  subst hs
  have hn := hM.two
  have h4 : mi 154 4 = nI n := hM.2.1.2.2.2
  unfold fAlike at hK
  rw [hq, hm, hd, hnO] at hK
  apply e_X10_alike
  refine m_isModule h h10 (fun i hi hv hlt => ⟨fun z => absurd z (by decide), fun _ => ?_⟩) (fun hno => ⟨fun _ => ?_, fun z => absurd rfl z⟩)
  · rw [hi] at hK
    subst hv
    refine m_isModule h h10 (fun j hj hv2 hlt2 => ⟨fun _ => ?_, fun z => absurd z (by decide)⟩) (fun hno => ⟨fun z => absurd rfl z, fun _ => ?_⟩)
    · rw [hj] at hK
      subst hv2
      have loop : ∀ (r c : Nat), r + c = n → K (oI (all q m d (amd (cN s) i) (amd (cN s) j) r c)) mi ml → wp G e tM m_X10_alike 20 [(0, .ref 154), (1, .int (nI i)), (2, .int (nI j)), (3, .int (nI c))] [] (mi, ml, RX RM) (QI K) := by
        intro r
        induction r with
        | zero =>
          intro c hc hK1
          have : c = n := by omega
          subst this
          apply b_X10_alike_20
          simp (disch := omega) only [s_le, s_lt, s_eq, s_eq0, s_in, s_ix, s_rm, s_div, s_pdlt, s_pdle, s_lepd, s_pdpd, s_pdlepd, s_pdadd, nI_add, pk_mul, pd_succ, Nat.not_lt_zero, Nat.zero_lt_succ, not_false_eq_true, not_true_eq_false, false_implies, true_implies, implies_true, and_true, true_and, Nat.reduceLT, Nat.reduceLeDiff, Nat.reduceAdd, Nat.reduceSub, Nat.zero_add, Nat.add_zero, h4, Nat.le_refl]
          exact hK1
        | succ r ih =>
          intro c hc hK1
          have ea : all q m d (amd (cN s) i) (amd (cN s) j) (r + 1) c = if als q m d (amd (cN s) i) (amd (cN s) j) c 4 0 = true then some c else all q m d (amd (cN s) i) (amd (cN s) j) r (c + 1) := rfl
          rw [ea] at hK1
          apply b_X10_alike_20
          simp (disch := omega) only [s_le, s_lt, s_eq, s_eq0, s_in, s_ix, s_rm, s_div, s_pdlt, s_pdle, s_lepd, s_pdpd, s_pdlepd, s_pdadd, nI_add, pk_mul, pd_succ, Nat.not_lt_zero, Nat.zero_lt_succ, not_false_eq_true, not_true_eq_false, false_implies, true_implies, implies_true, and_true, true_and, Nat.reduceLT, Nat.reduceLeDiff, Nat.reduceAdd, Nat.reduceSub, Nat.zero_add, Nat.add_zero, h4]
          refine ⟨fun z => absurd z (by omega), fun _ => ?_⟩
          exact m_alike_in hM h (by omega) (by omega) (hl i hlt) (hl j hlt2) (by omega) (fun z => by rw [if_pos z] at hK1; exact hK1) (fun z => ih (c + 1) (by omega) (by rw [if_neg z] at hK1; exact hK1)) 4 0 true rfl (fun _ => rfl) (fun z => absurd z (by decide))
      exact loop (n - 1) 1 (by omega) hK
    · rw [hno] at hK
      exact hK
  · rw [hno] at hK
    exact hK
end MLD
