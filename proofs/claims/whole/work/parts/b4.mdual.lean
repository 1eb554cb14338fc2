/-! the reference: dual -/
def mdt (q m d n : Nat) (u g : Nat → Nat) (v : Nat) : Prop := rl (dvd q m d n 25 (trn q m d g v).2 u).1 25 = 0
def mdi (q m d n : Nat) (u g : Nat → Nat) : Nat → Nat → Option Nat
  | 0, _ => none
  | r + 1, v => if rl (dvd q m d n 25 (trn q m d g v).2 u).1 25 = 0 then some v else mdi q m d n u g r (v + 1)
def mdo (q m d n : Nat) (u g : Nat → Nat) : Nat → Nat → Option Nat
  | 0, _ => none
  | r + 1, k => match mdi q m d n u g (q ^ k) (q ^ k) with
    | some v => some v
    | none => mdo q m d n u g r (k + 1)
/-- the least monic number that u divides as it acts -/
def mdu (q m d n : Nat) (u g : Nat → Nat) : Option Nat := mdo q m d n u g 5 0
def DualOK : Prop := ∀ q m d n (u g : Nat → Nat), Pw q m d n → Rma n u → Rmo n g → dnu q m d n u g = mdu q m d n u g
section MDU
variable {G : GC} {e n q m d : Nat} {ml : Nat → Nat → Int64} {A : Ast} {K : Int32 → (Nat → Nat → Int32) → (Nat → Nat → Int64) → Prop}
theorem m_isInN {mi : Nat → Nat → Int32} {v : Int32} {hi : Nat} (hh : hi < 2 ^ 31) (hN : v = NONE → K (nI 1) mi ml) (h1 : ∀ a, v = nI a → a ≤ hi → K (nI 1) mi ml) (h0 : v ≠ NONE → (∀ a, a ≤ hi → ¬ v = nI a) → K (nI 0) mi ml) : wpI G e 168 m_X10_isIn [.int v, .int (-(nI 1)), .int (nI hi)] (mi, ml, RX RM) K := by
  have e1 : (-(nI 1)).toInt = -1 := by decide
  have e2 : (nI hi).toInt = hi := nI_toInt hh
  apply e_X10_isIn
  rw [Int32.lt_iff_toInt_lt, Int32.lt_iff_toInt_lt, e1, e2]
  by_cases c : v = NONE
  · subst c
    rw [e1]
    exact ⟨fun z => absurd z (by omega), fun _ => ⟨fun z => absurd z (by omega), fun _ => ⟨Or.inr rfl, hN rfl⟩⟩⟩
  · by_cases c2 : ∃ a, a ≤ hi ∧ v = nI a
    · obtain ⟨a, ha, rfl⟩ := c2
      have e4 : (nI a).toInt = a := nI_toInt (by omega)
      rw [e4]
      exact ⟨fun z => absurd z (by omega), fun _ => ⟨fun z => absurd z (by omega), fun _ => ⟨Or.inr rfl, h1 a rfl ha⟩⟩⟩
    · have hK0 := h0 c (fun a ha z => c2 ⟨a, ha, z⟩)
      refine ⟨fun z => ⟨Or.inl rfl, hK0⟩, fun z => ⟨fun z2 => ⟨Or.inl rfl, hK0⟩, fun z2 => ?_⟩⟩
      exfalso
      by_cases y : v.toInt = -1
      · exact c (Int32.toInt_inj.mp (by rw [e1]; exact y))
      · refine c2 ⟨v.toInt.toNat, by omega, Int32.toInt_inj.mp ?_⟩
        rw [nI_toInt (by omega)]
        omega
theorem m_du_in {i j k : Nat} {v3 : Int32} {mi0 : Nat → Nat → Int32} (hM0 : Mw q m d n mi0) (h0 : Ma 155 A mi0) (hi : i < 10) (hj : j < 10) (hu : Rma n (amp A i)) (hg : Rmo n (amd A j)) (hv3 : v3 = NONE ∨ ∃ k, k ≤ 24 ∧ v3 = nI k) (hk : k ≤ 4)
    (hK1 : ∀ mi1 v, offS mi0 mi1 → mdi q m d n (amp A i) (amd A j) (q ^ k) (q ^ k) = some v → K (if v3 = NONE then nI v else nI ((dvd q m d n 25 (trn q m d (amd A j) v).2 (amp A i)).2 (ix v3))) mi1 ml)
    (hK0 : ∀ mi1, offS mi0 mi1 → mdi q m d n (amp A i) (amd A j) (q ^ k) (q ^ k) = none → wp G e tM m_X10_dual 43 [(0, .ref 154), (1, .int (nI i)), (2, .int (nI j)), (3, .int v3), (4, .int (nI (q ^ (k + 1)))), (5, .int (nI (k + 1)))] [] (mi1, ml, RX RM) (QI K)) :
    ∀ (r v : Nat) (mi : Nat → Nat → Int32), v + r = 2 * q ^ k → q ^ k ≤ v → offS mi0 mi → mdi q m d n (amp A i) (amd A j) (q ^ k) (q ^ k) = mdi q m d n (amp A i) (amd A j) r v → wp G e tM m_X10_dual 53 [(0, .ref 154), (1, .int (nI i)), (2, .int (nI j)), (3, .int v3), (4, .int (nI (q ^ k))), (5, .int (nI k)), (6, .int (nI v))] [] (mi, ml, RX RM) (QI K) := by
  have w := hM0.1.1
  have h2 := w.q2
  have hn := hM0.two
  have hq2 := hM0.2.1.1.two
  have hqk : q ^ k ≤ 5 ^ 4 := Nat.le_trans (Nat.pow_le_pow_left hq2.2 _) (Nat.pow_le_pow_right (by omega) hk)
  have hg4 := hg.rl4
  have hg4' := rl_le (amd A j) 4
  have hg2 := hg.2.2
  intro r
  induction r with
  | zero =>
    intro v mi hv _ ho he
    have hM := hM0.offS ho
    have := hK0 mi ho he
    rw [Nat.pow_succ] at this
    apply b_X10_dual_53
    have e1 := hM.2.1.1.2
    have hv : v = 2 * q ^ k := by omega
    subst hv
    simp (disch := omega) only [s_le, s_lt, s_eq, s_eq0, s_in, s_ix, s_rm, s_div, s_pdlt, s_pdle, s_lepd, s_pdpd, s_pdlepd, s_pdadd, nI_add, pk_mul, pd_succ, Nat.not_lt_zero, Nat.zero_lt_succ, not_false_eq_true, not_true_eq_false, false_implies, true_implies, implies_true, and_true, true_and, Nat.reduceLT, Nat.reduceLeDiff, Nat.reduceAdd, Nat.reduceSub, Nat.zero_add, Nat.add_zero, e1, Nat.le_refl]
    exact this
  | succ r ih =>
    intro v mi hv hqv ho he
    have hM := hM0.offS ho
    have h := h0.offS (Or.inl rfl) ho
    have em : mdi q m d n (amp A i) (amd A j) (r + 1) v = if rl (dvd q m d n 25 (trn q m d (amd A j) v).2 (amp A i)).1 25 = 0 then some v else mdi q m d n (amp A i) (amd A j) r (v + 1) := rfl
    obtain ⟨mv, lv⟩ := (Mn_deg h2 (e := k) (by omega)).mp ⟨hqv, by omega⟩
    have hv13 : v < q ^ 13 := by
      obtain ⟨_, _, _, z⟩ := mv
      exact z
    have hv0 := mv.pos h2
    have hfit : (rl (amd A j) 25 - 1) * (ln q 13 v - 1) ≤ 24 := by
      have : (rl (amd A j) 25 - 1) * (ln q 13 v - 1) ≤ 3 * 4 := Nat.mul_le_mul (by omega) (by omega)
      omega
    obtain ⟨t1, -, -, -⟩ := trn_yes hM0.1 hv13 hv0 hg.1 (fun k hk => hg.2.1 k (by omega)) (D := rl (amd A j) 25 - 1) (by omega) (by omega) hfit
    apply b_X10_dual_53
    simp (disch := omega) only [s_le, s_lt, s_eq, s_eq0, s_in, s_ix, s_rm, s_div, s_pdlt, s_pdle, s_lepd, s_pdpd, s_pdlepd, s_pdadd, nI_add, pk_mul, pd_succ, Nat.not_lt_zero, Nat.zero_lt_succ, not_false_eq_true, not_true_eq_false, false_implies, true_implies, implies_true, and_true, true_and, Nat.reduceLT, Nat.reduceLeDiff, Nat.reduceAdd, Nat.reduceSub, Nat.zero_add, Nat.add_zero]
    refine ⟨fun z => absurd z (by omega), fun _ => ?_⟩
    refine m_layActs hM h hj hg.1 hg.2.1 hg.2.2 hv13 (by omega) (by omega) (by omega) (fun _ mi1 o1 w1 => ⟨fun _ => ?_, fun z => absurd z (by decide)⟩) (fun z => absurd (t1.symm.trans z) (by decide))
    have hM1 := hM.offS o1.toS
    refine m_layMap (h.offS (Or.inl rfl) o1.toS) hi (by omega) hu.1 hu.2.1 (fun mi2 o2 w2 => ?_)
    have hM2 := hM1.offV o2
    refine m_divideBy (a := 1) (b := 2) (c := 4) hM2 (w1.offV o2 (by omega)) w2 (by omega) (by omega) (by omega) (by omega) hu.2.2 (fun mi3 o3 w3 w4 => ?_)
    refine m_degreeAt (by omega) w3 ?_
    have o4 : offS mi0 mi3 := ((ho.trans o1.toS).trans o2.toS).trans o3.toS
    have hl := rl_le (dvd q m d n 25 (trn q m d (amd A j) v).2 (amp A i)).1 25
    rw [s_pdle (by omega) (by omega)]
    refine ⟨fun c => ?_, fun c => ?_⟩
    · rw [em, if_neg (by omega)] at he
      exact ih (v + 1) mi3 (by omega) (by omega) o4 he
    · rw [em, if_pos (by omega)] at he
      have := hK1 mi3 v o4 he
      refine ⟨fun z => ?_, fun z => ?_⟩
      · rw [if_neg z] at this
        rcases hv3 with y | ⟨kk, k1, rfl⟩
        · exact absurd y z
        rw [s_ix (by omega)] at this
        have e1 := w4.2.1 kk (by omega)
        rw [show 25 * 4 + kk = 100 + kk by omega] at e1
        simp (disch := omega) only [s_le, s_lt, s_eq, s_eq0, s_in, s_ix, s_rm, s_div, s_pdlt, s_pdle, s_lepd, s_pdpd, s_pdlepd, s_pdadd, nI_add, pk_mul, pd_succ, Nat.not_lt_zero, Nat.zero_lt_succ, not_false_eq_true, not_true_eq_false, false_implies, true_implies, implies_true, and_true, true_and, Nat.reduceLT, Nat.reduceLeDiff, Nat.reduceAdd, Nat.reduceSub, Nat.zero_add, Nat.add_zero, e1]
        exact ⟨by omega, this⟩
      · rw [if_pos z] at this
        exact this
theorem m_dual (hDu : DualOK) {s : Cst} {mi0 : Nat → Nat → Int32} (hs : A = cN s) (hM : Mw q m d n mi0) (hq : aq (cN s) = q) (hm : am (cN s) = m) (hd : dO (cN s) = d) (hnO : nO (cN s) = n) (h : Ma 155 A mi0) (h10 : kc (aks A) 0 (adn A) ≤ 10) (h11 : kc (aks A) 1 (adn A) ≤ 10) (hl : ∀ i, i < kc (aks A) 0 (adn A) → Rmo n (amd A i)) (hp : ∀ i, i < kc (aks A) 1 (adn A) → Rma n (amp A i)) {v1 v2 v3 : Int32} (hK : ∀ mi1, offS mi0 mi1 → K (fDual s v1 v2 v3) mi1 ml) : wpI G e 168 m_X10_dual [.ref 154, .int v1, .int v2, .int v3] (mi0, ml, RX RM) K := by
  subst hs
  have hn := hM.two
  have h2 := hM.1.1.q2
  unfold fDual at hK
  rw [hq, hm, hd, hnO] at hK
  apply e_X10_dual
  refine m_isMap h h11 (fun i hi hv hlt => ⟨fun z => absurd z (by decide), fun _ => ?_⟩) (fun hno => ⟨fun _ => ?_, fun z => absurd rfl z⟩)
  · rw [hi] at hK
    subst hv
    refine m_isModule h h10 (fun j hj hv2 hlt2 => ⟨fun z => absurd z (by decide), fun _ => ?_⟩) (fun hno => ⟨fun _ => ?_, fun z => absurd rfl z⟩)
    · rw [hj] at hK
      dsimp only at hK
      subst hv2
      have hu := hp i hlt
      have hg := hl j hlt2
      rw [hDu q m d n _ _ hM.1 hu hg] at hK
      have go : (v3 = NONE ∨ ∃ k, k ≤ 24 ∧ v3 = nI k) → wpI G e 168 m_X10_leadsTo [.ref 154, .int (nI i), .int (nI j)] (mi0, ml, RX RM) (fun r12 mi10 ml11 => ((¬ r12 = (nI 0) → wp G e tM m_X10_dual 43 [(0, .ref 154), (1, .int (nI i)), (2, .int (nI j)), (3, .int v3), (4, .int (nI 1)), (5, .int (nI 0))] [] (mi10, ml11, (RX RM)) (QI K)) ∧ (r12 = (nI 0) → K (-(nI 1)) mi10 ml11))) := fun hv3 => by
        refine m_leadsTo hM h (by omega) (by omega) hu hg (fun mi1 o1 w1 => ?_)
        have hoS := offS.w o1
        by_cases c : rl (lds q m d n (amp (cN s) i) (amd (cN s) j)).1 25 = 0
        · rw [if_pos c]
          refine ⟨fun _ => ?_, fun z => absurd z (by decide)⟩
          have loop : ∀ (r k : Nat) (mi : Nat → Nat → Int32), r + k = 5 → offS mi0 mi → mdu q m d n (amp (cN s) i) (amd (cN s) j) = mdo q m d n (amp (cN s) i) (amd (cN s) j) r k → wp G e tM m_X10_dual 43 [(0, .ref 154), (1, .int (nI i)), (2, .int (nI j)), (3, .int v3), (4, .int (nI (q ^ k))), (5, .int (nI k))] [] (mi, ml, RX RM) (QI K) := by
            intro r
            induction r with
            | zero =>
              intro k mi hk ho he
              have : k = 5 := by omega
              subst this
              have he : mdu q m d n (amp (cN s) i) (amd (cN s) j) = none := he
              have := hK mi ho
              rw [if_pos c, he] at this
              apply b_X10_dual_43
              simp (disch := omega) only [s_le, s_lt, s_eq, s_eq0, s_in, s_ix, s_rm, s_div, s_pdlt, s_pdle, s_lepd, s_pdpd, s_pdlepd, s_pdadd, nI_add, pk_mul, pd_succ, Nat.not_lt_zero, Nat.zero_lt_succ, not_false_eq_true, not_true_eq_false, false_implies, true_implies, implies_true, and_true, true_and, Nat.reduceLT, Nat.reduceLeDiff, Nat.reduceAdd, Nat.reduceSub, Nat.zero_add, Nat.add_zero, Nat.le_refl]
              exact this
            | succ r ih =>
              intro k mi hk ho he
              have em : mdo q m d n (amp (cN s) i) (amd (cN s) j) (r + 1) k = match mdi q m d n (amp (cN s) i) (amd (cN s) j) (q ^ k) (q ^ k) with
                | some v => some v
                | none => mdo q m d n (amp (cN s) i) (amd (cN s) j) r (k + 1) := rfl
              apply b_X10_dual_43
              simp (disch := omega) only [s_le, s_lt, s_eq, s_eq0, s_in, s_ix, s_rm, s_div, s_pdlt, s_pdle, s_lepd, s_pdpd, s_pdlepd, s_pdadd, nI_add, pk_mul, pd_succ, Nat.not_lt_zero, Nat.zero_lt_succ, not_false_eq_true, not_true_eq_false, false_implies, true_implies, implies_true, and_true, true_and, Nat.reduceLT, Nat.reduceLeDiff, Nat.reduceAdd, Nat.reduceSub, Nat.zero_add, Nat.add_zero]
              refine ⟨fun z => absurd z (by omega), fun _ => ?_⟩
              refine m_du_in (A := cN s) (i := i) (j := j) (k := k) hM h (by omega) (by omega) hu hg hv3 (by omega) (fun mi2 v o2 hv => ?_) (fun mi2 o2 hno => ih (k + 1) mi2 (by omega) o2 (by rw [he, em, hno])) (q ^ k) (q ^ k) mi (by omega) (Nat.le_refl _) ho rfl
              rw [em, hv] at he
              have := hK mi2 o2
              rw [if_pos c, he] at this
              dsimp only at this
              by_cases y : v3 = NONE
              · rw [if_pos y] at this ⊢
                exact this
              · rw [if_neg y] at this ⊢
                rcases hv3 with y2 | ⟨kk, k1, rfl⟩
                · exact absurd y2 y
                rw [asN_nI (by omega), if_pos (by omega)] at this
                dsimp only at this
                rw [s_ix (by omega)]
                have hvv : v < 2 * q ^ k ∧ q ^ k ≤ v := by
                  have key : ∀ r x, mdi q m d n (amp (cN s) i) (amd (cN s) j) r x = some v → x ≤ v ∧ v < x + r := by
                    intro r
                    induction r with
                    | zero => intro x hx; cases hx
                    | succ r ih2 =>
                      intro x hx
                      unfold mdi at hx
                      split at hx
                      · have := Option.some.inj hx
                        omega
                      · have := ih2 (x + 1) hx
                        omega
                  have := key _ _ hv
                  omega
                obtain ⟨mv, lv⟩ := (Mn_deg h2 (e := k) (by omega)).mp ⟨hvv.2, by omega⟩
                have hv13 : v < q ^ 13 := by
                  obtain ⟨_, _, _, z⟩ := mv
                  exact z
                have hg4 := hg.rl4
                have hg4' := rl_le (amd (cN s) j) 4
                have hg2 := hg.2.2
                have hfit : (rl (amd (cN s) j) 25 - 1) * (ln q 13 v - 1) ≤ 24 := by
                  have : (rl (amd (cN s) j) 25 - 1) * (ln q 13 v - 1) ≤ 3 * 4 := Nat.mul_le_mul (by omega) (by omega)
                  omega
                obtain ⟨t1, -, -, -⟩ := trn_yes hM.1 hv13 (mv.pos h2) hg.1 (fun k hk => hg.2.1 k (by omega)) (D := rl (amd (cN s) j) 25 - 1) (by omega) (by omega) hfit
                rw [if_pos t1] at this
                exact this
          exact loop 5 0 mi1 rfl hoS rfl
        · rw [if_neg c]
          have := hK mi1 hoS
          rw [if_neg c] at this
          exact ⟨fun z => absurd rfl z, fun _ => this⟩
      refine m_isInN (by omega) (fun y => ⟨fun z => absurd z (by decide), fun _ => go (Or.inl y)⟩) (fun a y ha => ⟨fun z => absurd z (by decide), fun _ => go (Or.inr ⟨a, ha, y⟩)⟩) (fun y1 y2 => ⟨fun _ => ?_, fun z => absurd rfl z⟩)
      have := hK mi0 (offS.refl _)
      have e3 : asN 25 v3 = none := asN_none (fun a ha z => y2 a (by omega) z)
      rw [e3] at this
      cases hmd : mdu q m d n (amp (cN s) i) (amd (cN s) j) with
      | none =>
        rw [hmd] at this
        split at this <;> exact this
      | some a =>
        rw [hmd] at this
        dsimp only at this
        rw [if_neg y1] at this
        split at this <;> exact this
    · rw [hno] at hK
      exact hK mi0 (offS.refl _)
  · rw [hno] at hK
    exact hK mi0 (offS.refl _)
end MDU
