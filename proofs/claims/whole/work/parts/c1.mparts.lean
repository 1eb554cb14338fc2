/-! the reference: parts -/
def tkl (q p : Nat) : Nat → Nat → Nat
  | 0, x => x
  | r + 1, x => if ln q 13 x ≤ 1 then x else if rst q x p = 0 then tkl q p r (quo q x p) else x
def mulP (q p c : Nat) (P : Nat → Nat) : Nat → Nat := fun i => if i < c then prd q (P i) p else P i
def mspw (q m d : Nat) (f : Nat → Nat) (p : Nat) : Nat → Nat → Nat → Nat → (Nat → Nat) → Option (Nat → Nat)
  | 0, _, _, _, _ => none
  | r + 1, w, had, many, P => if many ≤ had then some P else if ∃ i, i < many - had ∧ 14 < ln q 13 (P i) + ln q 13 p then none else
      match tms q w p with
      | none => some (mulP q p (many - had) P)
      | some w1 => mspw q m d f p r w1 many (nsp q m d f w1 / (ln q 13 p - 1)) (mulP q p (many - had) P)
def mfp (q m d : Nat) (f : Nat → Nat) : Nat → Nat → (Nat → Nat) → Option (Nat → Nat)
  | 0, _, _ => none
  | r + 1, x, P => if ln q 13 x ≤ 1 then some P else
      match mspw q m d f (lft q x) 9 (lft q x) 0 (nsp q m d f (lft q x) / (ln q 13 (lft q x) - 1)) P with
      | none => none
      | some P1 => mfp q m d f r (tkl q (lft q x) 13 x) P1
def mfpa (q m d : Nat) (f : Nat → Nat) : Option (Nat → Nat) := mfp q m d f 9 (pts q m d f) (fun _ => 1)
def PrtOK : Prop := ∀ q m d n (f : Nat → Nat), Pw q m d n → Rmo n f → ∃ R R1, fpa q m d f = some R ∧ mfpa q m d f = some R1 ∧ (∀ i, i < 7 → R1 i = R i) ∧ R1 7 ≤ 1
def Prw (q : Nat) (P : Nat → Nat) (mi : Nat → Nat → Int32) : Prop := ∀ i, i < 8 → mi 167 i = nI (P i) ∧ P i < q ^ 13
theorem Prw.off {q : Nat} {P : Nat → Nat} {mi mi1 : Nat → Nat → Int32} (h : Prw q P mi) (ho : mi1 167 = mi 167) : Prw q P mi1 := fun i hi => by rw [ho]; exact h i hi
theorem nsp_le (q m d : Nat) (f : Nat → Nat) (a : Nat) : nsp q m d f a ≤ d := by
  have := nsl_le (q := q) (m := m) (d := d) (f := f) (a := a) d 0 0 tS0
  rw [Nat.zero_add] at this
  exact this
theorem Mn.lt13 {q x : Nat} (h : Mn q x) : x < q ^ 13 := by
  obtain ⟨_, _, _, z⟩ := h
  exact z
section MPR
variable {G : GC} {e n q m d : Nat} {ml : Nat → Nat → Int64} {A : Ast} {K : (Nat → Nat → Int32) → (Nat → Nat → Int64) → Prop}
theorem m_fp_mul {i x p ee w had many : Nat} {P : Nat → Nat} {mi0 : Nat → Nat → Int32} (hM0 : Mw q m d n mi0) (hp : Mn q p) (hmh : had ≤ many) (hm8 : many ≤ 8) (hP : Prw q P mi0) (hfit : ∀ i, i < many - had → ln q 13 (P i) + ln q 13 p ≤ 14) (hK : ∀ mi1, offS mi0 mi1 → Prw q (mulP q p (many - had) P) mi1 → wpI G e 168 m_X10_times [.ref 154, .int (nI w), .int (nI p)] (mi1, ml, (RX RM)) (fun r3 mi1 ml2 => (((nI 0) ≤ r3 → (wpI G e 168 m_X10_nought [.ref 154, .int (nI i), .int r3] (mi1, ml2, (RX RM)) (fun r6 mi4 ml5 => (¬ (nI ee) = 0 ∧ wp G e tM m_X10_findParts 93 [(0, .ref 154), (1, .int (nI i)), (2, .int (nI x)), (3, .int (nI p)), (4, .int (nI ee)), (5, .int r3), (6, .int (nI many)), (7, .int (r6 / (nI ee)))] [] (mi4, ml5, (RX RM)) (QV K))))) ∧ (¬ (nI 0) ≤ r3 → wp G e tM m_X10_findParts 93 [(0, .ref 154), (1, .int (nI i)), (2, .int (nI x)), (3, .int (nI p)), (4, .int (nI ee)), (5, .int r3), (6, .int (nI many)), (7, .int (nI many))] [] (mi1, ml2, (RX RM)) (QV K))))) :
    ∀ (r k : Nat) (mi : Nat → Nat → Int32), r + k = many - had → offS mi0 mi → Prw q (mulP q p k P) mi → wp G e tM m_X10_findParts 103 [(0, .ref 154), (1, .int (nI i)), (2, .int (nI x)), (3, .int (nI p)), (4, .int (nI ee)), (5, .int (nI w)), (6, .int (nI had)), (7, .int (nI many)), (8, .int (nI k))] [] (mi, ml, RX RM) (QV K) := by
  have h2 := hM0.1.1.q2
  have es : nI many - nI had = nI (many - had) := s_sub hmh
  intro r
  induction r with
  | zero =>
    intro k mi hk ho hPk
    have hk : k = many - had := by omega
    subst hk
    apply b_X10_findParts_103
    rw [es]
    exact ⟨fun _ => hK mi ho hPk, fun z => absurd ((s_le (by omega) (by omega)).mpr (Nat.le_refl _)) z⟩
  | succ r ih =>
    intro k mi hk ho hPk
    have hM := hM0.offS ho
    obtain ⟨e1, l1⟩ := hPk k (by omega)
    have ek : mulP q p k P k = P k := if_neg (by omega)
    rw [ek] at e1 l1
    have hf := hfit k (by omega)
    have := ih (k + 1) (u2 mi 167 k (nI (prd q (P k) p))) (by omega) (ho.trans ⟨fun o a1 a2 a3 a4 a5 a6 => u2_off a6, fun k _ _ => by rw [u2_off (by omega)]⟩) (fun j hj => by
      by_cases c : j = k
      · subst c
        rw [u2_at]
        unfold mulP
        rw [if_pos (by omega)]
        exact ⟨rfl, prd_lt13 h2 l1 hp.lt13 hf⟩
      · rw [u2_ne c]
        have h3 := hPk j hj
        unfold mulP at h3 ⊢
        by_cases c2 : j < k
        · rw [if_pos c2] at h3
          rw [if_pos (by omega)]
          exact h3
        · rw [if_neg c2] at h3
          rw [if_neg (by omega)]
          exact h3)
    apply b_X10_findParts_103
    rw [es]
    simp (disch := omega) only [s_le, s_lt, s_eq, s_eq0, s_in, s_ix, s_rm, s_div, s_pdlt, s_pdle, s_lepd, s_pdpd, s_pdlepd, s_pdadd, nI_add, pk_mul, pd_succ, Nat.not_lt_zero, Nat.zero_lt_succ, not_false_eq_true, not_true_eq_false, false_implies, true_implies, implies_true, and_true, true_and, Nat.reduceLT, Nat.reduceLeDiff, Nat.reduceAdd, Nat.reduceSub, Nat.zero_add, Nat.add_zero, e1]
    refine ⟨fun z => absurd z (by omega), fun _ => ⟨by omega, m_times hM.2.1.1 l1 hp.lt13 ?_⟩⟩
    rw [tms_fit h2 l1 hf]
    exact ⟨by omega, this⟩
theorem m_fp_spread (hN : NspOK) {i x p : Nat} {mi0 : Nat → Nat → Int32} (hM0 : Mw q m d n mi0) (h0 : Ma 155 A mi0) (hi : i < 10) (hl : Rmo n (amd A i)) (hp : Mn q p) (hp2 : 2 ≤ ln q 13 p) {P1 : Nat → Nat} (hK : ∀ mi1, offS mi0 mi1 → Prw q P1 mi1 → wp G e tM m_X10_findParts 27 [(0, .ref 154), (1, .int (nI i)), (2, .int (nI x))] [] (mi1, ml, RX RM) (QV K)) :
    ∀ (r w had many : Nat) (P : Nat → Nat) (mi : Nat → Nat → Int32), many ≤ 8 → had ≤ 8 → w < q ^ 13 → offS mi0 mi → Prw q P mi → mspw q m d (amd A i) p r w had many P = some P1 → wp G e tM m_X10_findParts 93 [(0, .ref 154), (1, .int (nI i)), (2, .int (nI x)), (3, .int (nI p)), (4, .int (nI (ln q 13 p - 1))), (5, .int (nI w)), (6, .int (nI had)), (7, .int (nI many))] [] (mi, ml, RX RM) (QV K) := by
  have w0 := hM0.1.1
  have h2 := w0.q2
  have hd7 := w0.d7
  have hl13 := ln_le q 13 p
  have h31 := pow_lt31 (M := 13) w0.hq (Nat.le_refl _)
  intro r
  induction r with
  | zero => intro w had many P mi _ _ _ _ _ hh; cases hh
  | succ r ih =>
    intro w had many P mi hm8 hh8 hw ho hP hh
    have hM := hM0.offS ho
    unfold mspw at hh
    apply b_X10_findParts_93
    simp (disch := omega) only [s_le, s_lt, s_eq, s_eq0, s_in, s_ix, s_rm, s_div, s_pdlt, s_pdle, s_lepd, s_pdpd, s_pdlepd, s_pdadd, nI_add, pk_mul, pd_succ, Nat.not_lt_zero, Nat.zero_lt_succ, not_false_eq_true, not_true_eq_false, false_implies, true_implies, implies_true, and_true, true_and, Nat.reduceLT, Nat.reduceLeDiff, Nat.reduceAdd, Nat.reduceSub, Nat.zero_add, Nat.add_zero]
    refine ⟨fun c => ?_, fun c => ?_⟩
    · rw [if_pos c] at hh
      have := Option.some.inj hh
      subst this
      exact hK mi ho hP
    · rw [if_neg c] at hh
      by_cases c2 : ∃ i, i < many - had ∧ 14 < ln q 13 (P i) + ln q 13 p
      · rw [if_pos c2] at hh
        cases hh
      · rw [if_neg c2] at hh
        refine m_fp_mul hM hp (by omega) hm8 hP (fun i hi => by
          apply Decidable.byContradiction
          intro z
          exact c2 ⟨i, hi, by omega⟩) (fun mi1 o1 hP1 => ?_) (many - had) 0 mi rfl (offS.refl _) (fun j hj => by
          have : mulP q p 0 P j = P j := if_neg (by omega)
          rw [this]
          exact hP j hj)
        have hM1 := hM.offS o1
        refine m_times hM1.2.1.1 hw hp.lt13 ?_
        cases ht : tms q w p with
        | none =>
          rw [ht] at hh
          have := Option.some.inj hh
          subst this
          have e0 : ¬ nI 0 ≤ oI none := by
            show ¬ nI 0 ≤ -(nI 1)
            decide
          refine ⟨fun z => absurd z e0, fun _ => ?_⟩
          apply b_X10_findParts_93
          simp (disch := omega) only [s_le, s_lt, s_eq, s_eq0, s_in, s_ix, s_rm, s_div, s_pdlt, s_pdle, s_lepd, s_pdpd, s_pdlepd, s_pdadd, nI_add, pk_mul, pd_succ, Nat.not_lt_zero, Nat.zero_lt_succ, not_false_eq_true, not_true_eq_false, false_implies, true_implies, implies_true, and_true, true_and, Nat.reduceLT, Nat.reduceLeDiff, Nat.reduceAdd, Nat.reduceSub, Nat.zero_add, Nat.add_zero, Nat.le_refl]
          exact hK mi1 (ho.trans o1) hP1
        | some w1 =>
          rw [ht] at hh
          dsimp only at hh
          have hw1 : w1 < q ^ 13 := by
            unfold tms at ht
            split at ht
            · have := Option.some.inj ht
              rw [← this]
              exact Nat.pow_pos (by omega)
            · split at ht
              · have := Option.some.inj ht
                rw [← this]
                exact prd_lt13 h2 hw hp.lt13 (by assumption)
              · cases ht
          show (nI 0 ≤ nI w1 → _) ∧ (¬ nI 0 ≤ nI w1 → _)
          have hnl := nsp_le q m d (amd A i) w1
          have hdv := Nat.div_le_self (nsp q m d (amd A i) w1) (ln q 13 p - 1)
          refine ⟨fun _ => ?_, fun z => absurd ((s_le (by omega) (by omega)).mpr (Nat.zero_le _)) z⟩
          refine m_nought hN hM1 ((h0.offS (Or.inl rfl) ho).offS (Or.inl rfl) o1) hi hl.1 hl.2.1 hw1 (fun mi2 o2 => ⟨?_, ?_⟩)
          · rw [s_eq0 (by omega)]
            omega
          · rw [s_div (by omega) (by omega) (by omega)]
            exact ih w1 many _ _ mi2 (by omega) hm8 hw1 ((ho.trans o1).trans o2.toS) (hP1.off (o2 167 (by omega))) hh
theorem m_findParts (hN : NspOK) (hPt : PtsOK) {i : Nat} {mi0 : Nat → Nat → Int32} (hM0 : Mw q m d n mi0) (h0 : Ma 155 A mi0) (hi : i < 10) (hl : Rmo n (amd A i)) (hMn : Mn q (pts q m d (amd A i))) {R : Nat → Nat} (hR : mfpa q m d (amd A i) = some R) (hK : ∀ mi1, offS mi0 mi1 → Prw q R mi1 → K mi1 ml) : wpV G e 168 m_X10_findParts [.ref 154, .int (nI i)] (mi0, ml, RX RM) K := by
  have w0 := hM0.1.1
  have h2 := w0.q2
  have hd7 := w0.d7
  have h31 := pow_lt31 (M := 13) w0.hq (Nat.le_refl _)
  have h113 : 1 < q ^ 13 := Nat.one_lt_pow (by omega) (by omega)
  have take : ∀ (p : Nat) (P1 : Nat → Nat) (X : Nat), Mn q p → 2 ≤ ln q 13 p → ∀ (r x : Nat) (P : Nat → Nat) (mi : Nat → Nat → Int32), Mn q x → ln q 13 x ≤ r + 1 → offS mi0 mi → Prw q P mi → tkl q p r x = X → mspw q m d (amd A i) p 9 p 0 (nsp q m d (amd A i) p / (ln q 13 p - 1)) P = some P1 → (Mn q X → ∀ mi1, offS mi0 mi1 → Prw q P1 mi1 → wp G e tM m_X10_findParts 27 [(0, .ref 154), (1, .int (nI i)), (2, .int (nI X))] [] (mi1, ml, RX RM) (QV K)) → wp G e tM m_X10_findParts 41 [(0, .ref 154), (1, .int (nI i)), (2, .int (nI x)), (3, .int (nI p))] [] (mi, ml, RX RM) (QV K) := by
    intro p P1 X hp hp2
    have hl13 := ln_le q 13 p
    have hnl := nsp_le q m d (amd A i) p
    have hdv := Nat.div_le_self (nsp q m d (amd A i) p) (ln q 13 p - 1)
    have fin : ∀ (x : Nat) (P : Nat → Nat) (mi : Nat → Nat → Int32), offS mi0 mi → Prw q P mi → mspw q m d (amd A i) p 9 p 0 (nsp q m d (amd A i) p / (ln q 13 p - 1)) P = some P1 → (∀ mi1, offS mi0 mi1 → Prw q P1 mi1 → wp G e tM m_X10_findParts 27 [(0, .ref 154), (1, .int (nI i)), (2, .int (nI x))] [] (mi1, ml, RX RM) (QV K)) → wpI G e 168 m_X10_degree [.ref 154, .int (nI p)] (mi, ml, (RX RM)) (fun r6 mi4 ml5 => (wpI G e 168 m_X10_nought [.ref 154, .int (nI i), .int (nI p)] (mi4, ml5, (RX RM)) (fun r9 mi7 ml8 => (¬ r6 = 0 ∧ wp G e tM m_X10_findParts 93 [(0, .ref 154), (1, .int (nI i)), (2, .int (nI x)), (3, .int (nI p)), (4, .int r6), (5, .int (nI p)), (6, .int (nI 0)), (7, .int (r9 / r6))] [] (mi7, ml8, (RX RM)) (QV K))))) := fun x P mi ho hP hs hk => by
      have hM := hM0.offS ho
      refine m_degree hM.2.1.1 hp.lt13 ?_
      refine m_nought hN hM (h0.offS (Or.inl rfl) ho) hi hl.1 hl.2.1 hp.lt13 (fun mi2 o2 => ⟨?_, ?_⟩)
      · rw [s_eq0 (by omega)]
        omega
      · rw [s_div (by omega) (by omega) (by omega)]
        exact m_fp_spread hN hM0 h0 hi hl hp hp2 hk 9 p 0 _ P mi2 (by omega) (by omega) hp.lt13 (ho.trans o2.toS) (hP.off (o2 167 (by omega))) hs
    intro r
    induction r with
    | zero =>
      intro x P mi hx hlx ho hP ht hs hk
      have ht : x = X := ht
      subst ht
      have hM := hM0.offS ho
      apply b_X10_findParts_41
      refine m_degree hM.2.1.1 hx.lt13 ?_
      rw [show ln q 13 x - 1 = 0 by omega]
      exact ⟨fun _ => fin x P mi ho hP hs (hk hx), fun z => absurd (by decide) z⟩
    | succ r ih =>
      intro x P mi hx hlx ho hP ht hs hk
      have hM := hM0.offS ho
      have hx13 := ln_le q 13 x
      unfold tkl at ht
      apply b_X10_findParts_41
      refine m_degree hM.2.1.1 hx.lt13 ?_
      rw [s_le (by omega) (by omega)]
      refine ⟨fun c => ?_, fun c => ?_⟩
      · rw [if_pos (by omega)] at ht
        subst ht
        exact fin x P mi ho hP hs (hk hx)
      · rw [if_neg (by omega)] at ht
        have hr13 := rst_lt h2 (b := p) hx.lt13
        refine m_rest hM.2.1.1 hx.lt13 hp.lt13 (hp.pos h2) (fun mi1 o1 => ?_)
        have o2 := ho.trans o1.toS
        have hM1 := hM0.offS o2
        have hP1 := hP.off (o1.1 167 (by omega))
        rw [s_eq (by omega) (by omega)]
        refine ⟨fun c2 => ?_, fun c2 => ?_⟩
        · rw [if_neg c2] at ht
          subst ht
          exact fin x P mi1 o2 hP1 hs (hk hx)
        · rw [if_pos c2] at ht
          have hlp : ln q 13 p ≤ ln q 13 x := by
            apply Decidable.byContradiction
            intro z
            rw [rst_short (by omega)] at c2
            have := hx.pos h2
            omega
          obtain ⟨q1, q2⟩ := quo_ln w0.hq hx hp hlp
          refine m_by hM1.2.1.1 hx.lt13 hp.lt13 (hp.pos h2) (fun mi2 o3 => ?_)
          exact ih (quo q x p) P mi2 q1 (by omega) (o2.trans o3.toS) (hP1.off (o3.1 167 (by omega))) ht hs hk
  have main : ∀ (r x : Nat) (P : Nat → Nat) (mi : Nat → Nat → Int32), Mn q x → offS mi0 mi → Prw q P mi → mfp q m d (amd A i) r x P = some R → wp G e tM m_X10_findParts 27 [(0, .ref 154), (1, .int (nI i)), (2, .int (nI x))] [] (mi, ml, RX RM) (QV K) := by
    intro r
    induction r with
    | zero => intro x P mi _ _ _ hh; cases hh
    | succ r ih =>
      intro x P mi hx ho hP hh
      have hM := hM0.offS ho
      have hx13 := ln_le q 13 x
      unfold mfp at hh
      apply b_X10_findParts_27
      refine m_degree hM.2.1.1 hx.lt13 ?_
      rw [s_le (by omega) (by omega)]
      refine ⟨fun c => ?_, fun c => ?_⟩
      · rw [if_pos (by omega)] at hh
        have := Option.some.inj hh
        subst this
        exact hK mi ho hP
      · rw [if_neg (by omega)] at hh
        obtain ⟨⟨f1, f2, f3⟩, -⟩ := lft_is h2 hx (by omega)
        refine m_leastFactor hM.2.1.1 hx.lt13 (fun mi1 o1 => ?_)
        cases hs : mspw q m d (amd A i) (lft q x) 9 (lft q x) 0 (nsp q m d (amd A i) (lft q x) / (ln q 13 (lft q x) - 1)) P with
        | none =>
          rw [hs] at hh
          cases hh
        | some P1 =>
          rw [hs] at hh
          dsimp only at hh
          exact take (lft q x) P1 (tkl q (lft q x) 13 x) f1 f2 13 x P mi1 hx (by omega) (ho.trans o1.toS) (hP.off (o1.1 167 (by omega))) rfl hs (fun hX mi2 o2 hP2 => ih _ P1 mi2 hX o2 hP2 hh)
  have clear : ∀ (r k : Nat) (mi : Nat → Nat → Int32), r + k = 8 → offS mi0 mi → (∀ j, j < k → mi 167 j = nI 1) → wp G e tM m_X10_findParts 2 [(0, .ref 154), (1, .int (nI i)), (2, .int (nI k))] [] (mi, ml, RX RM) (QV K) := by
    intro r
    induction r with
    | zero =>
      intro k mi hk ho hz
      have hk : k = 8 := by omega
      subst hk
      have hM := hM0.offS ho
      apply b_X10_findParts_2
      refine ⟨fun _ => ?_, fun z => absurd ((s_le (by omega) (by omega)).mpr (Nat.le_refl _)) z⟩
      refine m_points hM (h0.offS (Or.inl rfl) ho) hi hl.1 hl.2.1 (fun mi1 H o1 hH => ?_)
      rw [hPt q m d n _ H hM.1 hl.1 hH]
      exact main 9 _ (fun _ => 1) mi1 hMn (ho.trans o1.toS) (fun j hj => ⟨by rw [o1 167 (by omega) (by omega)]; exact hz j hj, h113⟩) hR
    | succ r ih =>
      intro k mi hk ho hz
      have := ih (k + 1) (u2 mi 167 k (nI 1)) (by omega) (ho.trans ⟨fun o a1 a2 a3 a4 a5 a6 => u2_off a6, fun k _ _ => by rw [u2_off (by omega)]⟩) (fun j hj => by
        by_cases c : j = k
        · subst c; rw [u2_at]
        · rw [u2_ne c]; exact hz j (by omega))
      apply b_X10_findParts_2
      simp (disch := omega) only [s_le, s_lt, s_eq, s_eq0, s_in, s_ix, s_rm, s_div, s_pdlt, s_pdle, s_lepd, s_pdpd, s_pdlepd, s_pdadd, nI_add, pk_mul, pd_succ, Nat.not_lt_zero, Nat.zero_lt_succ, not_false_eq_true, not_true_eq_false, false_implies, true_implies, implies_true, and_true, true_and, Nat.reduceLT, Nat.reduceLeDiff, Nat.reduceAdd, Nat.reduceSub, Nat.zero_add, Nat.add_zero]
      exact ⟨fun z => absurd z (by omega), fun _ => ⟨by omega, this⟩⟩
  apply e_X10_findParts
  exact clear 8 0 mi0 rfl (offS.refl _) (fun j hj => absurd hj (by omega))
end MPR
section MPR2
variable {G : GC} {e n q m d : Nat} {ml : Nat → Nat → Int64} {A : Ast} {K : Int32 → (Nat → Nat → Int32) → (Nat → Nat → Int64) → Prop}
theorem cnt_le (P : Nat → Nat) : ∀ r i, i ≤ cnt P r i ∧ cnt P r i ≤ i + r
  | 0, i => ⟨Nat.le_refl _, Nat.le_refl _⟩
  | r + 1, i => by
    unfold cnt
    split
    · omega
    · have := cnt_le P r (i + 1)
      omega
theorem m_parts (hN : NspOK) (hPt : PtsOK) (hPr : PrtOK) {s : Cst} {mi0 : Nat → Nat → Int32} (hs : A = cN s) (hM : Mw q m d n mi0) (hq : aq (cN s) = q) (hm : am (cN s) = m) (hd : dO (cN s) = d) (h : Ma 155 A mi0) (h10 : kc (aks A) 0 (adn A) ≤ 10) (hl : ∀ i, i < kc (aks A) 0 (adn A) → Rmo n (amd A i) ∧ Mn q (pts q m d (amd A i))) {v1 v2 : Int32} (hK : ∀ mi1, offS mi0 mi1 → K (fParts s v1 v2) mi1 ml) : wpI G e 168 m_X10_parts [.ref 154, .int v1, .int v2] (mi0, ml, RX RM) K := by
  subst hs
  have w0 := hM.1.1
  have h31 := pow_lt31 (M := 13) w0.hq (Nat.le_refl _)
  unfold fParts at hK
  rw [hq, hm, hd] at hK
  apply e_X10_parts
  refine m_isModule h h10 (fun i hi hv hlt => ⟨fun z => absurd z (by decide), fun _ => ⟨fun c => ?_, fun c => ?_⟩⟩) (fun hno => ⟨fun _ => ?_, fun z => absurd rfl z⟩)
  · rw [if_neg (fun z => z c), hi] at hK
    dsimp only at hK
    subst hv
    obtain ⟨hR, hMn⟩ := hl i hlt
    obtain ⟨R, R1, r1, r2, r3, r4⟩ := hPr q m d n (amd (cN s) i) hM.1 hR
    rw [r1] at hK
    dsimp only at hK
    refine m_findParts hN hPt hM h (by omega) hR hMn r2 (fun mi1 o1 hP => ?_)
    have hK1 := hK mi1 o1
    unfold fPartsR at hK1
    have ecnt : ∀ r k, k + r = 7 → cnt R1 (r + 1) k = cnt R r k := by
      intro r
      induction r with
      | zero =>
        intro k hk
        have hk : k = 7 := by omega
        subst hk
        unfold cnt
        rw [if_pos r4]
      | succ r ih =>
        intro k hk
        have h1 : cnt R1 (r + 1 + 1) k = if R1 k ≤ 1 then k else cnt R1 (r + 1) (k + 1) := rfl
        have h2 : cnt R (r + 1) k = if R k ≤ 1 then k else cnt R r (k + 1) := rfl
        rw [h1, h2, r3 k (by omega), ih (k + 1) (by omega)]
    have hc := ecnt 7 0 rfl
    have hc7 := (cnt_le R 7 0).2
    have hNv : (NONE : Int32).toInt = -1 := by decide
    have hcv : -1 ≤ v2.toInt := by
      rw [Int32.le_iff_toInt_le, hNv] at c
      exact c
    have fin : ∀ k, k = cnt R 7 0 → ((¬ v2 = NONE → (((nI k) ≤ v2 → K NONE mi1 ml) ∧ (¬ (nI k) ≤ v2 → (vp_in v2 8 ∧ K (mi1 167 (ix v2)) mi1 ml)))) ∧ (v2 = NONE → K (nI k) mi1 ml)) := fun k hk => by
      rw [← hk] at hK1
      refine ⟨fun z => ?_, fun z => ?_⟩
      · rw [if_neg z] at hK1
        have hne : v2.toInt ≠ -1 := fun y => z (Int32.toInt_inj.mp (by rw [y, hNv]))
        obtain ⟨j, j1, j2⟩ : ∃ j : Nat, v2 = nI j ∧ j < 2 ^ 31 := by
          have hlt := v2.toInt_lt
          refine ⟨v2.toInt.toNat, Int32.toInt_inj.mp ?_, by omega⟩
          rw [nI_toInt (by omega)]
          omega
        subst j1
        rw [asN_nI j2] at hK1
        rw [s_le (by omega) j2]
        refine ⟨fun y => ?_, fun y => ?_⟩
        · rw [if_neg (by omega)] at hK1
          exact hK1
        · rw [if_pos (by omega)] at hK1
          obtain ⟨p1, p2⟩ := hP j (by omega)
          rw [r3 j (by omega)] at p1
          rw [s_ix j2, p1, s_in j2]
          exact ⟨by omega, hK1⟩
      · rw [if_pos z] at hK1
        exact hK1
    have loop : ∀ (r k : Nat), k + r = 8 → cnt R1 r k = cnt R 7 0 → wp G e tM m_X10_parts 22 [(0, .ref 154), (2, .int v2), (3, .int (nI k))] [] (mi1, ml, RX RM) (QI K) := by
      intro r
      induction r with
      | zero =>
        intro k hk he
        have he : k = cnt R 7 0 := he
        apply b_X10_parts_22
        exact ⟨fun _ => fin k he, fun z => absurd ((s_le (by omega) (by omega)).mpr (by omega)) z⟩
      | succ r ih =>
        intro k hk he
        have h1 : cnt R1 (r + 1) k = if R1 k ≤ 1 then k else cnt R1 r (k + 1) := rfl
        rw [h1] at he
        obtain ⟨p1, p2⟩ := hP k (by omega)
        apply b_X10_parts_22
        rw [s_le (by omega) (by omega)]
        refine ⟨fun z => absurd z (by omega), fun _ => ⟨(by rw [s_in (by omega)]; omega), ?_⟩⟩
        rw [s_ix (by omega), p1, s_le (by omega) (by omega), nI_add]
        refine ⟨fun z => ?_, fun z => ?_⟩
        · rw [if_pos z] at he
          exact fin k he
        · rw [if_neg z] at he
          exact ih (k + 1) (by omega) he
    exact loop 8 0 rfl hc
  · rw [if_pos c] at hK
    exact hK mi0 (offS.refl _)
  · by_cases c : ¬ NONE ≤ v2
    · rw [if_pos c] at hK
      exact hK mi0 (offS.refl _)
    · rw [if_neg c, hno] at hK
      exact hK mi0 (offS.refl _)
end MPR2
