/-! class Reader: the descent over the machine -/
section RD5
variable {G : GC} {q m d n g c len nC : Nat} {tx : Nat → Nat} {w : Bool} {ml : Nat → Nat → Int64} {y : Nat → Nat → Option Nat}
/-- readOne at the depth D does what one says -/
def OkOne (G : GC) (e q m d n g c len nC : Nat) (tx : Nat → Nat) (w : Bool) (ml : Nat → Nat → Int64) (y : Nat → Nat → Option Nat) (D : Nat) (one : Nat → PS → Bool × PS) : Prop :=
  ∀ (t : Nat) (s : PS) (mi : Nat → Nat → Int32) (K : Int32 → (Nat → Nat → Int32) → (Nat → Nat → Int64) → Prop), t ≤ 2 * D + 2 → RE q m d n g c len tx w nC s mi →
    (∀ mi1, offR mi mi1 → RE q m d n g c len tx w nC (one t s).2 mi1 → K (nI (bi (one t s).1)) mi1 ml) → wpI G e 154 m_X4_readOne [.ref 73, .int (nI D), .int (nI t)] (mi, ml, RX y) K
theorem offR.trans {mi mi1 mi2 : Nat → Nat → Int32} (h : offR mi mi1) (h1 : offR mi1 mi2) : offR mi mi2 := fun o oo => by rw [h1 o oo, h o oo]
theorem RE.tok {mi : Nat → Nat → Int32} {s : PS} (h : RE q m d n g c len tx w nC s mi) : mi 73 8 = nI (sL s).1 ∧ (sL s).1 < 2 ^ 31 := ⟨h.2.2.1.2.2.2.1, by have := h.2.2.2.1.1; omega⟩
theorem RE.num {mi : Nat → Nat → Int32} {s : PS} (h : RE q m d n g c len tx w nC s mi) : mi 73 10 = nI (sL s).2.2.1 ∧ (sL s).2.2.1 < 2 ^ 31 := ⟨h.2.2.1.2.2.2.2.2, by have := h.2.2.2.1.2.2.1; omega⟩
theorem p_readPower {e D : Nat} (hD : D ≤ 8) {one : Nat → PS → Bool × PS} (ho : OkOne G e q m d n g c len nC tx w ml y D one) (hv : OV w n one) {t : Nat} (ht : t ≤ 2 * D + 2) {s : PS} {mi : Nat → Nat → Int32} (h : RE q m d n g c len tx w nC s mi) {K : Int32 → (Nat → Nat → Int32) → (Nat → Nat → Int64) → Prop}
    (hK : ∀ mi1, offR mi mi1 → RE q m d n g c len tx w nC (pPow w q m d tx len one t s).2 mi1 → K (nI (bi (pPow w q m d tx len one t s).1)) mi1 ml) : wpI G e 154 m_X4_readPower [.ref 73, .int (nI D), .int (nI t)] (mi, ml, RX y) K := by
  unfold pPow at hK
  apply e_X4_readPower
  refine ho t s mi _ ht h (fun mi1 ho1 h1 => ?_)
  by_cases c1 : (one t s).1 = true
  · rw [if_pos c1] at hK
    have hvr := hv t s c1
    rw [c1]
    generalize (one t s).2 = S1 at hK h1 hvr
    refine ⟨fun _ => ?_, fun z => absurd z (by decide)⟩
    unfold pPw2 at hK
    obtain ⟨t1, t2⟩ := h1.tok
    rw [t1]
    simp (disch := omega) only [s_le, s_lt, s_eq, s_eq0, s_in, s_ix, s_rm, s_div, s_pdlt, s_pdle, s_lepd, s_pdpd, s_pdlepd, s_pdadd, nI_add, pk_mul, pd_succ, Nat.not_lt_zero, Nat.zero_lt_succ, not_false_eq_true, not_true_eq_false, false_implies, true_implies, implies_true, and_true, true_and, Nat.reduceLT, Nat.reduceLeDiff, Nat.reduceAdd, Nat.reduceSub, Nat.zero_add, Nat.add_zero]
    refine ⟨fun z => ?_, fun z => ?_⟩
    · rw [if_pos z] at hK
      refine p_stepR h1 (fun mi2 ho2 h2 => ?_)
      obtain ⟨u1, u2⟩ := h2.tok
      obtain ⟨u3, u4⟩ := h2.num
      rw [u1, u3]
      simp (disch := omega) only [s_le, s_lt, s_eq, s_eq0, s_in, s_ix, s_rm, s_div, s_pdlt, s_pdle, s_lepd, s_pdpd, s_pdlepd, s_pdadd, nI_add, pk_mul, pd_succ, Nat.not_lt_zero, Nat.zero_lt_succ, not_false_eq_true, not_true_eq_false, false_implies, true_implies, implies_true, and_true, true_and, Nat.reduceLT, Nat.reduceLeDiff, Nat.reduceAdd, Nat.reduceSub, Nat.zero_add, Nat.add_zero]
      refine ⟨fun z2 => ?_, fun z2 => ?_⟩
      · rw [if_pos z2] at hK
        refine ⟨fun z3 => ?_, fun z3 => ?_⟩
        · rw [if_pos z3] at hK
          refine p_raise h2 (by omega) z3 (fun z4 => Vd_step (hvr.1 (by rw [← wk_step]; exact z4)).1) (fun mi3 ho3 h3 => p_stepR h3 (fun mi4 ho4 h4 => ⟨Or.inr rfl, ?_⟩))
          exact hK mi4 (((ho1.trans ho2).trans ho3).trans ho4) h4
        · rw [if_neg z3] at hK
          exact p_fail h2 (by decide) (fun mi3 ho3 h3 => ⟨Or.inl rfl, hK mi3 ((ho1.trans ho2).trans ho3) h3⟩)
      · rw [if_neg z2] at hK
        exact p_fail h2 (by decide) (fun mi3 ho3 h3 => ⟨Or.inl rfl, hK mi3 ((ho1.trans ho2).trans ho3) h3⟩)
    · rw [if_neg z] at hK
      exact ⟨Or.inr rfl, hK mi1 ho1 h1⟩
  · rw [if_neg c1] at hK
    rw [show bi (one t s).1 = 0 from if_neg c1]
    exact ⟨fun z => absurd rfl z, fun _ => ⟨Or.inl rfl, hK mi1 ho1 h1⟩⟩
theorem p_readProduct_loop {e D : Nat} (hD : D ≤ 8) {one : Nat → PS → Bool × PS} (ho : OkOne G e q m d n g c len nC tx w ml y D one) (hv : OV w n one) {t : Nat} (ht : t ≤ 2 * D + 1) (s0 : PS) (mi0 : Nat → Nat → Int32) (hw : Wd q m d n) {K : Int32 → (Nat → Nat → Int32) → (Nat → Nat → Int64) → Prop} :
    ∀ (f i : Nat) (s : PS) (mi : Nat → Nat → Int32), f + i = 300 → VR w n t s0 s → offR mi0 mi → RE q m d n g c len tx w nC s mi →
      (∀ mi1, offR mi0 mi1 → RE q m d n g c len tx w nC (pProL w q m d tx len one t f s).2 mi1 → K (nI (bi (pProL w q m d tx len one t f s).1)) mi1 ml) →
      wp G e tX m_X4_readProduct 13 [(0, .ref 73), (1, .int (nI D)), (2, .int (nI t)), (3, .int (nI i))] [] (mi, ml, RX y) (QI K) := by
  intro f
  induction f with
  | zero =>
    intro i s mi hf hs hof h hK
    apply b_X4_readProduct_13
    simp (disch := omega) only [s_le, s_lt, s_eq, s_eq0, s_in, s_ix, s_rm, s_div, s_pdlt, s_pdle, s_lepd, s_pdpd, s_pdlepd, s_pdadd, nI_add, pk_mul, pd_succ, Nat.not_lt_zero, Nat.zero_lt_succ, not_false_eq_true, not_true_eq_false, false_implies, true_implies, implies_true, and_true, true_and, Nat.reduceLT, Nat.reduceLeDiff, Nat.reduceAdd, Nat.reduceSub, Nat.zero_add, Nat.add_zero]
    exact ⟨fun _ => ⟨Or.inr rfl, hK mi hof h⟩, fun z => absurd (show 300 ≤ i by omega) z⟩
  | succ f ih =>
    intro i s mi hf hs hof h hK
    unfold pProL at hK
    obtain ⟨t1, t2⟩ := h.tok
    apply b_X4_readProduct_13
    rw [t1]
    simp (disch := omega) only [s_le, s_lt, s_eq, s_eq0, s_in, s_ix, s_rm, s_div, s_pdlt, s_pdle, s_lepd, s_pdpd, s_pdlepd, s_pdadd, nI_add, pk_mul, pd_succ, Nat.not_lt_zero, Nat.zero_lt_succ, not_false_eq_true, not_true_eq_false, false_implies, true_implies, implies_true, and_true, true_and, Nat.reduceLT, Nat.reduceLeDiff, Nat.reduceAdd, Nat.reduceSub, Nat.zero_add, Nat.add_zero]
    refine ⟨fun z => absurd z (by omega), fun _ => ⟨fun z => ?_, fun z => ?_⟩⟩
    · rw [if_neg z] at hK
      exact ⟨Or.inr rfl, hK mi hof h⟩
    · rw [if_pos z] at hK
      refine p_stepR h (fun mi1 ho1 h1 => ?_)
      refine p_readPower hD ho hv (show t + 1 ≤ 2 * D + 2 by omega) h1 (fun mi2 ho2 h2 => ?_)
      by_cases c2 : (pPow w q m d tx len one (t + 1) (stepS tx len s)).1 = true
      · rw [if_pos c2] at hK
        rw [c2]
        have hvp := pPow_OV (tx := tx) (len := len) hw hv (t + 1) (stepS tx len s) c2
        generalize (pPow w q m d tx len one (t + 1) (stepS tx len s)).2 = S2 at hK h2 hvp
        have hva : wk w S2 = true → Vd n S2 t ∧ Vd n S2 (t + 1) := fun z2 => ⟨fun k => by
          rw [hvp.2 t (by omega), sS_step]
          exact (hs.1 (by rw [← wk_step]; exact (hvp.1 z2).2)).1 k, (hvp.1 z2).1⟩
        refine ⟨fun _ => p_multiplyUp h2 (by omega) hva (fun mi3 ho3 h3 => ?_), fun z => absurd z (by decide)⟩
        refine ih (i + 1) _ mi3 (by omega) ?_ (((hof.trans ho1).trans ho2).trans ho3) h3 hK
        exact (mulS_VR hw hva).trans (u := 0) (fun z2 => (hs.1 (by rw [← wk_step]; exact (hvp.1 z2).2)).2) (fun j hj => by
          rw [hvp.2 j (by omega), sS_step]
          exact hs.2 j hj)
      · rw [if_neg c2] at hK
        rw [show bi (pPow w q m d tx len one (t + 1) (stepS tx len s)).1 = 0 from if_neg c2]
        exact ⟨fun z => absurd rfl z, fun _ => ⟨Or.inl rfl, hK mi2 ((hof.trans ho1).trans ho2) h2⟩⟩
theorem p_readProduct {e D : Nat} (hD : D ≤ 8) {one : Nat → PS → Bool × PS} (ho : OkOne G e q m d n g c len nC tx w ml y D one) (hv : OV w n one) {t : Nat} (ht : t ≤ 2 * D + 1) {s : PS} {mi : Nat → Nat → Int32} (h : RE q m d n g c len tx w nC s mi) {K : Int32 → (Nat → Nat → Int32) → (Nat → Nat → Int64) → Prop}
    (hK : ∀ mi1, offR mi mi1 → RE q m d n g c len tx w nC (pPro w q m d tx len one t s).2 mi1 → K (nI (bi (pPro w q m d tx len one t s).1)) mi1 ml) : wpI G e 154 m_X4_readProduct [.ref 73, .int (nI D), .int (nI t)] (mi, ml, RX y) K := by
  unfold pPro at hK
  have hw := h.1.w
  apply e_X4_readProduct
  refine p_readPower hD ho hv (show t ≤ 2 * D + 2 by omega) h (fun mi1 ho1 h1 => ?_)
  by_cases c1 : (pPow w q m d tx len one t s).1 = true
  · rw [if_pos c1] at hK
    rw [c1]
    have hvp := pPow_OV (tx := tx) (len := len) hw hv t s c1
    generalize (pPow w q m d tx len one t s).2 = S1 at hK h1 hvp
    refine ⟨fun _ => ?_, fun z => absurd z (by decide)⟩
    exact p_readProduct_loop hD ho hv ht s mi hw 300 0 S1 mi1 rfl hvp ho1 h1 hK
  · rw [if_neg c1] at hK
    rw [show bi (pPow w q m d tx len one t s).1 = 0 from if_neg c1]
    exact ⟨fun z => absurd rfl z, fun _ => ⟨Or.inl rfl, hK mi1 ho1 h1⟩⟩
theorem p_readSum_loop {e D : Nat} (hD : D ≤ 8) {one : Nat → PS → Bool × PS} (ho : OkOne G e q m d n g c len nC tx w ml y D one) (hv : OV w n one) {t : Nat} (ht : t ≤ 2 * D) (s0 : PS) (mi0 : Nat → Nat → Int32) (hw : Wd q m d n) {K : Int32 → (Nat → Nat → Int32) → (Nat → Nat → Int64) → Prop} :
    ∀ (f i : Nat) (s : PS) (mi : Nat → Nat → Int32), f + i = 300 → VR w n t s0 s → offR mi0 mi → RE q m d n g c len tx w nC s mi →
      (∀ mi1, offR mi0 mi1 → RE q m d n g c len tx w nC (pSumL w q m d tx len one t f s).2 mi1 → K (nI (bi (pSumL w q m d tx len one t f s).1)) mi1 ml) →
      wp G e tX m_X4_readSum 13 [(0, .ref 73), (1, .int (nI D)), (2, .int (nI t)), (3, .int (nI i))] [] (mi, ml, RX y) (QI K) := by
  intro f
  induction f with
  | zero =>
    intro i s mi hf hs hof h hK
    apply b_X4_readSum_13
    simp (disch := omega) only [s_le, s_lt, s_eq, s_eq0, s_in, s_ix, s_rm, s_div, s_pdlt, s_pdle, s_lepd, s_pdpd, s_pdlepd, s_pdadd, nI_add, pk_mul, pd_succ, Nat.not_lt_zero, Nat.zero_lt_succ, not_false_eq_true, not_true_eq_false, false_implies, true_implies, implies_true, and_true, true_and, Nat.reduceLT, Nat.reduceLeDiff, Nat.reduceAdd, Nat.reduceSub, Nat.zero_add, Nat.add_zero]
    exact ⟨fun _ => ⟨Or.inr rfl, hK mi hof h⟩, fun z => absurd (show 300 ≤ i by omega) z⟩
  | succ f ih =>
    intro i s mi hf hs hof h hK
    unfold pSumL at hK
    obtain ⟨t1, t2⟩ := h.tok
    have body : ∀ (less : Bool), (sL s).1 = 43 ∨ (sL s).1 = 45 → decide ((sL s).1 = 45) = less → (wpV G e 154 m_X4_step [.ref 73] (mi, ml, (RX y)) (fun mi1 ml2 => (wpI G e 154 m_X4_readProduct [.ref 73, .int (nI D), .int (nI (t + 1))] (mi1, ml2, (RX y)) (fun r5 mi3 ml4 => ((¬ r5 = (nI 0) → (wpV G e 154 m_X4_addUp [.ref 73, .int (nI t), .int (nI (bi less))] (mi3, ml4, (RX y)) (fun mi6 ml7 => wp G e tX m_X4_readSum 13 [(0, .ref 73), (1, .int (nI D)), (2, .int (nI t)), (3, .int (nI (i + 1)))] [] (mi6, ml7, (RX y)) (QI K)))) ∧ (r5 = (nI 0) → (isB (nI 0) ∧ K (nI 0) mi3 ml4))))))) := by
      intro less hor hl
      rw [if_pos hor, hl] at hK
      refine p_stepR h (fun mi1 ho1 h1 => ?_)
      refine p_readProduct hD ho hv (show t + 1 ≤ 2 * D + 1 by omega) h1 (fun mi2 ho2 h2 => ?_)
      by_cases c2 : (pPro w q m d tx len one (t + 1) (stepS tx len s)).1 = true
      · rw [if_pos c2] at hK
        rw [c2]
        have hvp := pPro_OV (tx := tx) (len := len) hw hv (t + 1) (stepS tx len s) c2
        generalize (pPro w q m d tx len one (t + 1) (stepS tx len s)).2 = S2 at hK h2 hvp
        have hva : wk w S2 = true → Vd n S2 t ∧ Vd n S2 (t + 1) := fun z2 => ⟨fun k => by
          rw [hvp.2 t (by omega), sS_step]
          exact (hs.1 (by rw [← wk_step]; exact (hvp.1 z2).2)).1 k, (hvp.1 z2).1⟩
        refine ⟨fun _ => p_addUp h2 (by omega) hva (fun mi3 ho3 h3 => ?_), fun z => absurd z (by decide)⟩
        refine ih (i + 1) _ mi3 (by omega) ?_ (((hof.trans ho1).trans ho2).trans ho3) h3 hK
        exact (addS_VR hw hva).trans (u := 0) (fun z2 => (hs.1 (by rw [← wk_step]; exact (hvp.1 z2).2)).2) (fun j hj => by
          rw [hvp.2 j (by omega), sS_step]
          exact hs.2 j hj)
      · rw [if_neg c2] at hK
        rw [show bi (pPro w q m d tx len one (t + 1) (stepS tx len s)).1 = 0 from if_neg c2]
        exact ⟨fun z => absurd rfl z, fun _ => ⟨Or.inl rfl, hK mi2 ((hof.trans ho1).trans ho2) h2⟩⟩
    apply b_X4_readSum_13
    rw [t1]
    simp (disch := omega) only [s_le, s_lt, s_eq, s_eq0, s_in, s_ix, s_rm, s_div, s_pdlt, s_pdle, s_lepd, s_pdpd, s_pdlepd, s_pdadd, nI_add, pk_mul, pd_succ, Nat.not_lt_zero, Nat.zero_lt_succ, not_false_eq_true, not_true_eq_false, false_implies, true_implies, implies_true, and_true, true_and, Nat.reduceLT, Nat.reduceLeDiff, Nat.reduceAdd, Nat.reduceSub, Nat.zero_add, Nat.add_zero]
    refine ⟨fun z => absurd z (by omega), fun _ => ⟨fun z => ⟨fun z2 => ?_, fun z2 => absurd z (by omega)⟩, fun z => ⟨fun z2 => ?_, fun z2 => ⟨fun z3 => absurd z2 z3, fun _ => ?_⟩⟩⟩⟩
    · exact body false (Or.inl z) (decide_eq_false z2)
    · rw [if_neg (by omega)] at hK
      exact ⟨Or.inr rfl, hK mi hof h⟩
    · exact body true (Or.inr z2) (decide_eq_true z2)
theorem p_readSum {e D : Nat} (hD : D ≤ 8) {one : Nat → PS → Bool × PS} (ho : OkOne G e q m d n g c len nC tx w ml y D one) (hv : OV w n one) {t : Nat} (ht : t ≤ 2 * D) {s : PS} {mi : Nat → Nat → Int32} (h : RE q m d n g c len tx w nC s mi) {K : Int32 → (Nat → Nat → Int32) → (Nat → Nat → Int64) → Prop}
    (hK : ∀ mi1, offR mi mi1 → RE q m d n g c len tx w nC (pSum w q m d tx len one t s).2 mi1 → K (nI (bi (pSum w q m d tx len one t s).1)) mi1 ml) : wpI G e 154 m_X4_readSum [.ref 73, .int (nI D), .int (nI t)] (mi, ml, RX y) K := by
  unfold pSum at hK
  have hw := h.1.w
  apply e_X4_readSum
  refine p_readProduct hD ho hv (show t ≤ 2 * D + 1 by omega) h (fun mi1 ho1 h1 => ?_)
  by_cases c1 : (pPro w q m d tx len one t s).1 = true
  · rw [if_pos c1] at hK
    rw [c1]
    have hvp := pPro_OV (tx := tx) (len := len) hw hv t s c1
    generalize (pPro w q m d tx len one t s).2 = S1 at hK h1 hvp
    refine ⟨fun _ => ?_, fun z => absurd z (by decide)⟩
    exact p_readSum_loop hD ho hv ht s mi hw 300 0 S1 mi1 rfl hvp ho1 h1 hK
  · rw [if_neg c1] at hK
    rw [show bi (pPro w q m d tx len one t s).1 = 0 from if_neg c1]
    exact ⟨fun z => absurd rfl z, fun _ => ⟨Or.inl rfl, hK mi1 ho1 h1⟩⟩
/-- readOne where nothing is opened -/
theorem p_leaf {e D : Nat} (hD : D ≤ 8) {t : Nat} (ht : t ≤ 2 * D + 2) {s : PS} {mi : Nat → Nat → Int32} (h : RE q m d n g c len tx w nC s mi) {K : Int32 → (Nat → Nat → Int32) → (Nat → Nat → Int64) → Prop} (h40 : (sL s).1 ≠ 40) (h45 : (sL s).1 ≠ 45)
    (hK : ∀ mi1, offR mi mi1 → RE q m d n g c len tx w nC (pLeaf w n tx len t s).2 mi1 → K (nI (bi (pLeaf w n tx len t s).1)) mi1 ml) : wpI G e 154 m_X4_readOne [.ref 73, .int (nI D), .int (nI t)] (mi, ml, RX y) K := by
  have hn2 := h.1.w.n2
  unfold pLeaf at hK
  obtain ⟨t1, t2⟩ := h.tok
  apply e_X4_readOne
  rw [t1]
  simp (disch := omega) only [s_le, s_lt, s_eq, s_eq0, s_in, s_ix, s_rm, s_div, s_pdlt, s_pdle, s_lepd, s_pdpd, s_pdlepd, s_pdadd, nI_add, pk_mul, pd_succ, Nat.not_lt_zero, Nat.zero_lt_succ, not_false_eq_true, not_true_eq_false, false_implies, true_implies, implies_true, and_true, true_and, Nat.reduceLT, Nat.reduceLeDiff, Nat.reduceAdd, Nat.reduceSub, Nat.zero_add, Nat.add_zero]
  refine ⟨fun z => ?_, fun z => ?_⟩
  · rw [if_neg z] at hK
    refine p_isWord h wT_ok ?_
    by_cases c1 : isw tx (sL s) wT = true
    · rw [if_pos c1] at hK ⊢
      refine ⟨fun z2 => absurd z2 (by decide), fun _ => ?_⟩
      refine p_put h (by omega) (by omega) (fun _ => by omega) (fun mi1 ho1 h1 => p_stepR h1 (fun mi2 ho2 h2 => ⟨Or.inr rfl, hK mi2 (ho1.trans ho2) h2⟩))
    · rw [if_neg c1] at hK ⊢
      refine ⟨fun _ => ⟨fun z2 => ?_, fun _ => ⟨fun z2 => ?_, fun _ => ?_⟩⟩, fun z2 => absurd rfl z2⟩
      · rw [t1, s_eq t2 (by omega)] at z2
        exact absurd z2 h40
      · rw [t1, s_eq t2 (by omega)] at z2
        exact absurd z2 h45
      · exact p_fail h (by decide) (fun mi1 ho1 h1 => ⟨Or.inl rfl, hK mi1 ho1 h1⟩)
  · rw [if_pos z] at hK
    refine p_readNumber h (by omega) (fun z2 mi1 ho1 h1 => ⟨Or.inl rfl, ?_⟩) (fun z2 mi1 ho1 h1 => ⟨Or.inr rfl, ?_⟩)
    · rw [if_neg (by omega)] at hK
      exact hK mi1 ho1 h1
    · rw [if_pos z2] at hK
      exact hK mi1 ho1 h1
end RD5
