/-! the reference: toSteps -/
section TST
variable {G : GC} {e q : Nat} {ml : Nat → Nat → Int64} {K : (Nat → Nat → Int32) → (Nat → Nat → Int64) → Prop}
theorem Mq.offB {mi mi1 : Nat → Nat → Int32} (h : Mq q mi) (ho : offB mi mi1) : Mq q mi1 := h.off (ho 155 (by omega))
theorem m_ts_rows {D c r : Nat} {M : TBt} (hD : D ≤ 24) (hr : r < D) (hc : c + 1 < D) {mi0 : Nat → Nat → Int32} (hK : ∀ mi1, offB mi0 mi1 → Mtb q D D (fun i j => M (tsw r (c + 1) i) j) mi1 → wp G e tM m_X10_toSteps 120 [(0, .ref 154), (1, .int (nI D)), (2, .int (nI c)), (3, .int (nI r)), (4, .int (nI 0))] [] (mi1, ml, RX RM) (QV K)) :
    ∀ (x k : Nat) (mi : Nat → Nat → Int32), x + k = D → offB mi0 mi → Mtb q D D (fun i j => if j < k then M (tsw r (c + 1) i) j else M i j) mi → wp G e tM m_X10_toSteps 49 [(0, .ref 154), (1, .int (nI D)), (2, .int (nI c)), (3, .int (nI r)), (4, .int (nI k))] [] (mi, ml, RX RM) (QV K) := by
  intro x
  induction x with
  | zero =>
    intro k mi hk ho hM
    have : k = D := by omega
    subst this
    have := hK mi ho (hM.ext (fun i j _ hj => (if_pos hj).symm))
    apply b_X10_toSteps_49
    simp (disch := omega) only [s_le, s_lt, s_eq, s_eq0, s_in, s_ix, s_rm, s_div, s_pdlt, s_pdle, s_lepd, s_pdpd, s_pdlepd, s_pdadd, nI_add, pk_mul, pd_succ, Nat.not_lt_zero, Nat.zero_lt_succ, not_false_eq_true, not_true_eq_false, false_implies, true_implies, implies_true, and_true, true_and, Nat.reduceLT, Nat.reduceLeDiff, Nat.reduceAdd, Nat.reduceSub, Nat.zero_add, Nat.add_zero, Nat.le_refl]
    exact this
  | succ x ih =>
    intro k mi hk ho hM
    obtain ⟨e1, l1⟩ := hM.2.2 r k hr (by omega)
    obtain ⟨e2, l2⟩ := hM.2.2 (c + 1) k hc (by omega)
    simp only [Nat.lt_irrefl, if_false] at e1 l1 e2 l2
    have hP := (hM.put hr (show k < D by omega) l2).put hc (show k < D by omega) l1
    have := ih (k + 1) _ (by omega) (ho.put.put) (hP.ext (fun i j _ _ => by
      unfold up2 tsw
      by_cases a : j = k
      · subst a
        simp only [Nat.lt_succ_self, if_true, and_true, Nat.lt_irrefl, if_false]
        by_cases b : i = c + 1
        · simp only [b, if_true]
          by_cases z : c + 1 = r
          · rw [if_pos z, z]
          · rw [if_neg z]
        · simp only [b, if_false]
          by_cases z : i = r
          · simp only [z, if_true]
          · simp only [z, if_false]
      · have b : (j < k + 1) = (j < k) := propext ⟨fun z => by omega, fun z => by omega⟩
        simp only [a, and_false, if_false, b]))
    apply b_X10_toSteps_49
    simp (disch := omega) only [s_le, s_lt, s_eq, s_eq0, s_in, s_ix, s_rm, s_div, s_pdlt, s_pdle, s_lepd, s_pdpd, s_pdlepd, s_pdadd, nI_add, pk_mul, pd_succ, Nat.not_lt_zero, Nat.zero_lt_succ, not_false_eq_true, not_true_eq_false, false_implies, true_implies, implies_true, and_true, true_and, Nat.reduceLT, Nat.reduceLeDiff, Nat.reduceAdd, Nat.reduceSub, Nat.zero_add, Nat.add_zero, e1, e2]
    exact ⟨fun z => absurd z (by omega), fun _ => ⟨by omega, by omega, by omega, by omega, this⟩⟩
theorem m_ts_cols {D c r : Nat} {M : TBt} (hD : D ≤ 24) (hr : r < D) (hc : c + 1 < D) {mi0 : Nat → Nat → Int32} (hq : Mq q mi0) (hnz : M (c + 1) c ≠ 0) (hrc : c < r) (hK : ∀ mi1, offB mi0 mi1 → Mtb q D D (fun i j => M i (tsw r (c + 1) j)) mi1 → wp G e tM m_X10_toSteps 212 [(0, .ref 154), (1, .int (nI D)), (2, .int (nI c)), (4, .int (nI (iv q (M (c + 1) c)))), (5, .int (nI (c + 2)))] [] (mi1, ml, RX RM) (QV K)) :
    ∀ (x k : Nat) (mi : Nat → Nat → Int32), x + k = D → offB mi0 mi → Mtb q D D (fun i j => if i < k then M i (tsw r (c + 1) j) else M i j) mi → wp G e tM m_X10_toSteps 120 [(0, .ref 154), (1, .int (nI D)), (2, .int (nI c)), (3, .int (nI r)), (4, .int (nI k))] [] (mi, ml, RX RM) (QV K) := by
  intro x
  induction x with
  | zero =>
    intro k mi hk ho hM
    have : k = D := by omega
    subst this
    have hM2 := hM.ext (M1 := fun i j => M i (tsw r (c + 1) j)) (fun i j hi _ => (if_pos hi).symm)
    obtain ⟨e1, l1⟩ := hM2.2.2 (c + 1) c hc (by omega)
    have ec : tsw r (c + 1) c = c := by unfold tsw; rw [if_neg (by omega), if_neg (by omega)]
    simp only [ec] at e1 l1
    have := hK mi ho hM2
    apply b_X10_toSteps_120
    simp (disch := omega) only [s_le, s_lt, s_eq, s_eq0, s_in, s_ix, s_rm, s_div, s_pdlt, s_pdle, s_lepd, s_pdpd, s_pdlepd, s_pdadd, nI_add, pk_mul, pd_succ, Nat.not_lt_zero, Nat.zero_lt_succ, not_false_eq_true, not_true_eq_false, false_implies, true_implies, implies_true, and_true, true_and, Nat.reduceLT, Nat.reduceLeDiff, Nat.reduceAdd, Nat.reduceSub, Nat.zero_add, Nat.add_zero, Nat.le_refl, e1]
    refine ⟨by omega, m_unit (hq.offB ho) l1 hnz this⟩
  | succ x ih =>
    intro k mi hk ho hM
    obtain ⟨e1, l1⟩ := hM.2.2 k r (by omega) hr
    obtain ⟨e2, l2⟩ := hM.2.2 k (c + 1) (by omega) hc
    simp only [Nat.lt_irrefl, if_false] at e1 l1 e2 l2
    rw [← Nat.add_assoc] at e2
    have hP := (hM.put (show k < D by omega) hr l2).put (show k < D by omega) hc l1
    rw [← Nat.add_assoc] at hP
    have := ih (k + 1) _ (by omega) (ho.put.put) (hP.ext (fun i j _ _ => by
      unfold up2 tsw
      by_cases a : i = k
      · subst a
        simp only [Nat.lt_succ_self, if_true, true_and, Nat.lt_irrefl, if_false]
        by_cases b : j = c + 1
        · simp only [b, if_true]
          by_cases z : c + 1 = r
          · rw [if_pos z, z]
          · rw [if_neg z]
        · simp only [b, if_false]
          by_cases z : j = r
          · simp only [z, if_true]
          · simp only [z, if_false]
      · have b : (i < k + 1) = (i < k) := propext ⟨fun z => by omega, fun z => by omega⟩
        simp only [a, false_and, if_false, b]))
    apply b_X10_toSteps_120
    simp (disch := omega) only [s_le, s_lt, s_eq, s_eq0, s_in, s_ix, s_rm, s_div, s_pdlt, s_pdle, s_lepd, s_pdpd, s_pdlepd, s_pdadd, nI_add, pk_mul, pd_succ, Nat.not_lt_zero, Nat.zero_lt_succ, not_false_eq_true, not_true_eq_false, false_implies, true_implies, implies_true, and_true, true_and, Nat.reduceLT, Nat.reduceLeDiff, Nat.reduceAdd, Nat.reduceSub, Nat.zero_add, Nat.add_zero, e1, e2]
    exact ⟨fun z => absurd z (by omega), fun _ => ⟨by omega, by omega, by omega, by omega, this⟩⟩
theorem m_ts_el1 {D c k t l : Nat} {M : TBt} (hD : D ≤ 24) (hk : k < D) (hc : c + 1 < D) (hkc : k ≠ c + 1) (ht : t < q) {mi0 : Nat → Nat → Int32} (hq : Mq q mi0) (hK : ∀ mi1, offB mi0 mi1 → Mtb q D D (elR q M (c + 1) k t) mi1 → wp G e tM m_X10_toSteps 326 [(0, .ref 154), (1, .int (nI D)), (2, .int (nI c)), (4, .int (nI l)), (5, .int (nI k)), (6, .int (nI t)), (7, .int (nI 0))] [] (mi1, ml, RX RM) (QV K)) :
    ∀ (x y : Nat) (mi : Nat → Nat → Int32), x + y = D → offB mi0 mi → Mtb q D D (fun i j => if j < y then elR q M (c + 1) k t i j else M i j) mi → wp G e tM m_X10_toSteps 253 [(0, .ref 154), (1, .int (nI D)), (2, .int (nI c)), (4, .int (nI l)), (5, .int (nI k)), (6, .int (nI t)), (7, .int (nI y))] [] (mi, ml, RX RM) (QV K) := by
  have h25 := hq.two
  intro x
  induction x with
  | zero =>
    intro y mi hy ho hM
    have : y = D := by omega
    subst this
    have := hK mi ho (hM.ext (fun i j _ hj => (if_pos hj).symm))
    apply b_X10_toSteps_253
    simp (disch := omega) only [s_le, s_lt, s_eq, s_eq0, s_in, s_ix, s_rm, s_div, s_pdlt, s_pdle, s_lepd, s_pdpd, s_pdlepd, s_pdadd, nI_add, pk_mul, pd_succ, Nat.not_lt_zero, Nat.zero_lt_succ, not_false_eq_true, not_true_eq_false, false_implies, true_implies, implies_true, and_true, true_and, Nat.reduceLT, Nat.reduceLeDiff, Nat.reduceAdd, Nat.reduceSub, Nat.zero_add, Nat.add_zero, Nat.le_refl]
    exact this
  | succ x ih =>
    intro y mi hy ho hM
    obtain ⟨e1, l1⟩ := hM.2.2 k y hk (by omega)
    obtain ⟨e2, l2⟩ := hM.2.2 (c + 1) y hc (by omega)
    simp only [Nat.lt_irrefl, if_false] at e1 l1 e2 l2
    have hb := (hq.offB ho).2
    have hmul : (q - t) * M (c + 1) y ≤ 5 * 5 := Nat.mul_le_mul (by omega) (by omega)
    have hP := hM.put hk (show y < D by omega) (Nat.mod_lt (M k y + (q - t) * M (c + 1) y) (show 0 < q by omega))
    have := ih (y + 1) _ (by omega) ho.put (hP.ext (fun i j _ _ => by
      unfold up2
      by_cases a : j = y
      · subst a
        simp only [Nat.lt_succ_self, if_true, and_true, Nat.lt_irrefl, if_false]
        unfold elR
        by_cases b : i = k
        · simp only [b, if_true]
        · simp only [b, if_false]
      · have b : (j < y + 1) = (j < y) := propext ⟨fun z => by omega, fun z => by omega⟩
        simp only [a, and_false, if_false, b]))
    apply b_X10_toSteps_253
    have es : nI q - nI t = nI (q - t) := s_sub (by omega)
    simp (disch := omega) only [s_le, s_lt, s_eq, s_eq0, s_in, s_ix, s_rm, s_div, s_pdlt, s_pdle, s_lepd, s_pdpd, s_pdlepd, s_pdadd, nI_add, pk_mul, pd_succ, Nat.not_lt_zero, Nat.zero_lt_succ, not_false_eq_true, not_true_eq_false, false_implies, true_implies, implies_true, and_true, true_and, Nat.reduceLT, Nat.reduceLeDiff, Nat.reduceAdd, Nat.reduceSub, Nat.zero_add, Nat.add_zero, e1, e2, hb, es]
    exact ⟨fun z => absurd z (by omega), fun _ => ⟨by omega, by omega, by omega, by omega, this⟩⟩
theorem m_ts_el2 {D c k t l : Nat} {M : TBt} (hD : D ≤ 24) (hk : k < D) (hc : c + 1 < D) (hkc : k ≠ c + 1) (ht : t < q) {mi0 : Nat → Nat → Int32} (hq : Mq q mi0) (hK : ∀ mi1, offB mi0 mi1 → Mtb q D D (elC q M (c + 1) k t) mi1 → wp G e tM m_X10_toSteps 212 [(0, .ref 154), (1, .int (nI D)), (2, .int (nI c)), (4, .int (nI l)), (5, .int (nI (k + 1)))] [] (mi1, ml, RX RM) (QV K)) :
    ∀ (x y : Nat) (mi : Nat → Nat → Int32), x + y = D → offB mi0 mi → Mtb q D D (fun i j => if i < y then elC q M (c + 1) k t i j else M i j) mi → wp G e tM m_X10_toSteps 326 [(0, .ref 154), (1, .int (nI D)), (2, .int (nI c)), (4, .int (nI l)), (5, .int (nI k)), (6, .int (nI t)), (7, .int (nI y))] [] (mi, ml, RX RM) (QV K) := by
  have h25 := hq.two
  intro x
  induction x with
  | zero =>
    intro y mi hy ho hM
    have : y = D := by omega
    subst this
    have := hK mi ho (hM.ext (fun i j hi _ => (if_pos hi).symm))
    apply b_X10_toSteps_326
    simp (disch := omega) only [s_le, s_lt, s_eq, s_eq0, s_in, s_ix, s_rm, s_div, s_pdlt, s_pdle, s_lepd, s_pdpd, s_pdlepd, s_pdadd, nI_add, pk_mul, pd_succ, Nat.not_lt_zero, Nat.zero_lt_succ, not_false_eq_true, not_true_eq_false, false_implies, true_implies, implies_true, and_true, true_and, Nat.reduceLT, Nat.reduceLeDiff, Nat.reduceAdd, Nat.reduceSub, Nat.zero_add, Nat.add_zero, Nat.le_refl]
    exact this
  | succ x ih =>
    intro y mi hy ho hM
    obtain ⟨e1, l1⟩ := hM.2.2 y k (by omega) hk
    obtain ⟨e2, l2⟩ := hM.2.2 y (c + 1) (by omega) hc
    simp only [Nat.lt_irrefl, if_false] at e1 l1 e2 l2
    rw [← Nat.add_assoc] at e2
    have hb := (hq.offB ho).2
    have hmul : t * M y k ≤ 5 * 5 := Nat.mul_le_mul (by omega) (by omega)
    have hP := hM.put (show y < D by omega) hc (Nat.mod_lt (M y (c + 1) + t * M y k) (show 0 < q by omega))
    rw [← Nat.add_assoc] at hP
    have := ih (y + 1) _ (by omega) ho.put (hP.ext (fun i j _ _ => by
      unfold up2
      by_cases a : i = y
      · subst a
        simp only [Nat.lt_succ_self, if_true, true_and, Nat.lt_irrefl, if_false]
        unfold elC
        by_cases b : j = c + 1
        · simp only [b, if_true]
        · simp only [b, if_false]
      · have b : (i < y + 1) = (i < y) := propext ⟨fun z => by omega, fun z => by omega⟩
        simp only [a, false_and, if_false, b]))
    apply b_X10_toSteps_326
    simp (disch := omega) only [s_le, s_lt, s_eq, s_eq0, s_in, s_ix, s_rm, s_div, s_pdlt, s_pdle, s_lepd, s_pdpd, s_pdlepd, s_pdadd, nI_add, pk_mul, pd_succ, Nat.not_lt_zero, Nat.zero_lt_succ, not_false_eq_true, not_true_eq_false, false_implies, true_implies, implies_true, and_true, true_and, Nat.reduceLT, Nat.reduceLeDiff, Nat.reduceAdd, Nat.reduceSub, Nat.zero_add, Nat.add_zero, e1, e2, hb]
    exact ⟨fun z => absurd z (by omega), fun _ => ⟨by omega, by omega, by omega, by omega, this⟩⟩
/-- what toSteps keeps: D figures, f of it -/
def Ste (q n D : Nat) (f : Nat → Nat) (M : TBt) (c : Nat) : Prop := (∃ b, Bss q n D f M b) ∧ ∀ i j, i < D → j < c → j + 1 < i → M i j = 0
theorem fig_0 {v l x : Nat} (hq : q = 2 ∨ q = 3 ∨ q = 5) (h1 : v * l % q = 1) (hx : x < q) (h : x * l % q = 0) : x = 0 := by
  have e : x * (v * l) % q = x := by
    rw [Nat.mul_mod, h1, Nat.mul_one, Nat.mod_mod, Nat.mod_eq_of_lt hx]
  rw [← e, Nat.mul_left_comm, Nat.mul_mod, h, Nat.mul_zero, Nat.zero_mod]
theorem m_ts_k {n D c v m d : Nat} {f : Nat → Nat} (w : Wd q m d n) (hf : Ln q n f) (hD : D ≤ 24) (hc : c + 2 < D) (hv : v < q) (hv0 : v ≠ 0) {mi0 : Nat → Nat → Int32} (hq : Mq q mi0)
    (hK : ∀ mi1 M, offB mi0 mi1 → Mtb q D D M mi1 → Ste q n D f M (c + 1) → wp G e tM m_X10_toSteps 2 [(0, .ref 154), (1, .int (nI D)), (2, .int (nI (c + 1)))] [] (mi1, ml, RX RM) (QV K)) :
    ∀ (x k : Nat) (M : TBt) (mi : Nat → Nat → Int32), x + k = D → c + 2 ≤ k → offB mi0 mi → Mtb q D D M mi → Ste q n D f M c → M (c + 1) c = v → (∀ i, c + 2 ≤ i → i < k → M i c = 0) → wp G e tM m_X10_toSteps 212 [(0, .ref 154), (1, .int (nI D)), (2, .int (nI c)), (4, .int (nI (iv q v))), (5, .int (nI k))] [] (mi, ml, RX RM) (QV K) := by
  have h25 := hq.two
  have hl := iv_lt hq.1 hv
  have hm := iv_mul hq.1 hv hv0
  intro x
  induction x with
  | zero =>
    intro k M mi hk _ ho hM hS hvc hz
    have : k = D := by omega
    subst this
    have := hK mi M ho hM ⟨hS.1, fun i j hi hj hij => by
      by_cases a : j = c
      · subst a; exact hz i (by omega) hi
      · exact hS.2 i j hi (by omega) hij⟩
    apply b_X10_toSteps_212
    simp (disch := omega) only [s_le, s_lt, s_eq, s_eq0, s_in, s_ix, s_rm, s_div, s_pdlt, s_pdle, s_lepd, s_pdpd, s_pdlepd, s_pdadd, nI_add, pk_mul, pd_succ, Nat.not_lt_zero, Nat.zero_lt_succ, not_false_eq_true, not_true_eq_false, false_implies, true_implies, implies_true, and_true, true_and, Nat.reduceLT, Nat.reduceLeDiff, Nat.reduceAdd, Nat.reduceSub, Nat.zero_add, Nat.add_zero, Nat.le_refl]
    exact this
  | succ x ih =>
    intro k M mi hk hck ho hM hS hvc hz
    obtain ⟨e1, l1⟩ := hM.2.2 k c (by omega) (by omega)
    have hb := (hq.offB ho).2
    have hmul : M k c * iv q v ≤ 5 * 5 := Nat.mul_le_mul (by omega) (by omega)
    have ht : M k c * iv q v % q < q := Nat.mod_lt _ (by omega)
    apply b_X10_toSteps_212
    simp (disch := omega) only [s_le, s_lt, s_eq, s_eq0, s_in, s_ix, s_rm, s_div, s_pdlt, s_pdle, s_lepd, s_pdpd, s_pdlepd, s_pdadd, nI_add, pk_mul, pd_succ, Nat.not_lt_zero, Nat.zero_lt_succ, not_false_eq_true, not_true_eq_false, false_implies, true_implies, implies_true, and_true, true_and, Nat.reduceLT, Nat.reduceLeDiff, Nat.reduceAdd, Nat.reduceSub, Nat.zero_add, Nat.add_zero, e1, hb]
    refine ⟨fun z => absurd z (by omega), fun _ => ⟨by omega, by omega, fun z => ?_, fun z => ?_⟩⟩
    · have := m_ts_el1 (G := G) (e := e) (q := q) (ml := ml) (K := K) (D := D) (c := c) (k := k) (t := M k c * iv q v % q) (l := iv q v) (M := M) hD (by omega) (by omega) (by omega) ht (hq.offB ho) (fun mi1 o1 M1 => by
        refine m_ts_el2 (D := D) (c := c) (k := k) (t := M k c * iv q v % q) (l := iv q v) (M := elR q M (c + 1) k (M k c * iv q v % q)) hD (by omega) (by omega) (by omega) ht ((hq.offB ho).offB o1) (fun mi2 o2 M2 => ?_) D 0 mi1 rfl (fun _ _ => rfl) (M1.ext (fun i j _ _ => if_neg (by omega)))
        refine ih (k + 1) _ mi2 (by omega) (by omega) ((ho.trans o1).trans o2) M2 ?_ ?_ ?_
        · obtain ⟨b, hb⟩ := hS.1
          refine ⟨⟨_, hb.el w hf (s := c + 1) (k := k) (t := M k c * iv q v % q) (by omega) (by omega) (by omega) (Nat.le_of_lt ht)⟩, fun i j hi hj hij => ?_⟩
          unfold elC elR
          rw [if_neg (by omega)]
          by_cases a : i = k
          · rw [if_pos a, hS.2 k j (by omega) hj (by omega), hS.2 (c + 1) j (by omega) hj (by omega), Nat.mul_zero, Nat.zero_mod]
          · rw [if_neg a]
            exact hS.2 i j hi hj hij
        · unfold elC elR
          rw [if_neg (by omega), if_neg (by omega)]
          exact hvc
        · intro i h1 h2
          unfold elC elR
          rw [if_neg (by omega)]
          by_cases a : i = k
          · rw [if_pos a, hvc]
            have := top_gone hq.1 l1 hv hl hm
            rw [Nat.mod_eq_of_lt (show q - M k c * iv q v % q < q by omega)] at this
            exact this
          · rw [if_neg a]
            exact hz i h1 (by omega)) D 0 mi rfl (fun _ _ => rfl) (hM.ext (fun i j _ _ => if_neg (by omega)))
      exact this
    · have e0 : M k c = 0 := fig_0 hq.1 hm l1 z
      exact ih (k + 1) M mi (by omega) (by omega) ho hM hS hvc (fun i h1 h2 => by
        by_cases a : i = k
        · rw [a]; exact e0
        · exact hz i h1 (by omega))
theorem m_ts_r {n D c m d : Nat} {f : Nat → Nat} (w : Wd q m d n) (hf : Ln q n f) (hD : D ≤ 24) (hc : c + 2 < D) {mi0 : Nat → Nat → Int32} (hq : Mq q mi0) {M : TBt} {mi : Nat → Nat → Int32} (ho : offB mi0 mi) (hM : Mtb q D D M mi) (hS : Ste q n D f M c)
    (hK : ∀ mi1 M, offB mi0 mi1 → Mtb q D D M mi1 → Ste q n D f M (c + 1) → wp G e tM m_X10_toSteps 2 [(0, .ref 154), (1, .int (nI D)), (2, .int (nI (c + 1)))] [] (mi1, ml, RX RM) (QV K)) :
    ∀ (x r : Nat), x + r = D → c + 1 ≤ r → (∀ i, c + 1 ≤ i → i < r → M i c = 0) → wp G e tM m_X10_toSteps 13 [(0, .ref 154), (1, .int (nI D)), (2, .int (nI c)), (3, .int (nI r))] [] (mi, ml, RX RM) (QV K) := by
  have h25 := hq.two
  intro x
  induction x with
  | zero =>
    intro r hr _ hz
    have : r = D := by omega
    subst this
    have := hK mi M ho hM ⟨hS.1, fun i j hi hj hij => by
      by_cases a : j = c
      · subst a; exact hz i (by omega) hi
      · exact hS.2 i j hi (by omega) hij⟩
    apply b_X10_toSteps_13
    simp (disch := omega) only [s_le, s_lt, s_eq, s_eq0, s_in, s_ix, s_rm, s_div, s_pdlt, s_pdle, s_lepd, s_pdpd, s_pdlepd, s_pdadd, nI_add, pk_mul, pd_succ, Nat.not_lt_zero, Nat.zero_lt_succ, not_false_eq_true, not_true_eq_false, false_implies, true_implies, implies_true, and_true, true_and, Nat.reduceLT, Nat.reduceLeDiff, Nat.reduceAdd, Nat.reduceSub, Nat.zero_add, Nat.add_zero, Nat.le_refl]
    exact this
  | succ x ih =>
    intro r hr hcr hz
    obtain ⟨e1, l1⟩ := hM.2.2 r c (by omega) (by omega)
    apply b_X10_toSteps_13
    simp (disch := omega) only [s_le, s_lt, s_eq, s_eq0, s_in, s_ix, s_rm, s_div, s_pdlt, s_pdle, s_lepd, s_pdpd, s_pdlepd, s_pdadd, nI_add, pk_mul, pd_succ, Nat.not_lt_zero, Nat.zero_lt_succ, not_false_eq_true, not_true_eq_false, false_implies, true_implies, implies_true, and_true, true_and, Nat.reduceLT, Nat.reduceLeDiff, Nat.reduceAdd, Nat.reduceSub, Nat.zero_add, Nat.add_zero, e1]
    refine ⟨fun z => absurd z (by omega), fun _ => ⟨by omega, fun z => ⟨fun _ => ?_, fun z2 => absurd z2 (by omega)⟩, fun z => ?_⟩⟩
    · have ec : tsw r (c + 1) (c + 1) = r := by
        unfold tsw
        by_cases a : c + 1 = r
        · rw [if_pos a]; exact a
        · rw [if_neg a, if_pos rfl]
      have ec2 : tsw r (c + 1) c = c := by unfold tsw; rw [if_neg (by omega), if_neg (by omega)]
      refine m_ts_rows (M := M) hD (by omega) (by omega) (mi0 := mi) (fun mi1 o1 M1 => ?_) D 0 mi rfl (fun _ _ => rfl) (hM.ext (fun i j _ _ => if_neg (by omega)))
      have hnz : (fun i j => M (tsw r (c + 1) i) j) (c + 1) c ≠ 0 := by
        show M (tsw r (c + 1) (c + 1)) c ≠ 0
        rw [ec]
        exact z
      refine m_ts_cols (M := fun i j => M (tsw r (c + 1) i) j) hD (by omega) (by omega) (mi0 := mi1) ((hq.offB ho).offB o1) hnz (by omega) (fun mi2 o2 M2 => ?_) D 0 mi1 rfl (fun _ _ => rfl) (M1.ext (fun i j _ _ => if_neg (by omega)))
      have ev : M (tsw r (c + 1) (c + 1)) c = M r c := by rw [ec]
      show wp G e tM m_X10_toSteps 212 [(0, .ref 154), (1, .int (nI D)), (2, .int (nI c)), (4, .int (nI (iv q (M (tsw r (c + 1) (c + 1)) c)))), (5, .int (nI (c + 2)))] [] (mi2, ml, RX RM) (QV K)
      rw [ev]
      refine m_ts_k w hf hD hc l1 z hq hK (D - (c + 2)) (c + 2) (swH M r (c + 1)) mi2 (by omega) (Nat.le_refl _) ((ho.trans o1).trans o2) M2 ?_ ?_ (fun i h1 h2 => absurd h1 (by omega))
      · obtain ⟨b, hb⟩ := hS.1
        refine ⟨⟨_, hb.sw w (r := r) (s := c + 1) (by omega) (by omega)⟩, fun i j hi hj hij => ?_⟩
        unfold swH
        have ej : tsw r (c + 1) j = j := by unfold tsw; rw [if_neg (by omega), if_neg (by omega)]
        rw [ej]
        refine hS.2 _ j (tsw_lt (by omega) (by omega) hi) hj ?_
        unfold tsw
        split
        · omega
        · split <;> omega
      · unfold swH
        rw [ec, ec2]
    · exact ih (r + 1) (by omega) (by omega) (fun i h1 h2 => by
        by_cases a : i = r
        · rw [a]; exact z
        · exact hz i h1 (by omega))
theorem m_toSteps {n D m d : Nat} {f : Nat → Nat} (w : Wd q m d n) (hf : Ln q n f) (hD : D ≤ 24) {mi0 : Nat → Nat → Int32} (hq : Mq q mi0) {M : TBt} (hM : Mtb q D D M mi0) (hS : Ste q n D f M 0) (hK : ∀ mi1 M, offB mi0 mi1 → Mtb q D D M mi1 → Ste q n D f M D → K mi1 ml) : wpV G e 168 m_X10_toSteps [.ref 154, .int (nI D)] (mi0, ml, RX RM) K := by
  have loop : ∀ (x c : Nat) (M : TBt) (mi : Nat → Nat → Int32), x + c = D → offB mi0 mi → Mtb q D D M mi → Ste q n D f M c → wp G e tM m_X10_toSteps 2 [(0, .ref 154), (1, .int (nI D)), (2, .int (nI c))] [] (mi, ml, RX RM) (QV K) := by
    intro x
    induction x with
    | zero =>
      intro c M mi hx ho hM hS
      have : c = D := by omega
      subst this
      apply b_X10_toSteps_2
      simp (disch := omega) only [s_le, s_lt, s_eq, s_eq0, s_in, s_ix, s_rm, s_div, s_pdlt, s_pdle, s_lepd, s_pdpd, s_pdlepd, s_pdadd, nI_add, pk_mul, pd_succ, Nat.not_lt_zero, Nat.zero_lt_succ, not_false_eq_true, not_true_eq_false, false_implies, true_implies, implies_true, and_true, true_and, Nat.reduceLT, Nat.reduceLeDiff, Nat.reduceAdd, Nat.reduceSub, Nat.zero_add, Nat.add_zero]
      exact ⟨fun _ => hK mi M ho hM hS, fun z => absurd z (by omega)⟩
    | succ x ih =>
      intro c M mi hx ho hM hS
      apply b_X10_toSteps_2
      simp (disch := omega) only [s_le, s_lt, s_eq, s_eq0, s_in, s_ix, s_rm, s_div, s_pdlt, s_pdle, s_lepd, s_pdpd, s_pdlepd, s_pdadd, nI_add, pk_mul, pd_succ, Nat.not_lt_zero, Nat.zero_lt_succ, not_false_eq_true, not_true_eq_false, false_implies, true_implies, implies_true, and_true, true_and, Nat.reduceLT, Nat.reduceLeDiff, Nat.reduceAdd, Nat.reduceSub, Nat.zero_add, Nat.add_zero]
      refine ⟨fun z => hK mi M ho hM ⟨hS.1, fun i j hi hj hij => hS.2 i j hi (by omega) hij⟩, fun z => ?_⟩
      exact m_ts_r w hf hD (by omega) hq ho hM hS (fun mi1 M1 o1 h1 s1 => ih (c + 1) M1 mi1 (by omega) o1 h1 s1) (D - (c + 1)) (c + 1) (by omega) (Nat.le_refl _) (fun i h1 h2 => absurd h1 (by omega))
  apply e_X10_toSteps
  exact loop D 0 M mi0 rfl (fun _ _ => rfl) hM hS
end TST
