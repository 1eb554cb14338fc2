/-! the reference: rankOf, nought -/
def rzo (q C : Nat) (v c : Nat → Nat) : Prop := sg (fun j => v j * c j) C % q = 0
/-- n rows of steps, the columns below c done; what the table sends to 0 is the same -/
def Rki (q R C : Nat) (M0 : TBt) (n c : Nat) (M : TBt) : Prop := (∀ x : Nat → Nat, (∀ i, i < R → rzo q C (M i) x) ↔ (∀ i, i < R → rzo q C (M0 i) x)) ∧ (∃ p : Nat → Nat, (∀ i, i < n → p i < c ∧ M i (p i) ≠ 0 ∧ ∀ j, j < p i → M i j = 0) ∧ ∀ i, i + 1 < n → p i < p (i + 1)) ∧ ∀ i j, n ≤ i → i < R → j < c → M i j = 0
def RkOf (q R C : Nat) (M0 : TBt) (n : Nat) : Prop := n ≤ R ∧ ∃ M, Rki q R C M0 n C M ∧ ∀ i j, i < R → j < C → M i j < q
theorem rzo_el {q C t : Nat} {M : TBt} {s k : Nat} {x : Nat → Nat} (h : rzo q C (M s) x) : rzo q C (elR q M s k t k) x ↔ rzo q C (M k) x := by
  unfold rzo at *
  have e : (fun j => elR q M s k t k j * x j) = fun j => (M k j + (q - t) * M s j) % q * x j := funext fun j => by
    unfold elR
    rw [if_pos rfl]
  rw [e, sg_lin, Nat.add_mod, Nat.mul_mod, h, Nat.mul_zero, Nat.zero_mod, Nat.add_zero, Nat.mod_mod]
theorem Rki.el {q R C n c k t : Nat} {M0 M : TBt} (h : Rki q R C M0 n c M) (hn : n < R) (hk : k < R) (hnk : n < k) : Rki q R C M0 n c (elR q M n k t) := by
  obtain ⟨h1, ⟨p, p1, p2⟩, h3⟩ := h
  refine ⟨fun x => ?_, ⟨p, fun i hi => ?_, p2⟩, fun i j hi hR hj => ?_⟩
  · rw [← h1 x]
    refine ⟨fun z i hi => ?_, fun z i hi => ?_⟩
    · have zn : rzo q C (M n) x := by
        have := z n hn
        have e : elR q M n k t n = M n := funext fun j => if_neg (by omega)
        rw [e] at this
        exact this
      by_cases a : i = k
      · subst a
        exact (rzo_el zn).mp (z i hi)
      · have := z i hi
        have e : elR q M n k t i = M i := funext fun j => if_neg a
        rw [e] at this
        exact this
    · by_cases a : i = k
      · subst a
        exact (rzo_el (z n hn)).mpr (z i hi)
      · have e : elR q M n k t i = M i := funext fun j => if_neg a
        rw [e]
        exact z i hi
  · unfold elR
    rw [if_neg (by omega)]
    refine ⟨(p1 i hi).1, (p1 i hi).2.1, fun j hj => ?_⟩
    rw [if_neg (by omega)]
    exact (p1 i hi).2.2 j hj
  · unfold elR
    split
    · rw [h3 k j (by omega) hk hj, h3 n j (Nat.le_refl _) hn hj, Nat.mul_zero, Nat.zero_mod]
    · exact h3 i j hi hR hj
theorem Rki.sw {q R C n c r : Nat} {M0 M : TBt} (h : Rki q R C M0 n c M) (hn : n < R) (hr : r < R) (hnr : n ≤ r) : Rki q R C M0 n c (fun i j => M (tsw r n i) j) := by
  obtain ⟨h1, ⟨p, p1, p2⟩, h3⟩ := h
  refine ⟨fun x => ?_, ⟨p, fun i hi => ?_, p2⟩, fun i j hi hR hj => ?_⟩
  · rw [← h1 x]
    refine ⟨fun z i hi => ?_, fun z i hi => z _ (tsw_lt hr hn hi)⟩
    have := z (tsw r n i) (tsw_lt hr hn hi)
    simp only [tsw_tsw] at this
    exact this
  · have e : tsw r n i = i := by unfold tsw; rw [if_neg (by omega), if_neg (by omega)]
    have := p1 i hi
    refine ⟨this.1, ?_, fun j hj => ?_⟩
    · show M (tsw r n i) (p i) ≠ 0
      rw [e]
      exact this.2.1
    · show M (tsw r n i) j = 0
      rw [e]
      exact this.2.2 j hj
  · refine h3 _ j ?_ (tsw_lt hr hn hR) hj
    unfold tsw
    split
    · omega
    · split <;> omega
section MRK
variable {G : GC} {e q : Nat} {ml : Nat → Nat → Int64} {K : Int32 → (Nat → Nat → Int32) → (Nat → Nat → Int64) → Prop}
theorem m_rk_swap {R C n c r : Nat} {M : TBt} (hR : R ≤ 42) (hC : C ≤ 24) (hr : r < R) (hn : n < R) (hc : c < C) {mi0 : Nat → Nat → Int32} (hq : Mq q mi0) (hnz : M r c ≠ 0) (hK : ∀ mi1, offB mi0 mi1 → Mtb q R C (fun i j => M (tsw r n i) j) mi1 → wp G e tM m_X10_rankOf 148 [(0, .ref 154), (1, .int (nI R)), (2, .int (nI C)), (3, .int (nI n)), (4, .int (nI c)), (6, .int (nI (iv q (M r c)))), (7, .int (nI (n + 1)))] [] (mi1, ml, RX RM) (QI K)) :
    ∀ (x k : Nat) (mi : Nat → Nat → Int32), x + k = C → offB mi0 mi → Mtb q R C (fun i j => if j < k then M (tsw r n i) j else M i j) mi → wp G e tM m_X10_rankOf 59 [(0, .ref 154), (1, .int (nI R)), (2, .int (nI C)), (3, .int (nI n)), (4, .int (nI c)), (5, .int (nI r)), (6, .int (nI k))] [] (mi, ml, RX RM) (QI K) := by
  intro x
  induction x with
  | zero =>
    intro k mi hk ho hM
    have : k = C := by omega
    subst this
    have hM2 := hM.ext (M1 := fun i j => M (tsw r n i) j) (fun i j _ hj => (if_pos hj).symm)
    obtain ⟨e1, l1⟩ := hM2.2.2 n c hn hc
    have en : tsw r n n = r := by
      unfold tsw
      by_cases a : n = r
      · rw [if_pos a]; exact a
      · rw [if_neg a, if_pos rfl]
    simp only [en] at e1 l1
    have := hK mi ho hM2
    apply b_X10_rankOf_59
    simp (disch := omega) only [s_le, s_lt, s_eq, s_eq0, s_in, s_ix, s_rm, s_div, s_pdlt, s_pdle, s_lepd, s_pdpd, s_pdlepd, s_pdadd, nI_add, pk_mul, pd_succ, Nat.not_lt_zero, Nat.zero_lt_succ, not_false_eq_true, not_true_eq_false, false_implies, true_implies, implies_true, and_true, true_and, Nat.reduceLT, Nat.reduceLeDiff, Nat.reduceAdd, Nat.reduceSub, Nat.zero_add, Nat.add_zero, Nat.le_refl, e1]
    exact ⟨by omega, m_unit (hq.offB ho) l1 hnz this⟩
  | succ x ih =>
    intro k mi hk ho hM
    obtain ⟨e1, l1⟩ := hM.2.2 r k hr (by omega)
    obtain ⟨e2, l2⟩ := hM.2.2 n k hn (by omega)
    simp only [Nat.lt_irrefl, if_false] at e1 l1 e2 l2
    have hP := (hM.put hr (show k < C by omega) l2).put hn (show k < C by omega) l1
    have := ih (k + 1) _ (by omega) (ho.put.put) (hP.ext (fun i j _ _ => by
      unfold up2 tsw
      by_cases a : j = k
      · subst a
        simp only [Nat.lt_succ_self, if_true, and_true, Nat.lt_irrefl, if_false]
        by_cases b : i = n
        · simp only [b, if_true]
          by_cases z : n = r
          · rw [if_pos z, z]
          · rw [if_neg z]
        · simp only [b, if_false]
          by_cases z : i = r
          · simp only [z, if_true]
          · simp only [z, if_false]
      · have b : (j < k + 1) = (j < k) := propext ⟨fun z => by omega, fun z => by omega⟩
        simp only [a, and_false, if_false, b]))
    apply b_X10_rankOf_59
    simp (disch := omega) only [s_le, s_lt, s_eq, s_eq0, s_in, s_ix, s_rm, s_div, s_pdlt, s_pdle, s_lepd, s_pdpd, s_pdlepd, s_pdadd, nI_add, pk_mul, pd_succ, Nat.not_lt_zero, Nat.zero_lt_succ, not_false_eq_true, not_true_eq_false, false_implies, true_implies, implies_true, and_true, true_and, Nat.reduceLT, Nat.reduceLeDiff, Nat.reduceAdd, Nat.reduceSub, Nat.zero_add, Nat.add_zero, e1, e2]
    exact ⟨fun z => absurd z (by omega), fun _ => ⟨by omega, by omega, by omega, by omega, this⟩⟩
theorem m_rk_el {R C n c k t l : Nat} {M : TBt} (hR : R ≤ 42) (hC : C ≤ 24) (hk : k < R) (hn : n < R) (hkn : k ≠ n) (ht : t < q) {mi0 : Nat → Nat → Int32} (hq : Mq q mi0) (hK : ∀ mi1, offB mi0 mi1 → Mtb q R C (elR q M n k t) mi1 → wp G e tM m_X10_rankOf 148 [(0, .ref 154), (1, .int (nI R)), (2, .int (nI C)), (3, .int (nI n)), (4, .int (nI c)), (6, .int (nI l)), (7, .int (nI (k + 1)))] [] (mi1, ml, RX RM) (QI K)) :
    ∀ (x y : Nat) (mi : Nat → Nat → Int32), x + y = C → offB mi0 mi → Mtb q R C (fun i j => if j < y then elR q M n k t i j else M i j) mi → wp G e tM m_X10_rankOf 190 [(0, .ref 154), (1, .int (nI R)), (2, .int (nI C)), (3, .int (nI n)), (4, .int (nI c)), (6, .int (nI l)), (7, .int (nI k)), (8, .int (nI t)), (9, .int (nI y))] [] (mi, ml, RX RM) (QI K) := by
  have h25 := hq.two
  intro x
  induction x with
  | zero =>
    intro y mi hy ho hM
    have : y = C := by omega
    subst this
    have := hK mi ho (hM.ext (fun i j _ hj => (if_pos hj).symm))
    apply b_X10_rankOf_190
    simp (disch := omega) only [s_le, s_lt, s_eq, s_eq0, s_in, s_ix, s_rm, s_div, s_pdlt, s_pdle, s_lepd, s_pdpd, s_pdlepd, s_pdadd, nI_add, pk_mul, pd_succ, Nat.not_lt_zero, Nat.zero_lt_succ, not_false_eq_true, not_true_eq_false, false_implies, true_implies, implies_true, and_true, true_and, Nat.reduceLT, Nat.reduceLeDiff, Nat.reduceAdd, Nat.reduceSub, Nat.zero_add, Nat.add_zero, Nat.le_refl]
    exact this
  | succ x ih =>
    intro y mi hy ho hM
    obtain ⟨e1, l1⟩ := hM.2.2 k y hk (by omega)
    obtain ⟨e2, l2⟩ := hM.2.2 n y hn (by omega)
    simp only [Nat.lt_irrefl, if_false] at e1 l1 e2 l2
    have hb := (hq.offB ho).2
    have hmul : (q - t) * M n y ≤ 5 * 5 := Nat.mul_le_mul (by omega) (by omega)
    have hP := hM.put hk (show y < C by omega) (Nat.mod_lt (M k y + (q - t) * M n y) (show 0 < q by omega))
    have := ih (y + 1) _ (by omega) ho.put (hP.ext (fun i j _ _ => by
      unfold up2
      by_cases a : j = y
      · subst a
        simp only [Nat.lt_succ_self, if_true, and_true, Nat.lt_irrefl, if_false]
        unfold elR
        by_cases b : i = k
        · simp only [b, if_true]
        · simp only [b, if_false]
      · have b : (j < y + 1) = (j < y) := propext ⟨fun z => by omega, fun z => by omega⟩
        simp only [a, and_false, if_false, b]))
    apply b_X10_rankOf_190
    have es : nI q - nI t = nI (q - t) := s_sub (by omega)
    simp (disch := omega) only [s_le, s_lt, s_eq, s_eq0, s_in, s_ix, s_rm, s_div, s_pdlt, s_pdle, s_lepd, s_pdpd, s_pdlepd, s_pdadd, nI_add, pk_mul, pd_succ, Nat.not_lt_zero, Nat.zero_lt_succ, not_false_eq_true, not_true_eq_false, false_implies, true_implies, implies_true, and_true, true_and, Nat.reduceLT, Nat.reduceLeDiff, Nat.reduceAdd, Nat.reduceSub, Nat.zero_add, Nat.add_zero, e1, e2, hb, es]
    exact ⟨fun z => absurd z (by omega), fun _ => ⟨by omega, by omega, by omega, by omega, this⟩⟩
theorem m_rk_k {R C n c v : Nat} {M0 : TBt} (hR : R ≤ 42) (hC : C ≤ 24) (hn : n < R) (hc : c < C) (hv : v < q) (hv0 : v ≠ 0) {mi0 : Nat → Nat → Int32} (hq : Mq q mi0)
    (hK : ∀ mi1 M, offB mi0 mi1 → Mtb q R C M mi1 → Rki q R C M0 (n + 1) (c + 1) M → wp G e tM m_X10_rankOf 5 [(0, .ref 154), (1, .int (nI R)), (2, .int (nI C)), (3, .int (nI (n + 1))), (4, .int (nI (c + 1)))] [] (mi1, ml, RX RM) (QI K)) :
    ∀ (x k : Nat) (M : TBt) (mi : Nat → Nat → Int32), x + k = R → n + 1 ≤ k → offB mi0 mi → Mtb q R C M mi → Rki q R C M0 n c M → M n c = v → (∀ i, n + 1 ≤ i → i < k → M i c = 0) → wp G e tM m_X10_rankOf 148 [(0, .ref 154), (1, .int (nI R)), (2, .int (nI C)), (3, .int (nI n)), (4, .int (nI c)), (6, .int (nI (iv q v))), (7, .int (nI k))] [] (mi, ml, RX RM) (QI K) := by
  have h25 := hq.two
  have hl := iv_lt hq.1 hv
  have hm := iv_mul hq.1 hv hv0
  intro x
  induction x with
  | zero =>
    intro k M mi hk _ ho hM hS hvc hz
    have : k = R := by omega
    subst this
    obtain ⟨s1, ⟨p, p1, p2⟩, s3⟩ := hS
    have := hK mi M ho hM ⟨s1, ⟨fun i => if i = n then c else p i, fun i hi => by
      by_cases a : i = n
      · simp only [a, if_true]
        exact ⟨by omega, by omega, fun j hj => s3 n j (Nat.le_refl _) hn hj⟩
      · simp only [a, if_false]
        have := p1 i (by omega)
        exact ⟨by omega, this.2⟩, fun i hi => by
      by_cases a : i + 1 = n
      · simp only [a, if_true]
        rw [if_neg (by omega)]
        exact (p1 i (by omega)).1
      · simp only [a, if_false]
        rw [if_neg (by omega)]
        exact p2 i (by omega)⟩, fun i j hi hR2 hj => by
      by_cases a : j = c
      · subst a; exact hz i hi hR2
      · exact s3 i j (by omega) hR2 (by omega)⟩
    apply b_X10_rankOf_148
    simp (disch := omega) only [s_le, s_lt, s_eq, s_eq0, s_in, s_ix, s_rm, s_div, s_pdlt, s_pdle, s_lepd, s_pdpd, s_pdlepd, s_pdadd, nI_add, pk_mul, pd_succ, Nat.not_lt_zero, Nat.zero_lt_succ, not_false_eq_true, not_true_eq_false, false_implies, true_implies, implies_true, and_true, true_and, Nat.reduceLT, Nat.reduceLeDiff, Nat.reduceAdd, Nat.reduceSub, Nat.zero_add, Nat.add_zero, Nat.le_refl]
    exact this
  | succ x ih =>
    intro k M mi hk hck ho hM hS hvc hz
    obtain ⟨e1, l1⟩ := hM.2.2 k c (by omega) (by omega)
    have hb := (hq.offB ho).2
    have hmul : M k c * iv q v ≤ 5 * 5 := Nat.mul_le_mul (by omega) (by omega)
    have ht : M k c * iv q v % q < q := Nat.mod_lt _ (by omega)
    apply b_X10_rankOf_148
    simp (disch := omega) only [s_le, s_lt, s_eq, s_eq0, s_in, s_ix, s_rm, s_div, s_pdlt, s_pdle, s_lepd, s_pdpd, s_pdlepd, s_pdadd, nI_add, pk_mul, pd_succ, Nat.not_lt_zero, Nat.zero_lt_succ, not_false_eq_true, not_true_eq_false, false_implies, true_implies, implies_true, and_true, true_and, Nat.reduceLT, Nat.reduceLeDiff, Nat.reduceAdd, Nat.reduceSub, Nat.zero_add, Nat.add_zero, e1, hb]
    refine ⟨fun z => absurd z (by omega), fun _ => ⟨by omega, by omega, fun z => ?_, fun z => ?_⟩⟩
    · refine m_rk_el (M := M) (t := M k c * iv q v % q) hR hC (by omega) hn (by omega) ht (hq.offB ho) (fun mi1 o1 M1 => ?_) C 0 mi rfl (fun _ _ => rfl) (hM.ext (fun i j _ _ => if_neg (by omega)))
      refine ih (k + 1) _ mi1 (by omega) (by omega) (ho.trans o1) M1 (hS.el hn (by omega) (by omega)) ?_ (fun i h1 h2 => ?_)
      · unfold elR
        rw [if_neg (by omega)]
        exact hvc
      · unfold elR
        by_cases a : i = k
        · rw [if_pos a, hvc]
          have := top_gone hq.1 l1 hv hl hm
          rw [Nat.mod_eq_of_lt (show q - M k c * iv q v % q < q by omega)] at this
          exact this
        · rw [if_neg a]
          exact hz i h1 (by omega)
    · have e0 : M k c = 0 := fig_0 hq.1 hm l1 z
      exact ih (k + 1) M mi (by omega) (by omega) ho hM hS hvc (fun i h1 h2 => by
        by_cases a : i = k
        · rw [a]; exact e0
        · exact hz i h1 (by omega))
theorem m_rk_r {R C n c : Nat} {M0 : TBt} (hR : R ≤ 42) (hC : C ≤ 24) (hn : n < R) (hc : c < C) {mi0 : Nat → Nat → Int32} (hq : Mq q mi0) {M : TBt} {mi : Nat → Nat → Int32} (ho : offB mi0 mi) (hM : Mtb q R C M mi) (hS : Rki q R C M0 n c M)
    (hK : ∀ mi1 M n1, offB mi0 mi1 → Mtb q R C M mi1 → n1 ≤ R → Rki q R C M0 n1 (c + 1) M → wp G e tM m_X10_rankOf 5 [(0, .ref 154), (1, .int (nI R)), (2, .int (nI C)), (3, .int (nI n1)), (4, .int (nI (c + 1)))] [] (mi1, ml, RX RM) (QI K)) :
    ∀ (x r : Nat), x + r = R → n ≤ r → (∀ i, n ≤ i → i < r → M i c = 0) → wp G e tM m_X10_rankOf 19 [(0, .ref 154), (1, .int (nI R)), (2, .int (nI C)), (3, .int (nI n)), (4, .int (nI c)), (5, .int (nI r))] [] (mi, ml, RX RM) (QI K) := by
  have h25 := hq.two
  intro x
  induction x with
  | zero =>
    intro r hr _ hz
    have : r = R := by omega
    subst this
    obtain ⟨s1, ⟨p, p1, p2⟩, s3⟩ := hS
    have := hK mi M n ho hM (by omega) ⟨s1, ⟨p, fun i hi => ⟨by have := (p1 i hi).1; omega, (p1 i hi).2⟩, p2⟩, fun i j hi hR2 hj => by
      by_cases a : j = c
      · subst a; exact hz i hi hR2
      · exact s3 i j (by omega) hR2 (by omega)⟩
    apply b_X10_rankOf_19
    simp (disch := omega) only [s_le, s_lt, s_eq, s_eq0, s_in, s_ix, s_rm, s_div, s_pdlt, s_pdle, s_lepd, s_pdpd, s_pdlepd, s_pdadd, nI_add, pk_mul, pd_succ, Nat.not_lt_zero, Nat.zero_lt_succ, not_false_eq_true, not_true_eq_false, false_implies, true_implies, implies_true, and_true, true_and, Nat.reduceLT, Nat.reduceLeDiff, Nat.reduceAdd, Nat.reduceSub, Nat.zero_add, Nat.add_zero, Nat.le_refl]
    exact this
  | succ x ih =>
    intro r hr hcr hz
    obtain ⟨e1, l1⟩ := hM.2.2 r c (by omega) (by omega)
    apply b_X10_rankOf_19
    simp (disch := omega) only [s_le, s_lt, s_eq, s_eq0, s_in, s_ix, s_rm, s_div, s_pdlt, s_pdle, s_lepd, s_pdpd, s_pdlepd, s_pdadd, nI_add, pk_mul, pd_succ, Nat.not_lt_zero, Nat.zero_lt_succ, not_false_eq_true, not_true_eq_false, false_implies, true_implies, implies_true, and_true, true_and, Nat.reduceLT, Nat.reduceLeDiff, Nat.reduceAdd, Nat.reduceSub, Nat.zero_add, Nat.add_zero, e1]
    refine ⟨fun z => absurd z (by omega), fun _ => ⟨by omega, fun z => ⟨fun _ => ?_, fun z2 => absurd z2 (by omega)⟩, fun z => ?_⟩⟩
    · refine m_rk_swap (M := M) hR hC (by omega) hn hc (mi0 := mi) (hq.offB ho) z (fun mi1 o1 M1 => ?_) C 0 mi rfl (fun _ _ => rfl) (hM.ext (fun i j _ _ => if_neg (by omega)))
      refine m_rk_k hR hC hn hc l1 z hq (fun mi2 M2 o2 t2 s2 => hK mi2 M2 (n + 1) o2 t2 (by omega) s2) (R - (n + 1)) (n + 1) _ mi1 (by omega) (Nat.le_refl _) (ho.trans o1) M1 (hS.sw hn (by omega) hcr) ?_ (fun i h1 h2 => absurd h1 (by omega))
      have en : tsw r n n = r := by
        unfold tsw
        by_cases a : n = r
        · rw [if_pos a]; exact a
        · rw [if_neg a, if_pos rfl]
      show M (tsw r n n) c = M r c
      rw [en]
    · exact ih (r + 1) (by omega) (by omega) (fun i h1 h2 => by
        by_cases a : i = r
        · rw [a]; exact z
        · exact hz i h1 (by omega))
theorem m_rankOf {R C : Nat} {mi0 : Nat → Nat → Int32} (hq : Mq q mi0) {M0 : TBt} (hM : Mtb q R C M0 mi0) (hK : ∀ mi1 n, offB mi0 mi1 → RkOf q R C M0 n → K (nI n) mi1 ml) : wpI G e 168 m_X10_rankOf [.ref 154, .int (nI R), .int (nI C)] (mi0, ml, RX RM) K := by
  have hR := hM.1
  have hC := hM.2.1
  have loop : ∀ (x c n : Nat) (M : TBt) (mi : Nat → Nat → Int32), x + c = C → n ≤ R → offB mi0 mi → Mtb q R C M mi → Rki q R C M0 n c M → wp G e tM m_X10_rankOf 5 [(0, .ref 154), (1, .int (nI R)), (2, .int (nI C)), (3, .int (nI n)), (4, .int (nI c))] [] (mi, ml, RX RM) (QI K) := by
    intro x
    induction x with
    | zero =>
      intro c n M mi hx hn ho hM1 hS
      have : c = C := by omega
      subst this
      have := hK mi n ho ⟨hn, M, hS, fun i j hi hj => (hM1.2.2 i j hi hj).2⟩
      apply b_X10_rankOf_5
      simp (disch := omega) only [s_le, s_lt, s_eq, s_eq0, s_in, s_ix, s_rm, s_div, s_pdlt, s_pdle, s_lepd, s_pdpd, s_pdlepd, s_pdadd, nI_add, pk_mul, pd_succ, Nat.not_lt_zero, Nat.zero_lt_succ, not_false_eq_true, not_true_eq_false, false_implies, true_implies, implies_true, and_true, true_and, Nat.reduceLT, Nat.reduceLeDiff, Nat.reduceAdd, Nat.reduceSub, Nat.zero_add, Nat.add_zero, Nat.le_refl]
      exact this
    | succ x ih =>
      intro c n M mi hx hn ho hM1 hS
      apply b_X10_rankOf_5
      simp (disch := omega) only [s_le, s_lt, s_eq, s_eq0, s_in, s_ix, s_rm, s_div, s_pdlt, s_pdle, s_lepd, s_pdpd, s_pdlepd, s_pdadd, nI_add, pk_mul, pd_succ, Nat.not_lt_zero, Nat.zero_lt_succ, not_false_eq_true, not_true_eq_false, false_implies, true_implies, implies_true, and_true, true_and, Nat.reduceLT, Nat.reduceLeDiff, Nat.reduceAdd, Nat.reduceSub, Nat.zero_add, Nat.add_zero]
      refine ⟨fun z => absurd z (by omega), fun _ => ⟨fun z => ?_, fun z => ?_⟩⟩
      · obtain ⟨s1, ⟨p, p1, p2⟩, s3⟩ := hS
        exact hK mi n ho ⟨hn, M, ⟨s1, ⟨p, fun i hi => ⟨by have := (p1 i hi).1; omega, (p1 i hi).2⟩, p2⟩, fun i j hi hR2 _ => absurd hi (by omega)⟩, fun i j hi hj => (hM1.2.2 i j hi hj).2⟩
      · exact m_rk_r hR hC (by omega) (by omega) hq ho hM1 hS (fun mi1 M1 n1 o1 t1 hn1 s1 => ih (c + 1) n1 M1 mi1 (by omega) hn1 o1 t1 s1) (R - n) n (by omega) (Nat.le_refl _) (fun i h1 h2 => absurd h1 (by omega))
  apply e_X10_rankOf
  exact loop C 0 0 M0 mi0 rfl (by omega) (fun _ _ => rfl) hM ⟨fun x => Iff.rfl, ⟨fun _ => 0, fun i hi => absurd hi (by omega), fun i hi => absurd hi (by omega)⟩, fun i j _ _ hj => absurd hj (by omega)⟩
end MRK
