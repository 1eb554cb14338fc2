/-! the reference: points -/
/-- the terms of a step's polynomial -/
def hin (q : Nat) (H : TBt) (F : Nat → Nat) (N : Nat) : Nat → Nat → Nat → Nat
  | 0, _, v => v
  | k + 1, b, v => hin q H F N k (b * H (k + 1) k % q) (cmb q ((q - b * H (k + 1) k % q * H k N % q) % q) 13 v (F k))
def hst (q : Nat) (H : TBt) (F : Nat → Nat) (N : Nat) : Nat := hin q H F N N 1 (cmb q (q - H N N) 13 (F N * q) (F N))
/-- the polynomials of the first, the first two, .. -/
def hes (q : Nat) (H : TBt) : Nat → Nat → Nat
  | 0 => fun _ => 1
  | N + 1 => up1 (hes q H N) (N + 1) (hst q H (hes q H N) N)
section HES
variable {q : Nat}
theorem hin_lt (h2 : 2 ≤ q) {H : TBt} {F : Nat → Nat} {N M : Nat} : ∀ k b v, (∀ i, i < k → F i < q ^ M) → v < q ^ M → hin q H F N k b v < q ^ M
  | 0, _, _, _, hv => hv
  | k + 1, _, _, hF, hv => hin_lt h2 k _ _ (fun i hi => hF i (by omega)) (cmb_small h2 hv (hF k (by omega)))
theorem hst_lt (h2 : 2 ≤ q) {H : TBt} {F : Nat → Nat} {N : Nat} (hF : ∀ i, i ≤ N → F i < q ^ (i + 1)) : hst q H F N < q ^ (N + 2) := by
  have up : ∀ i, i ≤ N → F i < q ^ (N + 2) := fun i hi => Nat.lt_of_lt_of_le (hF i hi) (Nat.pow_le_pow_right (by omega) (by omega))
  refine hin_lt h2 _ _ _ (fun i hi => up i (by omega)) (cmb_small h2 ?_ (up N (Nat.le_refl _)))
  rw [show N + 2 = N + 1 + 1 by omega, Nat.pow_succ]
  exact Nat.mul_lt_mul_of_pos_right (hF N (Nat.le_refl _)) (by omega)
theorem hes_lt (h2 : 2 ≤ q) {H : TBt} : ∀ N i, i ≤ N → hes q H N i < q ^ (i + 1)
  | 0, i, _ => by
    show 1 < q ^ (i + 1)
    have := Nat.pow_le_pow_right (show 0 < q by omega) (show 1 ≤ i + 1 by omega)
    rw [Nat.pow_one] at this
    omega
  | N + 1, i, hi => by
    show up1 (hes q H N) (N + 1) _ i < _
    unfold up1
    by_cases c : i = N + 1
    · rw [if_pos c, c]
      exact hst_lt h2 (hes_lt h2 N)
    · rw [if_neg c]
      exact hes_lt h2 N i (by omega)
/-- the places of a number as a basis -/
def pwb (q d : Nat) : Nat → Nat := fun i => if i < d then q ^ i else 0
theorem dg_pwk (h2 : 2 ≤ q) (i k : Nat) : dg q (q ^ i) k = if k = i then 1 else 0 := by
  by_cases c : k = i
  · rw [if_pos c, c, dg_pow h2]
  · rw [if_neg c]
    have e : q ^ i = 1 * q ^ i := (Nat.one_mul _).symm
    rw [e, dg_mulpow h2]
    by_cases z : i ≤ k
    · rw [if_pos z]
      exact dg_big (m := 1) (by rw [Nat.pow_one]; omega) (by omega) h2
    · rw [if_neg z]
theorem pwb_dg (h2 : 2 ≤ q) {d : Nat} (c : Nat → Nat) {k : Nat} (hk : k < 13) : ∀ D, D ≤ d → dg q (lsm q c (pwb q d) D) k = if k < D then c k % q else 0
  | 0, _ => by
    show dg q 0 k = _
    rw [dg_zero, if_neg (by omega)]
  | D + 1, hD => by
    show dg q (cmb q (c D) 13 (lsm q c (pwb q d) D) (pwb q d D)) k = _
    rw [cmb_dg _ h2, if_pos hk, pwb_dg h2 c hk D (by omega)]
    have e : pwb q d D = q ^ D := if_pos (by omega)
    rw [e, dg_pwk h2]
    by_cases z : k = D
    · rw [if_neg (by omega), if_pos z, if_pos (by omega), Nat.zero_add, Nat.mul_one, z]
    · rw [if_neg z, Nat.mul_zero, Nat.add_zero]
      by_cases z2 : k < D
      · rw [if_pos z2, if_pos (by omega), Nat.mod_mod]
      · rw [if_neg z2, if_neg (by omega), Nat.zero_mod]
theorem pwb_all (h2 : 2 ≤ q) {d x : Nat} (hd : d ≤ 13) (hx : x < q ^ d) : lsm q (dg q x) (pwb q d) d = x := by
  have h13 : q ^ d ≤ q ^ 13 := Nat.pow_le_pow_right (by omega) hd
  refine dg_ext h2 (lsm_lt13 h2 _ _ _) (show x < q ^ 13 by omega) (fun k hk => ?_)
  rw [pwb_dg h2 _ hk d (Nat.le_refl _)]
  by_cases c : k < d
  · rw [if_pos c, Nat.mod_eq_of_lt (dg_lt h2)]
  · rw [if_neg c, dg_big hx (by omega) h2]
/-- the first table -/
def tb0 (q : Nat) (f : Nat → Nat) : TBt := fun i j => dg q (f (q ^ j)) i
theorem Bss_0 {m d n : Nat} (w : Wd q m d n) {f : Nat → Nat} (hf : Ln q n f) : Bss q n d f (tb0 q f) (pwb q d) := by
  have h2 := w.q2
  have hd := w.d7
  have hlt : ∀ i, pwb q d i < n := fun i => by
    unfold pwb
    by_cases c : i < d
    · rw [if_pos c, w.nq]
      exact Nat.pow_lt_pow_right (by omega) c
    · rw [if_neg c]; exact w.pos
  refine ⟨hlt, fun c hc i hi => ?_, fun j hj => ?_⟩
  · have := pwb_dg h2 (d := d) c (k := i) (by omega) d (Nat.le_refl _)
    rw [hc, dg_zero, if_pos hi] at this
    exact this.symm
  · have e : pwb q d j = q ^ j := if_pos hj
    have h1 := hf.1 _ (hlt j)
    rw [e] at h1 ⊢
    rw [w.nq] at h1
    exact (pwb_all h2 (by omega) h1).symm
end HES
def offF (mi mi1 : Nat → Nat → Int32) : Prop := ∀ o, o ≠ 165 → o ≠ 166 → mi1 o = mi o
section MPT
variable {G : GC} {e n q m d : Nat} {ml : Nat → Nat → Int64} {A : Ast} {K : Int32 → (Nat → Nat → Int32) → (Nat → Nat → Int64) → Prop}
theorem Mw.offB {mi mi1 : Nat → Nat → Int32} (h : Mw q m d n mi) (ho : offB mi mi1) : Mw q m d n mi1 := h.off (by rw [ho 155 (by omega)]; exact ⟨rfl, rfl⟩) (by rw [ho 154 (by omega)]; exact ⟨rfl, rfl⟩) (ho 158 (by omega)) (ho 159 (by omega)) (ho 160 (by omega))
theorem Mw.offF {mi mi1 : Nat → Nat → Int32} (h : Mw q m d n mi) (ho : offF mi mi1) : Mw q m d n mi1 := h.off (by rw [ho 155 (by omega) (by omega)]; exact ⟨rfl, rfl⟩) (by rw [ho 154 (by omega) (by omega)]; exact ⟨rfl, rfl⟩) (ho 158 (by omega) (by omega)) (ho 159 (by omega) (by omega)) (ho 160 (by omega) (by omega))
/-- the polynomial that a table of steps tells -/
def HesOf (q m d n : Nat) (g : Nat → Nat) (H : TBt) : Prop := Ste q n d (vl q m d g) H d ∧ ∀ i j, i < d → j < d → H i j < q
theorem m_pt_in {N : Nat} {H : TBt} {F : Nat → Nat} {mi : Nat → Nat → Int32} (hM : Mw q m d n mi) (hN : N < d) (hT : Mtb q d d H mi) (hF : ∀ i, i ≤ N → mi 166 i = nI (F i) ∧ F i < q ^ (i + 1))
    (hK : wp G e tM m_X10_points 81 [(0, .ref 154), (2, .int (nI (N + 2)))] [] (u2 mi 166 (N + 1) (nI (hst q H F N)), ml, RX RM) (QI K)) :
    ∀ (k b v : Nat), k ≤ N → b < q → v < q ^ (N + 2) → hin q H F N k b v = hst q H F N → wp G e tM m_X10_points 145 [(0, .ref 154), (2, .int (nI (N + 1))), (3, .int (nI v)), (4, .int (nI b)), (5, .int (nI k))] [] (mi, ml, RX RM) (QI K) := by
  have w := hM.1.1
  have h2 := w.q2
  have hd7 := w.d7
  have hq := hM.2.1.1
  have hb := hq.2
  have hq2 := hq.two
  have up : ∀ M, M ≤ 13 → ∀ z, z < q ^ M → z < q ^ 13 := fun M hM z hz => Nat.lt_of_lt_of_le hz (Nat.pow_le_pow_right (by omega) hM)
  intro k
  induction k with
  | zero =>
    intro b v _ _ hv hh
    have hh : v = hst q H F N := hh
    subst hh
    apply b_X10_points_145
    simp (disch := omega) only [s_le, s_lt, s_eq, s_eq0, s_in, s_ix, s_rm, s_div, s_pdlt, s_pdle, s_lepd, s_pdpd, s_pdlepd, s_pdadd, nI_add, pk_mul, pd_succ, Nat.not_lt_zero, Nat.zero_lt_succ, not_false_eq_true, not_true_eq_false, false_implies, true_implies, implies_true, and_true, true_and, Nat.reduceLT, Nat.reduceLeDiff, Nat.reduceAdd, Nat.reduceSub, Nat.zero_add, Nat.add_zero, Nat.le_refl]
    exact ⟨by omega, hK⟩
  | succ k ih =>
    intro b v hk hbq hv hh
    obtain ⟨e1, l1⟩ := hT.2.2 (k + 1) k (by omega) (by omega)
    obtain ⟨e2, l2⟩ := hT.2.2 k N (by omega) (by omega)
    obtain ⟨e3, l3⟩ := hF k (by omega)
    have m1 : b * H (k + 1) k ≤ 5 * 5 := Nat.mul_le_mul (by omega) (by omega)
    have ml1 : b * H (k + 1) k % q < q := Nat.mod_lt _ (by omega)
    have m2 : b * H (k + 1) k % q * H k N ≤ 5 * 5 := Nat.mul_le_mul (by omega) (by omega)
    have ml2 : b * H (k + 1) k % q * H k N % q < q := Nat.mod_lt _ (by omega)
    have ml3 : (q - b * H (k + 1) k % q * H k N % q) % q < q := Nat.mod_lt _ (by omega)
    have hF2 : F k < q ^ (N + 2) := Nat.lt_of_lt_of_le l3 (Nat.pow_le_pow_right (by omega) (by omega))
    have hv2 : cmb q ((q - b * H (k + 1) k % q * H k N % q) % q) 13 v (F k) < q ^ (N + 2) := cmb_small h2 hv hF2
    have := ih (b * H (k + 1) k % q) _ (by omega) ml1 hv2 hh
    apply b_X10_points_145
    have p1 : nI (k + 1) - nI 1 = nI k := by rw [s_sub (by omega), Nat.add_sub_cancel]
    have p2 : nI (k + 1) + (-(nI 1)) = nI k := pd_succ k
    have p3 : nI 24 * nI (k + 1) + nI (k + 1) - nI 1 = nI (24 * (k + 1) + k) := by
      rw [pk_mul, nI_add, s_sub (by omega)]
      congr 1
    have p4 : nI 24 * nI k + nI (N + 1) - nI 1 = nI (24 * k + N) := by
      rw [pk_mul, nI_add, s_sub (by omega)]
      congr 1
    have p5 : nI q - nI (b * H (k + 1) k % q * H k N % q) = nI (q - b * H (k + 1) k % q * H k N % q) := s_sub (by omega)
    rw [p1, p2, p3, p4]
    simp (disch := omega) only [s_le, s_lt, s_eq, s_eq0, s_in, s_ix, s_rm, s_div, s_pdlt, s_pdle, s_lepd, s_pdpd, s_pdlepd, s_pdadd, nI_add, pk_mul, pd_succ, Nat.not_lt_zero, Nat.zero_lt_succ, not_false_eq_true, not_true_eq_false, false_implies, true_implies, implies_true, and_true, true_and, Nat.reduceLT, Nat.reduceLeDiff, Nat.reduceAdd, Nat.reduceSub, Nat.zero_add, Nat.add_zero, e1, e2, e3, hb, p5]
    refine ⟨by omega, by omega, by omega, by omega, by omega, by omega, ?_⟩
    exact m_sumOf hq (up _ (by omega) _ hv) (up _ (by omega) _ l3) (by omega) this
theorem m_pt_out {g : Nat → Nat} {H : TBt} {mi0 : Nat → Nat → Int32} (hM0 : Mw q m d n mi0) (hH : HesOf q m d n g H) (hK : ∀ mi1, offF mi0 mi1 → K (nI (hes q H d d)) mi1 ml) : ∀ (x N : Nat) (mi : Nat → Nat → Int32), x + N = d → offF mi0 mi → Mtb q d d H mi → (∀ i, i ≤ N → mi 166 i = nI (hes q H N i)) → wp G e tM m_X10_points 81 [(0, .ref 154), (2, .int (nI (N + 1)))] [] (mi, ml, RX RM) (QI K) := by
  have w := hM0.1.1
  have h2 := w.q2
  have hd7 := w.d7
  have hq2 := hM0.2.1.1.two
  intro x
  induction x with
  | zero =>
    intro N mi hN ho hT hF
    have : N = d := by omega
    subst this
    have hM := hM0.offF ho
    have e4 := hM.2.1.2.2.1
    have e5 := hF N (Nat.le_refl _)
    have := hK mi ho
    apply b_X10_points_81
    simp (disch := omega) only [s_le, s_lt, s_eq, s_eq0, s_in, s_ix, s_rm, s_div, s_pdlt, s_pdle, s_lepd, s_pdpd, s_pdlepd, s_pdadd, nI_add, pk_mul, pd_succ, Nat.not_lt_zero, Nat.zero_lt_succ, not_false_eq_true, not_true_eq_false, false_implies, true_implies, implies_true, and_true, true_and, Nat.reduceLT, Nat.reduceLeDiff, Nat.reduceAdd, Nat.reduceSub, Nat.zero_add, Nat.add_zero, e4, e5]
    exact ⟨fun _ => ⟨by omega, this⟩, fun z => absurd z (by omega)⟩
  | succ x ih =>
    intro N mi hN ho hT hF
    have hM := hM0.offF ho
    have e4 := hM.2.1.2.2.1
    have hq := hM.2.1.1
    have hb := hq.2
    have e5 := hF N (Nat.le_refl _)
    have hl := hes_lt h2 (H := H) N N (Nat.le_refl _)
    obtain ⟨e1, l1⟩ := hT.2.2 N N (by omega) (by omega)
    have hsh : hes q H N N * q < q ^ (N + 2) := by
      rw [show N + 2 = N + 1 + 1 by omega, Nat.pow_succ]
      exact Nat.mul_lt_mul_of_pos_right hl (by omega)
    have up : ∀ M, M ≤ 13 → ∀ z, z < q ^ M → z < q ^ 13 := fun M hM z hz => Nat.lt_of_lt_of_le hz (Nat.pow_le_pow_right (by omega) hM)
    have hnx := ih (N + 1) (u2 mi 166 (N + 1) (nI (hst q H (hes q H N) N))) (by omega) (fun o h1 h2 => by rw [u2_off h2]; exact ho o h1 h2) (hT.same (u2_off (by omega))) (fun i hi => by
      show _ = nI (up1 (hes q H N) (N + 1) _ i)
      unfold up1
      by_cases c : i = N + 1
      · rw [if_pos c, c, u2_at]
      · rw [if_neg c, u2_ne c]
        exact hF i (by omega))
    have := m_pt_in (G := G) (e := e) (ml := ml) (K := K) hM (by omega) hT (fun i hi => ⟨hF i hi, hes_lt h2 N i hi⟩) hnx N 1 (cmb q (q - H N N) 13 (hes q H N N * q) (hes q H N N)) (Nat.le_refl _) (by omega) (cmb_small h2 hsh (Nat.lt_of_lt_of_le hl (Nat.pow_le_pow_right (by omega) (by omega)))) rfl
    apply b_X10_points_81
    have p1 : nI (N + 1) - nI 1 = nI N := by rw [s_sub (by omega), Nat.add_sub_cancel]
    have p4 : nI 24 * nI N + nI (N + 1) - nI 1 = nI (24 * N + N) := by
      rw [pk_mul, nI_add, s_sub (by omega)]
      congr 1
    have p5 : nI q - nI (H N N) = nI (q - H N N) := s_sub (by omega)
    rw [p1, p4]
    simp (disch := omega) only [s_le, s_lt, s_eq, s_eq0, s_in, s_ix, s_rm, s_div, s_pdlt, s_pdle, s_lepd, s_pdpd, s_pdlepd, s_pdadd, nI_add, pk_mul, pd_succ, Nat.not_lt_zero, Nat.zero_lt_succ, not_false_eq_true, not_true_eq_false, false_implies, true_implies, implies_true, and_true, true_and, Nat.reduceLT, Nat.reduceLeDiff, Nat.reduceAdd, Nat.reduceSub, Nat.zero_add, Nat.add_zero, e4, e5]
    refine ⟨fun z => absurd z (by omega), fun _ => ⟨by omega, m_shifted hq (by omega) ?_⟩⟩
    rw [Nat.pow_one]
    simp (disch := omega) only [s_le, s_lt, s_eq, s_eq0, s_in, s_ix, s_rm, s_div, s_pdlt, s_pdle, s_lepd, s_pdpd, s_pdlepd, s_pdadd, nI_add, pk_mul, pd_succ, Nat.not_lt_zero, Nat.zero_lt_succ, not_false_eq_true, not_true_eq_false, false_implies, true_implies, implies_true, and_true, true_and, Nat.reduceLT, Nat.reduceLeDiff, Nat.reduceAdd, Nat.reduceSub, Nat.zero_add, Nat.add_zero, e1, e5, hb, p5]
    exact ⟨by omega, by omega, m_sumOf hq (up _ (by omega) _ hsh) (up _ (by omega) _ hl) (by omega) this⟩
theorem m_pt_col {i j x : Nat} {f : Nat → Nat} {mi0 : Nat → Nat → Int32} (hM0 : Mw q m d n mi0) (hi : i < 10) (hj : j < d) (hx : x = f (q ^ j)) (hx1 : x < n) (hK : ∀ mi1, offB mi0 mi1 → Mtb q d (j + 1) (tb0 q f) mi1 → wp G e tM m_X10_points 2 [(0, .ref 154), (1, .int (nI i)), (2, .int (nI (j + 1)))] [] (mi1, ml, RX RM) (QI K)) : ∀ (r k : Nat) (mi : Nat → Nat → Int32), r + k = d → offB mi0 mi → (∀ a b, a < d → b < j + 1 → (b < j ∨ a < k) → mi 165 (24 * a + b) = nI (tb0 q f a b)) → wp G e tM m_X10_points 24 [(0, .ref 154), (1, .int (nI i)), (2, .int (nI j)), (3, .int (nI x)), (4, .int (nI k))] [] (mi, ml, RX RM) (QI K) := by
  have w := hM0.1.1
  have h2 := w.q2
  have hd7 := w.d7
  intro r
  induction r with
  | zero =>
    intro k mi hk ho hT
    have : k = d := by omega
    subst this
    have e4 := (hM0.offB ho).2.1.2.2.1
    have := hK mi ho ⟨by omega, by omega, fun a b ha hb => ⟨hT a b ha hb (Or.inr ha), dg_lt h2⟩⟩
    apply b_X10_points_24
    simp (disch := omega) only [s_le, s_lt, s_eq, s_eq0, s_in, s_ix, s_rm, s_div, s_pdlt, s_pdle, s_lepd, s_pdpd, s_pdlepd, s_pdadd, nI_add, pk_mul, pd_succ, Nat.not_lt_zero, Nat.zero_lt_succ, not_false_eq_true, not_true_eq_false, false_implies, true_implies, implies_true, and_true, true_and, Nat.reduceLT, Nat.reduceLeDiff, Nat.reduceAdd, Nat.reduceSub, Nat.zero_add, Nat.add_zero, e4, Nat.le_refl]
    exact this
  | succ r ih =>
    intro k mi hk ho hT
    have hM := hM0.offB ho
    have e4 := hM.2.1.2.2.1
    have := ih (k + 1) (u2 mi 165 (24 * k + j) (nI (dg q x k))) (by omega) ho.put (fun a b ha hb hor => by
      by_cases c : a = k ∧ b = j
      · rw [c.1, c.2, u2_at, hx]
        rfl
      · rw [u2_ne (by omega)]
        exact hT a b ha hb (by omega))
    apply b_X10_points_24
    simp (disch := omega) only [s_le, s_lt, s_eq, s_eq0, s_in, s_ix, s_rm, s_div, s_pdlt, s_pdle, s_lepd, s_pdpd, s_pdlepd, s_pdadd, nI_add, pk_mul, pd_succ, Nat.not_lt_zero, Nat.zero_lt_succ, not_false_eq_true, not_true_eq_false, false_implies, true_implies, implies_true, and_true, true_and, Nat.reduceLT, Nat.reduceLeDiff, Nat.reduceAdd, Nat.reduceSub, Nat.zero_add, Nat.add_zero, e4]
    refine ⟨fun z => absurd z (by omega), fun _ => m_figure hM.2.1.1 (w.lt13 hx1) (by omega) ?_⟩
    exact ⟨by omega, this⟩
theorem m_points {i : Nat} {mi0 : Nat → Nat → Int32} (hM0 : Mw q m d n mi0) (h : Ma 155 A mi0) (hi : i < 10) (hl : ∀ k, amd A i k < n) (hz : ∀ k, 4 ≤ k → amd A i k = 0) (hK : ∀ mi1 H, offF mi0 mi1 → HesOf q m d n (amd A i) H → K (nI (hes q H d d)) mi1 ml) : wpI G e 168 m_X10_points [.ref 154, .int (nI i)] (mi0, ml, RX RM) K := by
  have w := hM0.1.1
  have h2 := w.q2
  have hd7 := w.d7
  have hT := vl_Ln w hl
  have loop : ∀ (r j : Nat) (mi : Nat → Nat → Int32), r + j = d → offB mi0 mi → Mtb q d j (tb0 q (vl q m d (amd A i))) mi → wp G e tM m_X10_points 2 [(0, .ref 154), (1, .int (nI i)), (2, .int (nI j))] [] (mi, ml, RX RM) (QI K) := by
    intro r
    induction r with
    | zero =>
      intro j mi hj ho hT1
      have : j = d := by omega
      subst this
      have hM := hM0.offB ho
      have e4 := hM.2.1.2.2.1
      apply b_X10_points_2
      rw [e4]
      refine ⟨fun _ => ?_, fun z => absurd ((s_le (by omega) (by omega)).mpr (Nat.le_refl _)) z⟩
      refine m_toSteps w hT (by omega) hM.2.1.1 hT1 ⟨⟨_, Bss_0 w hT⟩, fun a b _ hb => absurd hb (by omega)⟩ (fun mi1 H o1 t1 s1 => ?_)
      have hH : HesOf q m j n (amd A i) H := ⟨s1, fun a b ha hb => (t1.2.2 a b ha hb).2⟩
      have ho2 : offF mi0 (u2 mi1 166 0 (nI 1)) := fun o a b => by rw [u2_off b, o1 o a, ho o a]
      have := m_pt_out (G := G) (e := e) (ml := ml) (K := K) hM0 hH (fun mi2 o2 => hK mi2 H o2 hH) j 0 (u2 mi1 166 0 (nI 1)) (by omega) ho2 (t1.same (u2_off (by omega))) (fun a ha => by
        have : a = 0 := by omega
        subst this
        rw [u2_at]
        rfl)
      simp (disch := omega) only [s_le, s_lt, s_eq, s_eq0, s_in, s_ix, s_rm, s_div, s_pdlt, s_pdle, s_lepd, s_pdpd, s_pdlepd, s_pdadd, nI_add, pk_mul, pd_succ, Nat.not_lt_zero, Nat.zero_lt_succ, not_false_eq_true, not_true_eq_false, false_implies, true_implies, implies_true, and_true, true_and, Nat.reduceLT, Nat.reduceLeDiff, Nat.reduceAdd, Nat.reduceSub, Nat.zero_add, Nat.add_zero]
      exact this
    | succ r ih =>
      intro j mi hj ho hT1
      have hM := hM0.offB ho
      have e4 := hM.2.1.2.2.1
      have hqj : q ^ j < n := by
        rw [w.nq]
        exact Nat.pow_lt_pow_right (by omega) (by omega)
      apply b_X10_points_2
      rw [e4]
      refine ⟨fun z => absurd ((s_le (by omega) (by omega)).mp z) (by omega), fun _ => ?_⟩
      refine m_power hM.2.1.1 (by omega) ?_
      refine m_stepped hM (h.off (ho 155 (by omega))) hi hl hz hqj ?_
      exact m_pt_col (f := vl q m d (amd A i)) hM hi (by omega) rfl (vl_lt w hqj) (fun mi1 o1 t1 => ih (j + 1) mi1 (by omega) (ho.trans o1) t1) d 0 mi rfl (fun _ _ => rfl) (fun a b ha hb hor => (hT1.2.2 a b ha (by omega)).1)
  apply e_X10_points
  exact loop d 0 mi0 rfl (fun _ _ => rfl) ⟨by omega, by omega, fun a b _ hb => absurd hb (by omega)⟩
end MPT
