/-! class Rests: what it tells -/
section RST2
variable {G : GC} {e q m d n g : Nat} {mi : Nat → Nat → Int32} {ml : Nat → Nat → Int64} {y : Nat → Nat → Option Nat} {K : Int32 → (Nat → Nat → Int32) → (Nat → Nat → Int64) → Prop}
/-- every rest but 0 is a power of g -/
def onto (q m n g : Nat) : Prop := ∀ v, 1 ≤ v → v < n → ∃ j, j < n - 1 ∧ gp q m g j = v
theorem p_rmodulus (h : Rt q m d n g mi) (hK : K (nI m) mi ml) : wpI G e 154 m_X5_modulus [.ref 3] (mi, ml, RX y) K := by
  apply e_X5_modulus
  rw [h.2.2.2.2.1]
  exact hK
theorem p_rdegree (h : Rt q m d n g mi) (hK : K (nI d) mi ml) : wpI G e 154 m_X5_degree [.ref 3] (mi, ml, RX y) K := by
  apply e_X5_degree
  rw [h.2.2.2.2.2.1]
  exact hK
theorem p_rsize (h : Rt q m d n g mi) (hK : K (nI n) mi ml) : wpI G e 154 m_X5_size [.ref 3] (mi, ml, RX y) K := by
  apply e_X5_size
  rw [h.2.2.2.2.2.2.1]
  exact hK
theorem Rt.at5 (h : Rt q m d n g mi) (hon : onto q m n g) {a : Nat} (h1 : 1 ≤ a) (h2 : a < n) : ∃ j, j < n - 1 ∧ gp q m g j = a ∧ mi 5 a = nI j := h.2.2.2.2.2.2.2.1.2 a (hon a h1 h2)
theorem Rt.at4 (h : Rt q m d n g mi) {j : Nat} (hj : j < n - 1) : mi 4 j = nI (gp q m g j) := h.2.2.2.2.2.2.2.1.1 j hj
theorem Rt.w (h : Rt q m d n g mi) : 2 ≤ n ∧ n ≤ 128 ∧ d ≤ 7 ∧ 1 ≤ d ∧ mi 3 2 = nI d ∧ mi 3 3 = nI n := ⟨h.1.n2, h.1.2.2.2.2.2.2, h.1.d7, h.1.2.2.2.2.1, h.2.2.2.2.2.1, h.2.2.2.2.2.2.1⟩
theorem p_rholds (h : Rt q m d n g mi) {v : Int32} (h1 : ∀ a, a < n → v = nI a → K (nI 1) mi ml) (h0 : (∀ a, a < n → ¬ v = nI a) → K (nI 0) mi ml) : wpI G e 154 m_X5_holds [.ref 3, .int v] (mi, ml, RX y) K := by
  obtain ⟨hn2, hn, hd7, hd1, e2, e3⟩ := h.w
  apply e_X5_holds
  rw [e3]
  refine ⟨fun c => ⟨Or.inl rfl, h0 fun a ha hv => ?_⟩, fun c => ⟨fun c1 => ⟨Or.inl rfl, h0 fun a ha hv => ?_⟩, fun c1 => ⟨Or.inr rfl, ?_⟩⟩⟩
  · subst hv
    simp (disch := omega) only [s_le, s_lt, s_eq, s_eq0, s_in, s_ix, s_rm, s_div, s_pdlt, s_pdle, s_lepd, s_pdpd, s_pdlepd, s_pdadd, nI_add, pk_mul, pd_succ, Nat.not_lt_zero, Nat.zero_lt_succ, not_false_eq_true, not_true_eq_false, false_implies, true_implies, implies_true, and_true, true_and, Nat.reduceLT, Nat.reduceLeDiff, Nat.reduceAdd, Nat.reduceSub, Nat.zero_add, Nat.add_zero] at c
  · subst hv
    simp (disch := omega) only [s_le, s_lt, s_eq, s_eq0, s_in, s_ix, s_rm, s_div, s_pdlt, s_pdle, s_lepd, s_pdpd, s_pdlepd, s_pdadd, nI_add, pk_mul, pd_succ, Nat.not_lt_zero, Nat.zero_lt_succ, not_false_eq_true, not_true_eq_false, false_implies, true_implies, implies_true, and_true, true_and, Nat.reduceLT, Nat.reduceLeDiff, Nat.reduceAdd, Nat.reduceSub, Nat.zero_add, Nat.add_zero] at c1
    omega
  · rw [nI_0] at c
    obtain ⟨a, ha, rfl⟩ := nI_of c
    simp (disch := omega) only [s_le, s_lt, s_eq, s_eq0, s_in, s_ix, s_rm, s_div, s_pdlt, s_pdle, s_lepd, s_pdpd, s_pdlepd, s_pdadd, nI_add, pk_mul, pd_succ, Nat.not_lt_zero, Nat.zero_lt_succ, not_false_eq_true, not_true_eq_false, false_implies, true_implies, implies_true, and_true, true_and, Nat.reduceLT, Nat.reduceLeDiff, Nat.reduceAdd, Nat.reduceSub, Nat.zero_add, Nat.add_zero] at c1
    exact h1 a (by omega) rfl
theorem p_makerPower (h : Rt q m d n g mi) {k : Nat} (hk : k < 2 ^ 31) (hK : K (nI (gp q m g (k % (n - 1)))) mi ml) : wpI G e 154 m_X5_makerPower [.ref 3, .int (nI k)] (mi, ml, RX y) K := by
  obtain ⟨hn2, hn, hd7, hd1, e2, e3⟩ := h.w
  have hm := Nat.mod_lt k (show 0 < n - 1 by omega)
  apply e_X5_makerPower
  rw [e3, s_sub (by omega)]
  simp (disch := omega) only [s_le, s_lt, s_eq, s_eq0, s_in, s_ix, s_rm, s_div, s_pdlt, s_pdle, s_lepd, s_pdpd, s_pdlepd, s_pdadd, nI_add, pk_mul, pd_succ, Nat.not_lt_zero, Nat.zero_lt_succ, not_false_eq_true, not_true_eq_false, false_implies, true_implies, implies_true, and_true, true_and, Nat.reduceLT, Nat.reduceLeDiff, Nat.reduceAdd, Nat.reduceSub, Nat.zero_add, Nat.add_zero]
  refine ⟨fun _ => ⟨by omega, by omega, ?_⟩, fun c => absurd hn2 c⟩
  rw [h.at4 hm]
  exact hK
theorem p_rproduct (h : Rt q m d n g mi) (hon : onto q m n g) {a b : Nat} (ha : a < n) (hb : b < n) (hK0 : a = 0 ∨ b = 0 → K (nI 0) mi ml)
    (hK : ∀ j k, j < n - 1 → k < n - 1 → gp q m g j = a → gp q m g k = b → K (nI (gp q m g ((j + k) % (n - 1)))) mi ml) : wpI G e 154 m_X5_product [.ref 3, .int (nI a), .int (nI b)] (mi, ml, RX y) K := by
  obtain ⟨hn2, hn, hd7, hd1, e2, e3⟩ := h.w
  apply e_X5_product
  rw [e3, s_sub (by omega)]
  simp (disch := omega) only [s_le, s_lt, s_eq, s_eq0, s_in, s_ix, s_rm, s_div, s_pdlt, s_pdle, s_lepd, s_pdpd, s_pdlepd, s_pdadd, nI_add, pk_mul, pd_succ, Nat.not_lt_zero, Nat.zero_lt_succ, not_false_eq_true, not_true_eq_false, false_implies, true_implies, implies_true, and_true, true_and, Nat.reduceLT, Nat.reduceLeDiff, Nat.reduceAdd, Nat.reduceSub, Nat.zero_add, Nat.add_zero]
  refine ⟨fun c => hK0 (Or.inl (by omega)), fun c1 => ⟨fun c => hK0 (Or.inr (by omega)), fun c2 => ⟨fun c => absurd ha (by omega), fun _ => ⟨fun _ => ⟨by omega, by omega, ?_⟩, fun c => absurd hb c⟩⟩⟩⟩
  obtain ⟨j, j1, j2, j3⟩ := h.at5 hon (a := a) (by omega) ha
  obtain ⟨k, k1, k2, k3⟩ := h.at5 hon (a := b) (by omega) hb
  have hm := Nat.mod_lt (j + k) (show 0 < n - 1 by omega)
  rw [j3, k3]
  simp (disch := omega) only [s_le, s_lt, s_eq, s_eq0, s_in, s_ix, s_rm, s_div, s_pdlt, s_pdle, s_lepd, s_pdpd, s_pdlepd, s_pdadd, nI_add, pk_mul, pd_succ, Nat.not_lt_zero, Nat.zero_lt_succ, not_false_eq_true, not_true_eq_false, false_implies, true_implies, implies_true, and_true, true_and, Nat.reduceLT, Nat.reduceLeDiff, Nat.reduceAdd, Nat.reduceSub, Nat.zero_add, Nat.add_zero]
  refine ⟨by omega, by omega, ?_⟩
  rw [h.at4 hm]
  exact hK j k j1 k1 j2 k2
theorem p_rquotient (h : Rt q m d n g mi) (hon : onto q m n g) {a b : Nat} (ha : a < n) (hb : b < n) (hK0 : a = 0 ∨ b = 0 → K (nI 0) mi ml)
    (hK : ∀ j k, j < n - 1 → k < n - 1 → gp q m g j = a → gp q m g k = b → K (nI (gp q m g ((j + n - 1 - k) % (n - 1)))) mi ml) : wpI G e 154 m_X5_quotient [.ref 3, .int (nI a), .int (nI b)] (mi, ml, RX y) K := by
  obtain ⟨hn2, hn, hd7, hd1, e2, e3⟩ := h.w
  apply e_X5_quotient
  rw [e3, s_sub (by omega)]
  simp (disch := omega) only [s_le, s_lt, s_eq, s_eq0, s_in, s_ix, s_rm, s_div, s_pdlt, s_pdle, s_lepd, s_pdpd, s_pdlepd, s_pdadd, nI_add, pk_mul, pd_succ, Nat.not_lt_zero, Nat.zero_lt_succ, not_false_eq_true, not_true_eq_false, false_implies, true_implies, implies_true, and_true, true_and, Nat.reduceLT, Nat.reduceLeDiff, Nat.reduceAdd, Nat.reduceSub, Nat.zero_add, Nat.add_zero]
  refine ⟨fun c => hK0 (Or.inl (by omega)), fun c1 => ⟨fun c => hK0 (Or.inr (by omega)), fun c2 => ⟨fun c => absurd ha (by omega), fun _ => ⟨fun _ => ⟨by omega, by omega, ?_⟩, fun c => absurd hb c⟩⟩⟩⟩
  obtain ⟨j, j1, j2, j3⟩ := h.at5 hon (a := a) (by omega) ha
  obtain ⟨k, k1, k2, k3⟩ := h.at5 hon (a := b) (by omega) hb
  have hm := Nat.mod_lt (j + n - 1 - k) (show 0 < n - 1 by omega)
  rw [j3, k3, nI_add, s_sub (show 1 ≤ j + n by omega), s_sub (show k ≤ j + n - 1 by omega)]
  simp (disch := omega) only [s_le, s_lt, s_eq, s_eq0, s_in, s_ix, s_rm, s_div, s_pdlt, s_pdle, s_lepd, s_pdpd, s_pdlepd, s_pdadd, nI_add, pk_mul, pd_succ, Nat.not_lt_zero, Nat.zero_lt_succ, not_false_eq_true, not_true_eq_false, false_implies, true_implies, implies_true, and_true, true_and, Nat.reduceLT, Nat.reduceLeDiff, Nat.reduceAdd, Nat.reduceSub, Nat.zero_add, Nat.add_zero]
  refine ⟨by omega, by omega, ?_⟩
  rw [h.at4 hm]
  exact hK j k j1 k1 j2 k2
theorem p_turnedUp (h : Rt q m d n g mi) (hon : onto q m n g) {a i : Nat} (ha : a < n) (hi : i < 2 ^ 31) (hK0 : a = 0 → K (nI 0) mi ml)
    (hK : ∀ j, j < n - 1 → gp q m g j = a → K (nI (gp q m g (j * (q ^ (i % d) % (n - 1)) % (n - 1)))) mi ml) : wpI G e 154 m_X5_turnedUp [.ref 3, .int (nI a), .int (nI i)] (mi, ml, RX y) K := by
  obtain ⟨hn2, hn, hd7, hd1, e2, e3⟩ := h.w
  have hid := Nat.mod_lt i (show 0 < d by omega)
  apply e_X5_turnedUp
  rw [e3, e2, s_sub (by omega)]
  simp (disch := omega) only [s_le, s_lt, s_eq, s_eq0, s_in, s_ix, s_rm, s_div, s_pdlt, s_pdle, s_lepd, s_pdpd, s_pdlepd, s_pdadd, nI_add, pk_mul, pd_succ, Nat.not_lt_zero, Nat.zero_lt_succ, not_false_eq_true, not_true_eq_false, false_implies, true_implies, implies_true, and_true, true_and, Nat.reduceLT, Nat.reduceLeDiff, Nat.reduceAdd, Nat.reduceSub, Nat.zero_add, Nat.add_zero]
  refine ⟨fun c => hK0 (by omega), fun c1 => ⟨fun c => absurd ha (by omega), fun _ => ⟨fun _ => ?_, fun c => absurd hd1 c⟩⟩⟩
  obtain ⟨j, j1, j2, j3⟩ := h.at5 hon (a := a) (by omega) ha
  have hq6 := h.2.2.2.2.2.2.2.2 (i % d) (by omega)
  have hq7 := Nat.mod_lt (q ^ (i % d)) (show 0 < n - 1 by omega)
  have hm := Nat.mod_lt (j * (q ^ (i % d) % (n - 1))) (show 0 < n - 1 by omega)
  have hmul : j * (q ^ (i % d) % (n - 1)) < 2 ^ 31 := by
    have : j * (q ^ (i % d) % (n - 1)) ≤ 128 * 128 := Nat.mul_le_mul (by omega) (by omega)
    omega
  rw [j3, hq6]
  simp (disch := omega) only [s_le, s_lt, s_eq, s_eq0, s_in, s_ix, s_rm, s_div, s_pdlt, s_pdle, s_lepd, s_pdpd, s_pdlepd, s_pdadd, nI_add, pk_mul, pd_succ, Nat.not_lt_zero, Nat.zero_lt_succ, not_false_eq_true, not_true_eq_false, false_implies, true_implies, implies_true, and_true, true_and, Nat.reduceLT, Nat.reduceLeDiff, Nat.reduceAdd, Nat.reduceSub, Nat.zero_add, Nat.add_zero]
  refine ⟨by omega, by omega, by omega, by omega, by omega, ?_⟩
  rw [h.at4 hm]
  exact hK j j1 j2
end RST2
