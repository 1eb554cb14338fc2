/-! the reference: polynomials -/
def Mq (q : Nat) (mi : Nat → Nat → Int32) : Prop := (q = 2 ∨ q = 3 ∨ q = 5) ∧ mi 155 0 = nI q
theorem Mq.two {q : Nat} {mi : Nat → Nat → Int32} (h : Mq q mi) : 2 ≤ q ∧ q ≤ 5 := by rcases h.1 with rfl | rfl | rfl <;> omega
section MP1
variable {G : GC} {e q : Nat} {mi : Nat → Nat → Int32} {ml : Nat → Nat → Int64} {K : Int32 → (Nat → Nat → Int32) → (Nat → Nat → Int64) → Prop}
theorem m_isIn {a : Nat} {v : Int32} {lo hi : Nat} (hl : lo < 2 ^ 31) (hh : hi < 2 ^ 31) (h1 : ∀ a, v = nI a → lo ≤ a → a ≤ hi → K (nI 1) mi ml) (h0 : (∀ a, lo ≤ a → a ≤ hi → ¬ v = nI a) → K (nI 0) mi ml) : wpI G e 168 m_X10_isIn [.int v, .int (nI lo), .int (nI hi)] (mi, ml, RX RM) K := by
  apply e_X10_isIn
  refine ⟨fun z => ⟨Or.inl rfl, h0 (fun b hb hb2 hv => ?_)⟩, fun z => ?_⟩
  · subst hv
    rw [s_lt (by omega) (by omega)] at z
    omega
  · by_cases c : v < 0
    · exfalso
      apply z
      rw [Int32.lt_iff_toInt_lt] at c ⊢
      rw [nI_toInt hl]
      have h3 : (0 : Int32).toInt = 0 := by decide
      omega
    · obtain ⟨j, hj, rfl⟩ := nI_of c
      rw [s_lt hj hl] at z
      rw [s_lt hh hj]
      refine ⟨fun z2 => ⟨Or.inl rfl, h0 (fun b hb hb2 hv => ?_)⟩, fun z2 => ⟨Or.inr rfl, h1 j rfl (by omega) (by omega)⟩⟩
      rw [s_eq hj (by omega)] at hv
      omega
theorem m_power_loop (h : Mq q mi) {k : Nat} (hk : k ≤ 13) (hK : K (nI (q ^ k)) mi ml) : ∀ (r i : Nat), r + i = k → wp G e tM m_X10_power 4 [(0, .ref 154), (1, .int (nI k)), (2, .int (nI (q ^ i))), (3, .int (nI i))] [] (mi, ml, RX RM) (QI K) := by
  intro r
  induction r with
  | zero =>
    intro i hr
    apply b_X10_power_4
    simp (disch := omega) only [s_le, s_lt, s_eq, s_eq0, s_in, s_ix, s_rm, s_div, s_pdlt, s_pdle, s_lepd, s_pdpd, s_pdlepd, s_pdadd, nI_add, pk_mul, pd_succ, Nat.not_lt_zero, Nat.zero_lt_succ, not_false_eq_true, not_true_eq_false, false_implies, true_implies, implies_true, and_true, true_and, Nat.reduceLT, Nat.reduceLeDiff, Nat.reduceAdd, Nat.reduceSub, Nat.zero_add, Nat.add_zero, h.2]
    refine ⟨fun _ => ?_, fun z => absurd (show k ≤ i by omega) z⟩
    rw [show i = k by omega]
    exact hK
  | succ r ih =>
    intro i hr
    have := ih (i + 1) (by omega)
    rw [Nat.pow_succ] at this
    apply b_X10_power_4
    simp (disch := omega) only [s_le, s_lt, s_eq, s_eq0, s_in, s_ix, s_rm, s_div, s_pdlt, s_pdle, s_lepd, s_pdpd, s_pdlepd, s_pdadd, nI_add, pk_mul, pd_succ, Nat.not_lt_zero, Nat.zero_lt_succ, not_false_eq_true, not_true_eq_false, false_implies, true_implies, implies_true, and_true, true_and, Nat.reduceLT, Nat.reduceLeDiff, Nat.reduceAdd, Nat.reduceSub, Nat.zero_add, Nat.add_zero, h.2]
    exact ⟨fun z => absurd z (by omega), fun _ => this⟩
theorem m_power (h : Mq q mi) {k : Nat} (hk : k ≤ 13) (hK : K (nI (q ^ k)) mi ml) : wpI G e 168 m_X10_power [.ref 154, .int (nI k)] (mi, ml, RX RM) K := by
  apply e_X10_power
  have := m_power_loop (G := G) (e := e) h hk hK k 0 rfl
  rw [Nat.pow_zero] at this
  exact this
theorem m_degree_loop (h : Mq q mi) {v k : Nat} (hv : v < q ^ 13) (h1 : q ^ k ≤ v) (h2 : v < q ^ (k + 1)) (hK : K (nI k) mi ml) : ∀ (r j : Nat), r + j = k → wp G e tM m_X10_degree 11 [(0, .ref 154), (2, .int (nI j)), (3, .int (nI (v / q ^ (j + 1))))] [] (mi, ml, RX RM) (QI K) := by
  have hq2 := h.two
  have h31 := pow_lt31 (M := 13) h.1 (Nat.le_refl _)
  have hk31 : k < 2 ^ 31 := by
    have : k < 2 ^ k := Nat.lt_two_pow_self
    have h4 : 2 ^ k ≤ q ^ k := Nat.pow_le_pow_left hq2.1 k
    omega
  intro r
  induction r with
  | zero =>
    intro j hr
    have hj : j = k := by omega
    subst hj
    have e0 : v / q ^ (j + 1) = 0 := Nat.div_eq_of_lt h2
    rw [e0]
    apply b_X10_degree_11
    simp (disch := omega) only [s_le, s_lt, s_eq, s_eq0, s_in, s_ix, s_rm, s_div, s_pdlt, s_pdle, s_lepd, s_pdpd, s_pdlepd, s_pdadd, nI_add, pk_mul, pd_succ, Nat.not_lt_zero, Nat.zero_lt_succ, not_false_eq_true, not_true_eq_false, false_implies, true_implies, implies_true, and_true, true_and, Nat.reduceLT, Nat.reduceLeDiff, Nat.reduceAdd, Nat.reduceSub, Nat.zero_add, Nat.add_zero, h.2]
    exact hK
  | succ r ih =>
    intro j hr
    have hpos : 0 < v / q ^ (j + 1) := Nat.div_pos (Nat.le_trans (Nat.pow_le_pow_right (by omega) (by omega)) h1) (Nat.pow_pos (by omega))
    have hlt : v / q ^ (j + 1) < 2 ^ 31 := Nat.lt_of_le_of_lt (Nat.div_le_self _ _) (by omega)
    have := ih (j + 1) (by omega)
    rw [Nat.pow_succ q (j + 1), ← Nat.div_div_eq_div_mul] at this
    apply b_X10_degree_11
    simp (disch := omega) only [s_le, s_lt, s_eq, s_eq0, s_in, s_ix, s_rm, s_div, s_pdlt, s_pdle, s_lepd, s_pdpd, s_pdlepd, s_pdadd, nI_add, pk_mul, pd_succ, Nat.not_lt_zero, Nat.zero_lt_succ, not_false_eq_true, not_true_eq_false, false_implies, true_implies, implies_true, and_true, true_and, Nat.reduceLT, Nat.reduceLeDiff, Nat.reduceAdd, Nat.reduceSub, Nat.zero_add, Nat.add_zero, h.2]
    exact ⟨fun z => absurd z (by omega), fun _ => ⟨by omega, this⟩⟩
theorem m_degree (h : Mq q mi) {v : Nat} (hv : v < q ^ 13) (hK : K (nI (ln q 13 v - 1)) mi ml) : wpI G e 168 m_X10_degree [.ref 154, .int (nI v)] (mi, ml, RX RM) K := by
  have hq2 := h.two
  have h31 := pow_lt31 (M := 13) h.1 (Nat.le_refl _)
  apply e_X10_degree
  simp (disch := omega) only [s_le, s_lt, s_eq, s_eq0, s_in, s_ix, s_rm, s_div, s_pdlt, s_pdle, s_lepd, s_pdpd, s_pdlepd, s_pdadd, nI_add, pk_mul, pd_succ, Nat.not_lt_zero, Nat.zero_lt_succ, not_false_eq_true, not_true_eq_false, false_implies, true_implies, implies_true, and_true, true_and, Nat.reduceLT, Nat.reduceLeDiff, Nat.reduceAdd, Nat.reduceSub, Nat.zero_add, Nat.add_zero, h.2]
  refine ⟨by omega, ?_⟩
  rcases Nat.eq_zero_or_pos v with z | z
  · subst z
    rw [ln_zero hq2.1] at hK
    rw [Nat.zero_div]
    apply b_X10_degree_11
    simp (disch := omega) only [s_le, s_lt, s_eq, s_eq0, s_in, s_ix, s_rm, s_div, s_pdlt, s_pdle, s_lepd, s_pdpd, s_pdlepd, s_pdadd, nI_add, pk_mul, pd_succ, Nat.not_lt_zero, Nat.zero_lt_succ, not_false_eq_true, not_true_eq_false, false_implies, true_implies, implies_true, and_true, true_and, Nat.reduceLT, Nat.reduceLeDiff, Nat.reduceAdd, Nat.reduceSub, Nat.zero_add, Nat.add_zero, h.2]
    exact hK
  · obtain ⟨k, hk⟩ : ∃ k, ln q 13 v = k + 1 := ⟨ln q 13 v - 1, by have := ln_pos hv z; omega⟩
    rw [hk, Nat.add_sub_cancel] at hK
    have l2 := ln_lt hv
    rw [hk] at l2
    have := m_degree_loop (G := G) (e := e) h hv (ln_ge hk) l2 hK k 0 rfl
    rw [Nat.zero_add, Nat.pow_one] at this
    exact this
theorem m_figure_loop (h : Mq q mi) {v k : Nat} (hv : v < q ^ 13) (hk : k < 2 ^ 31) (hK : K (nI (dg q v k)) mi ml) : ∀ (r j : Nat), r + j = k → wp G e tM m_X10_figure 5 [(0, .ref 154), (2, .int (nI k)), (3, .int (nI (v / q ^ j))), (4, .int (nI j))] [] (mi, ml, RX RM) (QI K) := by
  have hq2 := h.two
  have h31 := pow_lt31 (M := 13) h.1 (Nat.le_refl _)
  intro r
  induction r with
  | zero =>
    intro j hr
    have hj : j = k := by omega
    subst hj
    have hlt : v / q ^ j < 2 ^ 31 := Nat.lt_of_le_of_lt (Nat.div_le_self _ _) (by omega)
    apply b_X10_figure_5
    simp (disch := omega) only [s_le, s_lt, s_eq, s_eq0, s_in, s_ix, s_rm, s_div, s_pdlt, s_pdle, s_lepd, s_pdpd, s_pdlepd, s_pdadd, nI_add, pk_mul, pd_succ, Nat.not_lt_zero, Nat.zero_lt_succ, not_false_eq_true, not_true_eq_false, false_implies, true_implies, implies_true, and_true, true_and, Nat.reduceLT, Nat.reduceLeDiff, Nat.reduceAdd, Nat.reduceSub, Nat.zero_add, Nat.add_zero, h.2]
    exact ⟨fun _ => ⟨by omega, hK⟩, fun z => absurd (Nat.le_refl j) z⟩
  | succ r ih =>
    intro j hr
    have hlt : v / q ^ j < 2 ^ 31 := Nat.lt_of_le_of_lt (Nat.div_le_self _ _) (by omega)
    have := ih (j + 1) (by omega)
    rw [Nat.pow_succ q j, ← Nat.div_div_eq_div_mul] at this
    apply b_X10_figure_5
    simp (disch := omega) only [s_le, s_lt, s_eq, s_eq0, s_in, s_ix, s_rm, s_div, s_pdlt, s_pdle, s_lepd, s_pdpd, s_pdlepd, s_pdadd, nI_add, pk_mul, pd_succ, Nat.not_lt_zero, Nat.zero_lt_succ, not_false_eq_true, not_true_eq_false, false_implies, true_implies, implies_true, and_true, true_and, Nat.reduceLT, Nat.reduceLeDiff, Nat.reduceAdd, Nat.reduceSub, Nat.zero_add, Nat.add_zero, h.2]
    exact ⟨fun z => absurd z (by omega), fun _ => ⟨by omega, this⟩⟩
theorem m_figure (h : Mq q mi) {v k : Nat} (hv : v < q ^ 13) (hk : k < 2 ^ 31) (hK : K (nI (dg q v k)) mi ml) : wpI G e 168 m_X10_figure [.ref 154, .int (nI v), .int (nI k)] (mi, ml, RX RM) K := by
  apply e_X10_figure
  have := m_figure_loop (G := G) (e := e) h hv hk hK k 0 rfl
  rw [Nat.pow_zero, Nat.div_one] at this
  exact this
theorem m_isPoly (h : Mq q mi) {v : Int32} (h1 : ∀ a, asN (q ^ 13) v = some a → v = nI a → a < q ^ 13 → K (nI 1) mi ml) (h0 : asN (q ^ 13) v = none → K (nI 0) mi ml) : wpI G e 168 m_X10_isPoly [.ref 154, .int v] (mi, ml, RX RM) K := by
  have hq2 := h.two
  have h31 := pow_lt31 (M := 13) h.1 (Nat.le_refl _)
  have hp : 0 < q ^ 13 := Nat.pow_pos (by omega)
  have loop : ∀ (r i : Nat), r + i = 13 → wp G e tM m_X10_isPoly 4 [(0, .ref 154), (1, .int v), (2, .int (nI (q ^ i))), (3, .int (nI i))] [] (mi, ml, RX RM) (QI K) := by
    intro r
    induction r with
    | zero =>
      intro i hr
      have hi : i = 13 := by omega
      subst hi
      apply b_X10_isPoly_4
      rw [s_sub (by omega)]
      simp (disch := omega) only [s_le, s_lt, s_eq, s_eq0, s_in, s_ix, s_rm, s_div, s_pdlt, s_pdle, s_lepd, s_pdpd, s_pdlepd, s_pdadd, nI_add, pk_mul, pd_succ, Nat.not_lt_zero, Nat.zero_lt_succ, not_false_eq_true, not_true_eq_false, false_implies, true_implies, implies_true, and_true, true_and, Nat.reduceLT, Nat.reduceLeDiff, Nat.reduceAdd, Nat.reduceSub, Nat.zero_add, Nat.add_zero, h.2]
      refine ⟨fun z => ⟨Or.inl rfl, h0 (asN_neg (by rw [nI_0] at z; exact z))⟩, fun z => ?_⟩
      obtain ⟨j, hj, rfl⟩ := nI_of (by rw [nI_0] at z; exact z)
      simp (disch := omega) only [s_le, s_lt, s_eq, s_eq0, s_in, s_ix, s_rm, s_div, s_pdlt, s_pdle, s_lepd, s_pdpd, s_pdlepd, s_pdadd, nI_add, pk_mul, pd_succ, Nat.not_lt_zero, Nat.zero_lt_succ, not_false_eq_true, not_true_eq_false, false_implies, true_implies, implies_true, and_true, true_and, Nat.reduceLT, Nat.reduceLeDiff, Nat.reduceAdd, Nat.reduceSub, Nat.zero_add, Nat.add_zero]
      refine ⟨fun z2 => ⟨Or.inl rfl, h0 ?_⟩, fun z2 => ⟨Or.inr rfl, h1 j ?_ rfl (by omega)⟩⟩
      · rw [asN_nI hj, if_neg (by omega)]
      · rw [asN_nI hj, if_pos (by omega)]
    | succ r ih =>
      intro i hr
      have := ih (i + 1) (by omega)
      rw [Nat.pow_succ] at this
      apply b_X10_isPoly_4
      simp (disch := omega) only [s_le, s_lt, s_eq, s_eq0, s_in, s_ix, s_rm, s_div, s_pdlt, s_pdle, s_lepd, s_pdpd, s_pdlepd, s_pdadd, nI_add, pk_mul, pd_succ, Nat.not_lt_zero, Nat.zero_lt_succ, not_false_eq_true, not_true_eq_false, false_implies, true_implies, implies_true, and_true, true_and, Nat.reduceLT, Nat.reduceLeDiff, Nat.reduceAdd, Nat.reduceSub, Nat.zero_add, Nat.add_zero, h.2]
      exact ⟨fun z => absurd z (by omega), fun _ => this⟩
  apply e_X10_isPoly
  have := loop 13 0 rfl
  rw [Nat.pow_zero] at this
  exact this
theorem m_sumOf_loop (h : Mq q mi) {s : Nat} (hs : s ≤ q) : ∀ (n i a b sm p : Nat), i + n = 13 → a < q ^ n → b < q ^ n → sm < q ^ i → (0 < a ∨ 0 < b → p = q ^ i) → K (nI (sm + q ^ i * cmb q s n a b)) mi ml → wp G e tM m_X10_sumOf 15 [(0, .ref 154), (3, .int (nI s)), (4, .int (nI sm)), (5, .int (nI p)), (6, .int (nI a)), (7, .int (nI b)), (8, .int (nI i))] [] (mi, ml, RX RM) (QI K) := by
  have h2 := h.two
  intro n
  induction n with
  | zero =>
    intro i a b sm p hi ha hb hsm hp hK
    apply b_X10_sumOf_15
    have : i = 13 := by omega
    subst this
    simp (disch := omega) only [s_le, s_lt, s_eq, s_eq0, s_in, s_ix, s_rm, s_div, s_pdlt, s_pdle, s_lepd, s_pdpd, s_pdlepd, s_pdadd, nI_add, pk_mul, pd_succ, Nat.not_lt_zero, Nat.zero_lt_succ, not_false_eq_true, not_true_eq_false, false_implies, true_implies, implies_true, and_true, true_and, Nat.reduceLT, Nat.reduceLeDiff, Nat.reduceAdd, Nat.reduceSub, Nat.zero_add, Nat.add_zero, h.2]
    simpa [cmb] using hK
  | succ n ih =>
    intro i a b sm p hi ha hb hsm hp hK
    have hpn := pow_lt31 (M := n + 1) h.1 (by omega)
    have hpi := pow_lt31 (M := i) h.1 (by omega)
    have hpi1 := pow_lt31 (M := i + 1) h.1 (by omega)
    have e1 : a % q < q := Nat.mod_lt _ (by omega)
    have e2 : b % q < q := Nat.mod_lt _ (by omega)
    have e3 : b % q * s ≤ 5 * 5 := Nat.mul_le_mul (by omega) (by omega)
    have e30 : s * (b % q) = b % q * s := Nat.mul_comm _ _
    have e4 : (a % q + b % q * s) % q < q := Nat.mod_lt _ (by omega)
    have e5 : (a % q + b % q * s) % q * q ^ i ≤ (q - 1) * q ^ i := Nat.mul_le_mul_right _ (by omega)
    have e6 : (q - 1) * q ^ i + q ^ i = q ^ (i + 1) := by
      rw [← Nat.succ_mul, Nat.pow_succ, Nat.mul_comm]
      congr 1
      omega
    have hstep : K (nI ((sm + (a % q + b % q * s) % q * q ^ i) + q ^ (i + 1) * cmb q s n (a / q) (b / q))) mi ml := by
      have : (sm + (a % q + b % q * s) % q * q ^ i) + q ^ (i + 1) * cmb q s n (a / q) (b / q) = sm + q ^ i * cmb q s (n + 1) a b := by
        show _ = sm + q ^ i * ((a % q + s * (b % q)) % q + q * cmb q s n (a / q) (b / q))
        rw [Nat.mul_add, ← Nat.mul_assoc (q ^ i) q, ← Nat.pow_succ, e30, Nat.mul_comm (q ^ i) ((a % q + b % q * s) % q), Nat.add_assoc]
      rw [this]
      exact hK
    have hw : ∀ p1, (0 < a / q ∨ 0 < b / q → p1 = q ^ (i + 1)) → wp G e tM m_X10_sumOf 15 [(0, .ref 154), (3, .int (nI s)), (4, .int (nI (sm + (a % q + b % q * s) % q * q ^ i))), (5, .int (nI p1)), (6, .int (nI (a / q))), (7, .int (nI (b / q))), (8, .int (nI (i + 1)))] [] (mi, ml, RX RM) (QI K) :=
      fun p1 hp1 => ih (i + 1) (a / q) (b / q) (sm + (a % q + b % q * s) % q * q ^ i) p1 (by omega) (div_lt_pow ha h2.1) (div_lt_pow hb h2.1) (by omega) hp1 hstep
    have haq : a / q < 2 ^ 31 := Nat.lt_of_le_of_lt (Nat.div_le_self _ _) (by omega)
    have hbq : b / q < 2 ^ 31 := Nat.lt_of_le_of_lt (Nat.div_le_self _ _) (by omega)
    have main : 0 < a ∨ 0 < b → ((0 < a / q → wp G e tM m_X10_sumOf 15 [(0, .ref 154), (3, .int (nI s)), (4, .int (nI (sm + (a % q + b % q * s) % q * p))), (5, .int (nI (p * q))), (6, .int (nI (a / q))), (7, .int (nI (b / q))), (8, .int (nI (i + 1)))] [] (mi, ml, (RX RM)) (QI K)) ∧ (¬ 0 < a / q → ((b / q ≤ 0 → wp G e tM m_X10_sumOf 15 [(0, .ref 154), (3, .int (nI s)), (4, .int (nI (sm + (a % q + b % q * s) % q * p))), (5, .int (nI p)), (6, .int (nI (a / q))), (7, .int (nI (b / q))), (8, .int (nI (i + 1)))] [] (mi, ml, (RX RM)) (QI K)) ∧ (¬ b / q ≤ 0 → wp G e tM m_X10_sumOf 15 [(0, .ref 154), (3, .int (nI s)), (4, .int (nI (sm + (a % q + b % q * s) % q * p))), (5, .int (nI (p * q))), (6, .int (nI (a / q))), (7, .int (nI (b / q))), (8, .int (nI (i + 1)))] [] (mi, ml, (RX RM)) (QI K))))) := by
      intro hor
      rw [hp hor, ← Nat.pow_succ]
      exact ⟨fun _ => hw _ (fun _ => rfl), fun z => ⟨fun z2 => hw _ (fun z3 => absurd z3 (by omega)), fun _ => hw _ (fun _ => rfl)⟩⟩
    apply b_X10_sumOf_15
    simp (disch := omega) only [s_le, s_lt, s_eq, s_eq0, s_in, s_ix, s_rm, s_div, s_pdlt, s_pdle, s_lepd, s_pdpd, s_pdlepd, s_pdadd, nI_add, pk_mul, pd_succ, Nat.not_lt_zero, Nat.zero_lt_succ, not_false_eq_true, not_true_eq_false, false_implies, true_implies, implies_true, and_true, true_and, Nat.reduceLT, Nat.reduceLeDiff, Nat.reduceAdd, Nat.reduceSub, Nat.zero_add, Nat.add_zero, h.2]
    refine ⟨fun c => absurd c (by omega), fun _ => ⟨fun c => ?_, fun c => ⟨fun d => ?_, fun d => ?_⟩⟩⟩
    · exact ⟨by omega, by omega, by omega, by omega, by omega, main (Or.inl c)⟩
    · have ha0 : a = 0 := by omega
      have hb0 : b = 0 := by omega
      subst ha0
      subst hb0
      rw [cmb_zero s h2.1] at hK
      simpa using hK
    · exact ⟨by omega, by omega, by omega, by omega, by omega, main (Or.inr (by omega))⟩
theorem m_sumOf (h : Mq q mi) {a b s : Nat} (ha : a < q ^ 13) (hb : b < q ^ 13) (hs : s ≤ q) (hK : K (nI (cmb q s 13 a b)) mi ml) : wpI G e 168 m_X10_sumOf [.ref 154, .int (nI a), .int (nI b), .int (nI s)] (mi, ml, RX RM) K := by
  apply e_X10_sumOf
  exact m_sumOf_loop h hs 13 0 a b 0 1 rfl ha hb (by simp) (fun _ => by rw [Nat.pow_zero]) (by simpa using hK)
theorem m_shifted (h : Mq q mi) {x k : Nat} (hk : k ≤ 13) (hK : K (nI (x * q ^ k)) mi ml) : wpI G e 168 m_X10_shifted [.ref 154, .int (nI x), .int (nI k)] (mi, ml, RX RM) K := by
  apply e_X10_shifted
  refine m_power h hk ?_
  rw [pk_mul]
  exact hK
theorem m_unit (h : Mq q mi) {f : Nat} (hf : f < q) (h0 : f ≠ 0) (hK : K (nI (iv q f)) mi ml) : wpI G e 168 m_X10_unit [.ref 154, .int (nI f)] (mi, ml, RX RM) K := by
  have h2 := h.two
  have hm := iv_mul h.1 hf h0
  have hl := iv_lt h.1 hf
  have loop : ∀ (r i : Nat), i + r = q → 1 ≤ i → iv q f = ivl q f r i → 0 < ivl q f r i → wp G e tM m_X10_unit 2 [(0, .ref 154), (1, .int (nI f)), (2, .int (nI i))] [] (mi, ml, RX RM) (QI K) := by
    intro r
    induction r with
    | zero =>
      intro i hr hi he hp
      exact absurd hp (by show ¬ 0 < 0; omega)
    | succ r ih =>
      intro i hr hi he hp
      have hfi : i * f < 2 ^ 31 := mul_small (by omega) hf h2.2
      have hmod : i * f % q < 2 ^ 31 := Nat.lt_of_le_of_lt (Nat.mod_le _ _) hfi
      have ec : i * f = f * i := Nat.mul_comm _ _
      unfold ivl at he hp
      apply b_X10_unit_2
      simp (disch := omega) only [s_le, s_lt, s_eq, s_eq0, s_in, s_ix, s_rm, s_div, s_pdlt, s_pdle, s_lepd, s_pdpd, s_pdlepd, s_pdadd, nI_add, pk_mul, pd_succ, Nat.not_lt_zero, Nat.zero_lt_succ, not_false_eq_true, not_true_eq_false, false_implies, true_implies, implies_true, and_true, true_and, Nat.reduceLT, Nat.reduceLeDiff, Nat.reduceAdd, Nat.reduceSub, Nat.zero_add, Nat.add_zero, h.2]
      refine ⟨by omega, fun c => ?_, fun c => ?_⟩
      · rw [ec] at c
        rw [if_pos c] at he
        rw [he] at hK
        exact hK
      · rw [ec] at c
        rw [if_neg c] at he hp
        exact ih (i + 1) (by omega) (by omega) he hp
  apply e_X10_unit
  refine loop (q - 1) 1 (by omega) (Nat.le_refl 1) rfl ?_
  show 0 < iv q f
  rcases Nat.eq_zero_or_pos (iv q f) with z | z
  · rw [z, Nat.mul_zero, Nat.zero_mod] at hm
    omega
  · exact z
end MP1
