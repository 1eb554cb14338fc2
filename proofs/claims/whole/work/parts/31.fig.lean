/-! PowersForTimes$Figures -/
def Fg (q : Nat) (mi : Nat → Nat → Int32) : Prop := (q = 2 ∨ q = 3 ∨ q = 5) ∧ mi 1 0 = nI q ∧ ∀ k, k < 14 → mi 2 k = nI (q ^ k)
theorem Fg.two {q : Nat} {mi : Nat → Nat → Int32} (h : Fg q mi) : 2 ≤ q ∧ q ≤ 5 := by rcases h.1 with rfl | rfl | rfl <;> omega
theorem Fg.pow {q : Nat} {mi : Nat → Nat → Int32} (h : Fg q mi) {k : Nat} (hk : k ≤ 13) : q ^ k ≤ 1220703125 := pow_q h.1 hk
theorem Fg.b {q : Nat} {mi : Nat → Nat → Int32} (h : Fg q mi) : mi 1 0 = nI q := h.2.1
theorem Fg.p {q : Nat} {mi : Nat → Nat → Int32} (h : Fg q mi) {k : Nat} (hk : k < 14) : mi 2 k = nI (q ^ k) := h.2.2 k hk
def fst (q a : Nat) : Nat := match ln q 13 a with
  | 0 => 0
  | k + 1 => dg q a k
def ivl (q f : Nat) : Nat → Nat → Nat
  | 0, _ => 0
  | n + 1, i => if f * i % q = 1 then i else ivl q f n (i + 1)
def iv (q f : Nat) : Nat := ivl q f (q - 1) 1
section FIG
variable {G : GC} {e q : Nat} {mi : Nat → Nat → Int32} {ml : Nat → Nat → Int64} {y : Nat → Nat → Option Nat} {K : Int32 → (Nat → Nat → Int32) → (Nat → Nat → Int64) → Prop}
theorem p_base (h : Fg q mi) (hK : K (nI q) mi ml) : wpI G e 154 m_X1_base [.ref 1] (mi, ml, RX y) K := by
  apply e_X1_base
  rw [h.b]
  exact hK
theorem p_power (h : Fg q mi) {k : Nat} (hk : k < 14) (hK : K (nI (q ^ k)) mi ml) : wpI G e 154 m_X1_power [.ref 1, .int (nI k)] (mi, ml, RX y) K := by
  apply e_X1_power
  simp (disch := omega) only [s_le, s_lt, s_eq, s_eq0, s_in, s_ix, s_rm, s_div, s_pdlt, s_pdle, s_lepd, s_pdpd, s_pdlepd, s_pdadd, nI_add, pk_mul, pd_succ, Nat.not_lt_zero, Nat.zero_lt_succ, not_false_eq_true, not_true_eq_false, false_implies, true_implies, implies_true, and_true, true_and, Nat.reduceLT, Nat.reduceLeDiff, Nat.reduceAdd, Nat.reduceSub, Nat.zero_add, Nat.add_zero, hk]
  rw [h.p hk]
  exact hK
theorem p_holds (h : Fg q mi) {v : Int32} (h1 : ∀ a, a < q ^ 13 → v = nI a → K (nI 1) mi ml) (h0 : (∀ a, a < q ^ 13 → ¬ v = nI a) → K (nI 0) mi ml) : wpI G e 154 m_X1_holds [.ref 1, .int v] (mi, ml, RX y) K := by
  have hp := h.pow (k := 13) (by omega)
  apply e_X1_holds
  refine ⟨fun a => ⟨Or.inl rfl, h0 (fun n hn e => ?_)⟩, fun a => ?_⟩
  · rw [e] at a
    simp (disch := omega) only [s_le, s_lt, s_eq, s_eq0, s_in, s_ix, s_rm, s_div, s_pdlt, s_pdle, s_lepd, s_pdpd, s_pdlepd, s_pdadd, nI_add, pk_mul, pd_succ, Nat.not_lt_zero, Nat.zero_lt_succ, not_false_eq_true, not_true_eq_false, false_implies, true_implies, implies_true, and_true, true_and, Nat.reduceLT, Nat.reduceLeDiff, Nat.reduceAdd, Nat.reduceSub, Nat.zero_add, Nat.add_zero] at a
  · obtain ⟨n, hn, rfl⟩ := nI_of (by rw [nI_0] at a; exact a)
    have hb : isB (nI 0) := Or.inl rfl
    have hb1 : isB (nI 1) := Or.inr rfl
    simp (disch := omega) only [s_le, s_lt, s_eq, s_eq0, s_in, s_ix, s_rm, s_div, s_pdlt, s_pdle, s_lepd, s_pdpd, s_pdlepd, s_pdadd, nI_add, pk_mul, pd_succ, Nat.not_lt_zero, Nat.zero_lt_succ, not_false_eq_true, not_true_eq_false, false_implies, true_implies, implies_true, and_true, true_and, Nat.reduceLT, Nat.reduceLeDiff, Nat.reduceAdd, Nat.reduceSub, Nat.zero_add, Nat.add_zero, h.p, hb, hb1]
    refine ⟨fun b => h0 (fun m hm e => ?_), fun b => h1 n (by omega) rfl⟩
    simp (disch := omega) only [s_le, s_lt, s_eq, s_eq0, s_in, s_ix, s_rm, s_div, s_pdlt, s_pdle, s_lepd, s_pdpd, s_pdlepd, s_pdadd, nI_add, pk_mul, pd_succ, Nat.not_lt_zero, Nat.zero_lt_succ, not_false_eq_true, not_true_eq_false, false_implies, true_implies, implies_true, and_true, true_and, Nat.reduceLT, Nat.reduceLeDiff, Nat.reduceAdd, Nat.reduceSub, Nat.zero_add, Nat.add_zero] at e
    omega
theorem p_holds1 (h : Fg q mi) {a : Nat} (ha : a < q ^ 13) (hK : K (nI 1) mi ml) : wpI G e 154 m_X1_holds [.ref 1, .int (nI a)] (mi, ml, RX y) K :=
  p_holds h (fun _ _ _ => hK) (fun hn => absurd rfl (hn a ha))
theorem p_degree_loop (h : Fg q mi) {a : Nat} (ha : a < q ^ 13) : ∀ (n m : Nat), m + n = 13 → (m = 0 ∨ q ^ (m - 1) ≤ a) → K (pd (ln q 13 a)) mi ml → wp G e tX m_X1_degree 2 [(0, .ref 1), (1, .int (nI a)), (2, .int (pd m))] [] (mi, ml, RX y) (QI K) := by
  have h2 := h.two
  have hp := h.pow (k := 13) (by omega)
  intro n
  induction n with
  | zero =>
    intro m hm hle hK
    apply b_X1_degree_2
    simp (disch := omega) only [s_le, s_lt, s_eq, s_eq0, s_in, s_ix, s_rm, s_div, s_pdlt, s_pdle, s_lepd, s_pdpd, s_pdlepd, s_pdadd, nI_add, pk_mul, pd_succ, Nat.not_lt_zero, Nat.zero_lt_succ, not_false_eq_true, not_true_eq_false, false_implies, true_implies, implies_true, and_true, true_and, Nat.reduceLT, Nat.reduceLeDiff, Nat.reduceAdd, Nat.reduceSub, Nat.zero_add, Nat.add_zero]
    have hm13 : m = 13 := by omega
    subst hm13
    refine ⟨fun _ => ?_, fun c => absurd c (by omega)⟩
    rw [ln_eq h2.1 (by simpa using hle) ha ha] at hK
    exact hK
  | succ n ih =>
    intro m hm hle hK
    apply b_X1_degree_2
    have hq1 := h.pow (k := m) (by omega)
    simp (disch := omega) only [s_le, s_lt, s_eq, s_eq0, s_in, s_ix, s_rm, s_div, s_pdlt, s_pdle, s_lepd, s_pdpd, s_pdlepd, s_pdadd, nI_add, pk_mul, pd_succ, Nat.not_lt_zero, Nat.zero_lt_succ, not_false_eq_true, not_true_eq_false, false_implies, true_implies, implies_true, and_true, true_and, Nat.reduceLT, Nat.reduceLeDiff, Nat.reduceAdd, Nat.reduceSub, Nat.zero_add, Nat.add_zero, h.p]
    refine ⟨fun c => absurd c (by omega), fun _ => ⟨by omega, fun c => ?_, fun c => ?_⟩⟩
    · have : ln q 13 a = m := by
        rcases hle with rfl | hle
        · simp at c
          subst c
          exact ln_zero h2.1 13
        · cases m with
          | zero => simp at c; subst c; exact ln_zero h2.1 13
          | succ k => exact ln_eq h2.1 hle c ha
      rw [this] at hK
      exact hK
    · have := ih (m + 1) (by omega) (Or.inr (by simp; omega)) hK
      rw [pd_succ] at this
      exact this
theorem p_degree (h : Fg q mi) {a : Nat} (ha : a < q ^ 13) (hK : K (pd (ln q 13 a)) mi ml) : wpI G e 154 m_X1_degree [.ref 1, .int (nI a)] (mi, ml, RX y) K := by
  apply e_X1_degree
  rw [← pd_zero]
  exact p_degree_loop h ha 13 0 (by omega) (Or.inl rfl) hK
theorem p_figure (h : Fg q mi) {a k : Nat} (ha : a < q ^ 13) (hk : k < 14) (hK : K (nI (dg q a k)) mi ml) : wpI G e 154 m_X1_figure [.ref 1, .int (nI a), .int (nI k)] (mi, ml, RX y) K := by
  have h2 := h.two
  have hp := h.pow (k := 13) (by omega)
  have hpk := h.pow (k := k) (by omega)
  have hp0 : 0 < q ^ k := Nat.pow_pos (by omega)
  have hd : a / q ^ k < 2 ^ 31 := Nat.lt_of_le_of_lt (Nat.div_le_self a _) (by omega)
  apply e_X1_figure
  simp (disch := omega) only [s_le, s_lt, s_eq, s_eq0, s_in, s_ix, s_rm, s_div, s_pdlt, s_pdle, s_lepd, s_pdpd, s_pdlepd, s_pdadd, nI_add, pk_mul, pd_succ, Nat.not_lt_zero, Nat.zero_lt_succ, not_false_eq_true, not_true_eq_false, false_implies, true_implies, implies_true, and_true, true_and, Nat.reduceLT, Nat.reduceLeDiff, Nat.reduceAdd, Nat.reduceSub, Nat.zero_add, Nat.add_zero, hk, h.p, h.b]
  refine ⟨fun c => absurd c (by omega), fun _ => ⟨fun c => absurd c (by omega), fun _ => ⟨fun _ => ⟨by omega, by omega, hK⟩, fun c => absurd c (by omega)⟩⟩⟩
theorem p_figureN (h : Fg q mi) {a : Nat} (hK : K (nI 0) mi ml) : wpI G e 154 m_X1_figure [.ref 1, .int (nI a), .int (pd 0)] (mi, ml, RX y) K := by
  apply e_X1_figure
  simp (disch := omega) only [s_le, s_lt, s_eq, s_eq0, s_in, s_ix, s_rm, s_div, s_pdlt, s_pdle, s_lepd, s_pdpd, s_pdlepd, s_pdadd, nI_add, pk_mul, pd_succ, Nat.not_lt_zero, Nat.zero_lt_succ, not_false_eq_true, not_true_eq_false, false_implies, true_implies, implies_true, and_true, true_and, Nat.reduceLT, Nat.reduceLeDiff, Nat.reduceAdd, Nat.reduceSub, Nat.zero_add, Nat.add_zero]
  exact hK
theorem p_first (h : Fg q mi) {a : Nat} (ha : a < q ^ 13) (hK : K (nI (fst q a)) mi ml) : wpI G e 154 m_X1_first [.ref 1, .int (nI a)] (mi, ml, RX y) K := by
  apply e_X1_first
  refine p_degree h ha ?_
  unfold fst at hK
  have hl := ln_le q 13 a
  cases hc : ln q 13 a with
  | zero => rw [hc] at hK; exact p_figureN h hK
  | succ k =>
    rw [hc] at hK hl
    rw [pd_succ]
    exact p_figure h ha (by omega) hK
theorem fst_lt (h2 : 2 ≤ q) (a : Nat) : fst q a < q := by
  unfold fst
  split
  · omega
  · exact dg_lt h2
theorem p_isMonic (h : Fg q mi) {a : Nat} (ha : a < q ^ 13) (h1 : fst q a = 1 → K (nI 1) mi ml) (h0 : ¬ fst q a = 1 → K (nI 0) mi ml) : wpI G e 154 m_X1_isMonic [.ref 1, .int (nI a)] (mi, ml, RX y) K := by
  have h2 := h.two
  apply e_X1_isMonic
  refine p_first h ha ?_
  have hf := fst_lt h2.1 a
  simp (disch := omega) only [s_le, s_lt, s_eq, s_eq0, s_in, s_ix, s_rm, s_div, s_pdlt, s_pdle, s_lepd, s_pdpd, s_pdlepd, s_pdadd, nI_add, pk_mul, pd_succ, Nat.not_lt_zero, Nat.zero_lt_succ, not_false_eq_true, not_true_eq_false, false_implies, true_implies, implies_true, and_true, true_and, Nat.reduceLT, Nat.reduceLeDiff, Nat.reduceAdd, Nat.reduceSub, Nat.zero_add, Nat.add_zero]
  exact ⟨fun c => ⟨Or.inl rfl, h0 c⟩, fun c => ⟨Or.inr rfl, h1 c⟩⟩
theorem p_inverse_loop (h : Fg q mi) {f : Nat} (hf : f < q) : ∀ (n i : Nat), i + n = q → 1 ≤ i → K (nI (ivl q f n i)) mi ml → wp G e tX m_X1_inverse 2 [(0, .ref 1), (1, .int (nI f)), (2, .int (nI i))] [] (mi, ml, RX y) (QI K) := by
  have h2 := h.two
  intro n
  induction n with
  | zero =>
    intro i hi h1 hK
    apply b_X1_inverse_2
    simp (disch := omega) only [s_le, s_lt, s_eq, s_eq0, s_in, s_ix, s_rm, s_div, s_pdlt, s_pdle, s_lepd, s_pdpd, s_pdlepd, s_pdadd, nI_add, pk_mul, pd_succ, Nat.not_lt_zero, Nat.zero_lt_succ, not_false_eq_true, not_true_eq_false, false_implies, true_implies, implies_true, and_true, true_and, Nat.reduceLT, Nat.reduceLeDiff, Nat.reduceAdd, Nat.reduceSub, Nat.zero_add, Nat.add_zero, h.b]
    exact ⟨fun _ => hK, fun c => absurd c (by omega)⟩
  | succ n ih =>
    intro i hi h1 hK
    apply b_X1_inverse_2
    have hfi : f * i < 2 ^ 31 := by
      have : f * i ≤ 5 * 5 := Nat.mul_le_mul (by omega) (by omega)
      omega
    have hm : f * i % q < 2 ^ 31 := Nat.lt_of_le_of_lt (Nat.mod_le _ _) hfi
    simp (disch := omega) only [s_le, s_lt, s_eq, s_eq0, s_in, s_ix, s_rm, s_div, s_pdlt, s_pdle, s_lepd, s_pdpd, s_pdlepd, s_pdadd, nI_add, pk_mul, pd_succ, Nat.not_lt_zero, Nat.zero_lt_succ, not_false_eq_true, not_true_eq_false, false_implies, true_implies, implies_true, and_true, true_and, Nat.reduceLT, Nat.reduceLeDiff, Nat.reduceAdd, Nat.reduceSub, Nat.zero_add, Nat.add_zero, h.b]
    unfold ivl at hK
    refine ⟨fun c => absurd c (by omega), fun _ => ⟨by omega, fun c => ?_, fun c => ?_⟩⟩
    · rw [if_neg c] at hK
      exact ih (i + 1) (by omega) (by omega) hK
    · rw [if_pos c] at hK
      exact hK
theorem p_inverse (h : Fg q mi) {f : Nat} (hf : f < q) (hK : K (nI (iv q f)) mi ml) : wpI G e 154 m_X1_inverse [.ref 1, .int (nI f)] (mi, ml, RX y) K := by
  have h2 := h.two
  apply e_X1_inverse
  exact p_inverse_loop h hf (q - 1) 1 (by omega) (by omega) hK
theorem p_negative (h : Fg q mi) {f : Nat} (hf : f ≤ q) (hK : K (nI ((q - f) % q)) mi ml) : wpI G e 154 m_X1_negative [.ref 1, .int (nI f)] (mi, ml, RX y) K := by
  have h2 := h.two
  apply e_X1_negative
  rw [h.b, s_sub hf]
  simp (disch := omega) only [s_le, s_lt, s_eq, s_eq0, s_in, s_ix, s_rm, s_div, s_pdlt, s_pdle, s_lepd, s_pdpd, s_pdlepd, s_pdadd, nI_add, pk_mul, pd_succ, Nat.not_lt_zero, Nat.zero_lt_succ, not_false_eq_true, not_true_eq_false, false_implies, true_implies, implies_true, and_true, true_and, Nat.reduceLT, Nat.reduceLeDiff, Nat.reduceAdd, Nat.reduceSub, Nat.zero_add, Nat.add_zero]
  exact ⟨by omega, hK⟩
theorem p_mix_loop (h : Fg q mi) {s : Nat} (hs : s < q) : ∀ (n i a b sm : Nat), i + n = 13 → a < q ^ n → b < q ^ n → sm < q ^ i → K (nI (sm + q ^ i * cmb q s n a b)) mi ml → wp G e tX m_X1_mix 26 [(0, .ref 1), (1, .int (nI a)), (2, .int (nI b)), (3, .int (nI s)), (4, .int (nI sm)), (5, .int (nI i))] [] (mi, ml, RX y) (QI K) := by
  have h2 := h.two
  intro n
  induction n with
  | zero =>
    intro i a b sm hi ha hb hsm hK
    apply b_X1_mix_26
    have : i = 13 := by omega
    subst this
    simp (disch := omega) only [s_le, s_lt, s_eq, s_eq0, s_in, s_ix, s_rm, s_div, s_pdlt, s_pdle, s_lepd, s_pdpd, s_pdlepd, s_pdadd, nI_add, pk_mul, pd_succ, Nat.not_lt_zero, Nat.zero_lt_succ, not_false_eq_true, not_true_eq_false, false_implies, true_implies, implies_true, and_true, true_and, Nat.reduceLT, Nat.reduceLeDiff, Nat.reduceAdd, Nat.reduceSub, Nat.zero_add, Nat.add_zero]
    simpa [cmb] using hK
  | succ n ih =>
    intro i a b sm hi ha hb hsm hK
    have hpn := h.pow (k := n + 1) (by omega)
    have hpi := h.pow (k := i) (by omega)
    have hpi1 := h.pow (k := i + 1) (by omega)
    have e1 : a % q < q := Nat.mod_lt _ (by omega)
    have e2 : b % q < q := Nat.mod_lt _ (by omega)
    have e3 : s * (b % q) ≤ 5 * 5 := Nat.mul_le_mul (by omega) (by omega)
    have e4 : (a % q + s * (b % q)) % q < q := Nat.mod_lt _ (by omega)
    have e5 : (a % q + s * (b % q)) % q * q ^ i ≤ (q - 1) * q ^ i := Nat.mul_le_mul_right _ (by omega)
    have e6 : (q - 1) * q ^ i + q ^ i = q ^ (i + 1) := by
      rw [← Nat.succ_mul, Nat.pow_succ, Nat.mul_comm]
      congr 1
      omega
    have hstep : K (nI ((sm + (a % q + s * (b % q)) % q * q ^ i) + q ^ (i + 1) * cmb q s n (a / q) (b / q))) mi ml := by
      have : (sm + (a % q + s * (b % q)) % q * q ^ i) + q ^ (i + 1) * cmb q s n (a / q) (b / q) = sm + q ^ i * cmb q s (n + 1) a b := by
        show _ = sm + q ^ i * ((a % q + s * (b % q)) % q + q * cmb q s n (a / q) (b / q))
        rw [Nat.mul_add, ← Nat.mul_assoc (q ^ i) q, ← Nat.pow_succ, Nat.mul_comm (q ^ i) ((a % q + s * (b % q)) % q), Nat.add_assoc]
      rw [this]
      exact hK
    have hw := ih (i + 1) (a / q) (b / q) (sm + (a % q + s * (b % q)) % q * q ^ i) (by omega) (div_lt_pow ha h2.1) (div_lt_pow hb h2.1) (by omega) hstep
    apply b_X1_mix_26
    simp (disch := omega) only [s_le, s_lt, s_eq, s_eq0, s_in, s_ix, s_rm, s_div, s_pdlt, s_pdle, s_lepd, s_pdpd, s_pdlepd, s_pdadd, nI_add, pk_mul, pd_succ, Nat.not_lt_zero, Nat.zero_lt_succ, not_false_eq_true, not_true_eq_false, false_implies, true_implies, implies_true, and_true, true_and, Nat.reduceLT, Nat.reduceLeDiff, Nat.reduceAdd, Nat.reduceSub, Nat.zero_add, Nat.add_zero, h.b, h.p]
    refine ⟨fun c => absurd c (by omega), fun _ => ⟨fun _ => ⟨by omega, by omega, by omega, by omega, by omega, by omega, hw⟩, fun c => ⟨fun d => ?_, fun _ => ⟨by omega, by omega, by omega, by omega, by omega, by omega, hw⟩⟩⟩⟩
    have ha0 : a = 0 := by omega
    have hb0 : b = 0 := by omega
    subst ha0
    subst hb0
    rw [cmb_zero s h2.1] at hK
    simpa using hK
theorem p_mix (h : Fg q mi) {a b s : Nat} (ha : a < q ^ 13) (hb : b < q ^ 13) (hs : s < q) (hK : K (nI (cmb q s 13 a b)) mi ml) : wpI G e 154 m_X1_mix [.ref 1, .int (nI a), .int (nI b), .int (nI s)] (mi, ml, RX y) K := by
  have h2 := h.two
  apply e_X1_mix
  simp (disch := omega) only [s_le, s_lt, s_eq, s_eq0, s_in, s_ix, s_rm, s_div, s_pdlt, s_pdle, s_lepd, s_pdpd, s_pdlepd, s_pdadd, nI_add, pk_mul, pd_succ, Nat.not_lt_zero, Nat.zero_lt_succ, not_false_eq_true, not_true_eq_false, false_implies, true_implies, implies_true, and_true, true_and, Nat.reduceLT, Nat.reduceLeDiff, Nat.reduceAdd, Nat.reduceSub, Nat.zero_add, Nat.add_zero, h.b]
  refine ⟨fun _ => p_mix_loop h hs 13 0 a b 0 (by omega) ha hb (by simp) (by simpa using hK), fun c => ?_⟩
  subst c
  refine ⟨fun d => ?_, fun d => ?_⟩
  · have : s = 1 := by omega
    subst this
    rw [fb_xorI, ← cmb_xor ha hb]
    exact hK
  · subst d
    rw [cmb_a (Nat.le_refl 2) b ha] at hK
    exact hK
theorem p_sum (h : Fg q mi) {a b : Nat} (ha : a < q ^ 13) (hb : b < q ^ 13) (hK : K (nI (cmb q 1 13 a b)) mi ml) : wpI G e 154 m_X1_sum [.ref 1, .int (nI a), .int (nI b)] (mi, ml, RX y) K := by
  have h2 := h.two
  apply e_X1_sum
  exact p_mix h ha hb (by omega) hK
theorem p_difference (h : Fg q mi) {a b : Nat} (ha : a < q ^ 13) (hb : b < q ^ 13) (hK : K (nI (cmb q (q - 1) 13 a b)) mi ml) : wpI G e 154 m_X1_difference [.ref 1, .int (nI a), .int (nI b)] (mi, ml, RX y) K := by
  have h2 := h.two
  apply e_X1_difference
  rw [h.b, s_sub (by omega)]
  exact p_mix h ha hb (by omega) hK
theorem iv_lt (hq : q = 2 ∨ q = 3 ∨ q = 5) {f : Nat} (hf : f < q) : iv q f < q := by
  rcases hq with rfl | rfl | rfl
  · exact (show ∀ f, f < 2 → iv 2 f < 2 by decide) f hf
  · exact (show ∀ f, f < 3 → iv 3 f < 3 by decide) f hf
  · exact (show ∀ f, f < 5 → iv 5 f < 5 by decide) f hf
theorem iv_mul (hq : q = 2 ∨ q = 3 ∨ q = 5) {f : Nat} (hf : f < q) (h0 : f ≠ 0) : f * iv q f % q = 1 := by
  rcases hq with rfl | rfl | rfl
  · exact (show ∀ f, f < 2 → f ≠ 0 → f * iv 2 f % 2 = 1 by decide) f hf h0
  · exact (show ∀ f, f < 3 → f ≠ 0 → f * iv 3 f % 3 = 1 by decide) f hf h0
  · exact (show ∀ f, f < 5 → f ≠ 0 → f * iv 5 f % 5 = 1 by decide) f hf h0
/-- a by its first figure -/
def mon (q a : Nat) : Nat := cmb q (iv q (fst q a)) 13 0 a
theorem p_monic (h : Fg q mi) {a : Nat} (ha : a < q ^ 13) (hK : K (nI (mon q a)) mi ml) : wpI G e 154 m_X1_monic [.ref 1, .int (nI a)] (mi, ml, RX y) K := by
  have h2 := h.two
  have hf := fst_lt h2.1 a
  have hp0 : 0 < q ^ 13 := Nat.pow_pos (by omega)
  apply e_X1_monic
  refine p_degree h ha ?_
  have hfig : ∀ (K : Int32 → (Nat → Nat → Int32) → (Nat → Nat → Int64) → Prop), K (nI (fst q a)) mi ml → wpI G e 154 m_X1_figure [.ref 1, .int (nI a), .int (pd (ln q 13 a))] (mi, ml, RX y) K := by
    intro K hK
    unfold fst at hK
    have hl := ln_le q 13 a
    cases hc : ln q 13 a with
    | zero => rw [hc] at hK; exact p_figureN h hK
    | succ k =>
      rw [hc] at hK hl
      rw [pd_succ]
      exact p_figure h ha (by omega) hK
  refine hfig _ ?_
  refine p_inverse h hf ?_
  exact p_mix h hp0 ha (iv_lt h.1 hf) hK
theorem p_fits (h : Fg q mi) {a b : Nat} (ha : a < q ^ 13) (hb : b < q ^ 13) (h1 : ln q 13 a + ln q 13 b ≤ 14 → K (nI 1) mi ml) (h0 : 14 < ln q 13 a + ln q 13 b → K (nI 0) mi ml) : wpI G e 154 m_X1_fits [.ref 1, .int (nI a), .int (nI b)] (mi, ml, RX y) K := by
  apply e_X1_fits
  refine p_degree h ha (p_degree h hb ?_)
  have hla := ln_le q 13 a
  have hlb := ln_le q 13 b
  have e1 : (nI 13 ≤ pd (ln q 13 a) + pd (ln q 13 b)) ↔ 15 ≤ ln q 13 a + ln q 13 b := by
    have e2 : pd (ln q 13 a) + pd (ln q 13 b) = Int32.ofInt ((ln q 13 a : Int) - 1 + ((ln q 13 b : Int) - 1)) := by
      refine Int32.toInt_inj.mp ?_
      rw [fb_addI (by rw [pd_toInt (by omega), pd_toInt (by omega)]; omega) (by rw [pd_toInt (by omega), pd_toInt (by omega)]; omega), pd_toInt (by omega), pd_toInt (by omega), fb_ofI (by omega) (by omega)]
    rw [e2, Int32.le_iff_toInt_le, nI_toInt (by omega), fb_ofI (by omega) (by omega)]
    omega
  rw [e1]
  exact ⟨fun c => ⟨Or.inl rfl, h0 (by omega)⟩, fun c => ⟨Or.inr rfl, h1 (by omega)⟩⟩
end FIG
