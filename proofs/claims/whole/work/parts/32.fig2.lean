/-! PowersForTimes$Figures: products, rests, quotients -/
theorem lt_dg {q : Nat} (hq : 2 ≤ q) {n m a : Nat} (ha : a < q ^ n) (h : ∀ k, m ≤ k → k < n → dg q a k = 0) : a < q ^ m := by
  have hl := ln_lt ha
  have hle := ln_le q n a
  rcases Nat.lt_or_ge m (ln q n a) with c | c
  · cases hc : ln q n a with
    | zero => omega
    | succ k =>
      have h1 := (dg_ln hq ha hc).1
      have h2 := h k (by omega) (by omega)
      omega
  · exact Nat.lt_of_lt_of_le hl (Nat.pow_le_pow_right (by omega) c)
theorem cmb_small {q s : Nat} (hq : 2 ≤ q) {m x b : Nat} (hx : x < q ^ m) (hb : b < q ^ m) : cmb q s 13 x b < q ^ m := by
  refine lt_dg hq (cmb_lt s hq 13 x b) (fun k hk h13 => ?_)
  rw [cmb_dg s hq, if_pos h13, dg_big hx hk hq, dg_big hb hk hq]
  simp
theorem ln_zero_iff {q a : Nat} (hq : 2 ≤ q) (ha : a < q ^ 13) : ln q 13 a = 0 ↔ a = 0 := ⟨fun h => by have := ln_lt ha; rw [h] at this; simpa using this, fun h => by rw [h]; exact ln_zero hq 13⟩
def hor (q a b : Nat) : Nat → Nat → Nat
  | 0, s => s
  | n + 1, s => hor q a b n (cmb q (dg q a n) 13 (s * q) b)
def prd (q a b : Nat) : Nat := hor q a b (ln q 13 a) 0
def rs (q b t lb : Nat) : Nat → Nat → Nat
  | 0, a => a
  | n + 1, a => if n + 1 < lb then a else rs q b t lb n (cmb q ((q - dg q a n * t % q) % q) 13 a (b * q ^ (n + 1 - lb)))
/-- what a leaves by b -/
def rst (q a b : Nat) : Nat := rs q b (iv q (fst q b)) (ln q 13 b) (ln q 13 a) a
def qs (q b t lb : Nat) : Nat → Nat → Nat → Nat
  | 0, _, w => w
  | n + 1, a, w => if n + 1 < lb then w else qs q b t lb n (cmb q ((q - dg q a n * t % q) % q) 13 a (b * q ^ (n + 1 - lb))) (w + dg q a n * t % q * q ^ (n + 1 - lb))
def quo (q a b : Nat) : Nat := qs q b (iv q (fst q b)) (ln q 13 b) (ln q 13 a) a 0
def gcl (q : Nat) : Nat → Nat → Nat → Nat
  | 0, a, _ => mon q a
  | n + 1, a, b => if b = 0 then mon q a else gcl q n b (rst q a b)
def gcn (q a b : Nat) : Nat := gcl q 26 a b
def pbl (q a b m top : Nat) : Nat → Nat → Nat
  | 0, s => s
  | n + 1, s => pbl q a b m top n (cmb q (dg q a n) 13 (cmb q ((q - dg q (s * q) top) % q) 13 (s * q) m) b)
/-- a times b by m -/
def pby (q a b m : Nat) : Nat := pbl q a b m (ln q 13 m - 1) (ln q 13 a) 0
def tbl (q a m : Nat) : Nat → Nat → Nat
  | 0, p => p
  | n + 1, p => tbl q a m n (pby q p a m)
/-- a to the power of q by m -/
def tby (q a m : Nat) : Nat := tbl q a m (q - 1) a
section FIG2
variable {G : GC} {e q : Nat} {mi : Nat → Nat → Int32} {ml : Nat → Nat → Int64} {y : Nat → Nat → Option Nat} {K : Int32 → (Nat → Nat → Int32) → (Nat → Nat → Int64) → Prop}
theorem p_product_loop (h : Fg q mi) {a b la L : Nat} (ha : a < q ^ 13) (hb : b < q ^ L) (hL : 1 ≤ L) (hfit : L + la ≤ 14) : ∀ (n s : Nat), n ≤ la → la ≤ 13 → s < q ^ (L - 1 + (la - n)) → K (nI (hor q a b n s)) mi ml → wp G e tX m_X1_product 9 [(0, .ref 1), (1, .int (nI a)), (2, .int (nI b)), (3, .int (nI s)), (4, .int (pd n))] [] (mi, ml, RX y) (QI K) := by
  have h2 := h.two
  intro n
  induction n with
  | zero =>
    intro s hn hla hs hK
    apply b_X1_product_9
    simp (disch := omega) only [s_le, s_lt, s_eq, s_eq0, s_in, s_ix, s_rm, s_div, s_pdlt, s_pdle, s_lepd, s_pdpd, s_pdlepd, s_pdadd, nI_add, pk_mul, pd_succ, Nat.not_lt_zero, Nat.zero_lt_succ, not_false_eq_true, not_true_eq_false, false_implies, true_implies, implies_true, and_true, true_and, Nat.reduceLT, Nat.reduceLeDiff, Nat.reduceAdd, Nat.reduceSub, Nat.zero_add, Nat.add_zero]
    exact hK
  | succ n ih =>
    intro s hn hla hs hK
    apply b_X1_product_9
    rw [pd_succ]
    have hs2 : s * q < q ^ (L + (la - (n + 1))) := by
      have e1 : L + (la - (n + 1)) = (L - 1 + (la - (n + 1))) + 1 := by omega
      rw [e1, Nat.pow_succ]
      exact Nat.mul_lt_mul_of_pos_right hs (by omega)
    have hs13 : s * q < q ^ 13 := Nat.lt_of_lt_of_le hs2 (Nat.pow_le_pow_right (by omega) (by omega))
    have hb13 : b < q ^ 13 := Nat.lt_of_lt_of_le hb (Nat.pow_le_pow_right (by omega) (by omega))
    simp (disch := omega) only [s_le, s_lt, s_eq, s_eq0, s_in, s_ix, s_rm, s_div, s_pdlt, s_pdle, s_lepd, s_pdpd, s_pdlepd, s_pdadd, nI_add, pk_mul, pd_succ, Nat.not_lt_zero, Nat.zero_lt_succ, not_false_eq_true, not_true_eq_false, false_implies, true_implies, implies_true, and_true, true_and, Nat.reduceLT, Nat.reduceLeDiff, Nat.reduceAdd, Nat.reduceSub, Nat.zero_add, Nat.add_zero, h.b]
    refine p_figure h ha (by omega) (p_mix h hs13 hb13 (dg_lt h2.1) ?_)
    refine ih _ (by omega) hla ?_ hK
    have e2 : L - 1 + (la - n) = L + (la - (n + 1)) := by omega
    rw [e2]
    exact cmb_small h2.1 hs2 (Nat.lt_of_lt_of_le hb (Nat.pow_le_pow_right (by omega) (by omega)))
theorem p_product (h : Fg q mi) {a b : Nat} (ha : a < q ^ 13) (hb : b < q ^ 13) (hf : ln q 13 a + ln q 13 b ≤ 14) (hK : K (nI (prd q a b)) mi ml) : wpI G e 154 m_X1_product [.ref 1, .int (nI a), .int (nI b)] (mi, ml, RX y) K := by
  have h2 := h.two
  have hla := ln_le q 13 a
  have hlb := ln_lt hb
  apply e_X1_product
  refine p_degree h ha ?_
  refine p_product_loop h (L := max 1 (ln q 13 b)) (la := ln q 13 a) ha (Nat.lt_of_lt_of_le hlb (Nat.pow_le_pow_right (by omega) (by omega))) (by omega) (by omega) _ _ (Nat.le_refl _) hla (Nat.pow_pos (by omega)) hK
theorem mod_q_lt (h2 : 2 ≤ q) (x : Nat) : x % q < q := Nat.mod_lt _ (by omega)
theorem mul_small {a b q : Nat} (ha : a < q) (hb : b < q) (hq : q ≤ 5) : a * b < 2 ^ 31 := by
  have : a * b ≤ 5 * 5 := Nat.mul_le_mul (by omega) (by omega)
  omega
theorem p_rest_loop (h : Fg q mi) {b t lb : Nat} (hb : b < q ^ lb) (hlb : 1 ≤ lb) (hlb13 : lb ≤ 13) (ht : t < q) : ∀ (n a : Nat), n ≤ 13 → a < q ^ 13 → K (nI (rs q b t lb n a)) mi ml → wp G e tX m_X1_rest 25 [(0, .ref 1), (1, .int (nI a)), (2, .int (nI b)), (3, .int (pd lb)), (4, .int (nI t)), (5, .int (pd n))] [] (mi, ml, RX y) (QI K) := by
  have h2 := h.two
  obtain ⟨l, rfl⟩ : ∃ l, lb = l + 1 := ⟨lb - 1, by omega⟩
  rw [pd_succ]
  intro n
  induction n with
  | zero =>
    intro a hn ha hK
    apply b_X1_rest_25
    simp (disch := omega) only [s_le, s_lt, s_eq, s_eq0, s_in, s_ix, s_rm, s_div, s_pdlt, s_pdle, s_lepd, s_pdpd, s_pdlepd, s_pdadd, nI_add, pk_mul, pd_succ, Nat.not_lt_zero, Nat.zero_lt_succ, not_false_eq_true, not_true_eq_false, false_implies, true_implies, implies_true, and_true, true_and, Nat.reduceLT, Nat.reduceLeDiff, Nat.reduceAdd, Nat.reduceSub, Nat.zero_add, Nat.add_zero]
    exact hK
  | succ n ih =>
    intro a hn ha hK
    apply b_X1_rest_25
    unfold rs at hK
    rw [pd_succ]
    simp (disch := omega) only [s_le, s_lt, s_eq, s_eq0, s_in, s_ix, s_rm, s_div, s_pdlt, s_pdle, s_lepd, s_pdpd, s_pdlepd, s_pdadd, nI_add, pk_mul, pd_succ, Nat.not_lt_zero, Nat.zero_lt_succ, not_false_eq_true, not_true_eq_false, false_implies, true_implies, implies_true, and_true, true_and, Nat.reduceLT, Nat.reduceLeDiff, Nat.reduceAdd, Nat.reduceSub, Nat.zero_add, Nat.add_zero]
    refine ⟨fun c => ?_, fun c => ?_⟩
    · rw [if_pos (by omega)] at hK
      exact hK
    · rw [if_neg (by omega)] at hK
      have hf := dg_lt (n := a) (k := n) h2.1
      have hm := mul_small hf ht h2.2
      have hmq : dg q a n * t % q < q := mod_q_lt h2.1 _
      have hbn : b * q ^ (n - l) < q ^ 13 := by
        have e1 : b * q ^ (n - l) < q ^ (l + 1) * q ^ (n - l) := Nat.mul_lt_mul_of_pos_right hb (Nat.pow_pos (by omega))
        rw [← Nat.pow_add] at e1
        exact Nat.lt_of_lt_of_le e1 (Nat.pow_le_pow_right (by omega) (by omega))
      refine p_figure h ha (by omega) ?_
      rw [s_sub (by omega), h.b]
      simp (disch := omega) only [s_le, s_lt, s_eq, s_eq0, s_in, s_ix, s_rm, s_div, s_pdlt, s_pdle, s_lepd, s_pdpd, s_pdlepd, s_pdadd, nI_add, pk_mul, pd_succ, Nat.not_lt_zero, Nat.zero_lt_succ, not_false_eq_true, not_true_eq_false, false_implies, true_implies, implies_true, and_true, true_and, Nat.reduceLT, Nat.reduceLeDiff, Nat.reduceAdd, Nat.reduceSub, Nat.zero_add, Nat.add_zero]
      refine ⟨by omega, p_power h (by omega) (p_negative h (Nat.le_of_lt hmq) ?_)⟩
      rw [pk_mul]
      refine p_mix h ha hbn (mod_q_lt h2.1 _) ?_
      refine ih _ (by omega) (cmb_lt _ h2.1 _ _ _) ?_
      have e2 : n + 1 - (l + 1) = n - l := by omega
      rw [e2] at hK
      exact hK
theorem p_figtop (h : Fg q mi) {a : Nat} (ha : a < q ^ 13) (hK : K (nI (fst q a)) mi ml) : wpI G e 154 m_X1_figure [.ref 1, .int (nI a), .int (pd (ln q 13 a))] (mi, ml, RX y) K := by
  unfold fst at hK
  have hl := ln_le q 13 a
  cases hc : ln q 13 a with
  | zero => rw [hc] at hK; exact p_figureN h hK
  | succ k =>
    rw [hc] at hK hl
    rw [pd_succ]
    exact p_figure h ha (by omega) hK
theorem p_rest (h : Fg q mi) {a b : Nat} (ha : a < q ^ 13) (hb : b < q ^ 13) (h0 : 0 < b) (hK : K (nI (rst q a b)) mi ml) : wpI G e 154 m_X1_rest [.ref 1, .int (nI a), .int (nI b)] (mi, ml, RX y) K := by
  have h2 := h.two
  apply e_X1_rest
  refine p_degree h hb (p_figtop h hb (p_inverse h (fst_lt h2.1 b) (p_degree h ha ?_)))
  exact p_rest_loop h (ln_lt hb) (ln_pos hb h0) (ln_le q 13 b) (iv_lt h.1 (fst_lt h2.1 b)) _ _ (ln_le q 13 a) ha hK
theorem p_quotient_loop (h : Fg q mi) {b t lb : Nat} (hb : b < q ^ lb) (hlb : 1 ≤ lb) (hlb13 : lb ≤ 13) (ht : t < q) : ∀ (n a w : Nat), n ≤ 13 → a < q ^ 13 → w + q ^ (n + 1 - lb) ≤ q ^ 13 → K (nI (qs q b t lb n a w)) mi ml → wp G e tX m_X1_quotient 28 [(0, .ref 1), (1, .int (nI a)), (2, .int (nI b)), (3, .int (pd lb)), (4, .int (nI t)), (5, .int (nI w)), (6, .int (pd n))] [] (mi, ml, RX y) (QI K) := by
  have h2 := h.two
  have h13 := h.pow (k := 13) (by omega)
  obtain ⟨l, rfl⟩ : ∃ l, lb = l + 1 := ⟨lb - 1, by omega⟩
  rw [pd_succ]
  intro n
  induction n with
  | zero =>
    intro a w hn ha hw hK
    apply b_X1_quotient_28
    simp (disch := omega) only [s_le, s_lt, s_eq, s_eq0, s_in, s_ix, s_rm, s_div, s_pdlt, s_pdle, s_lepd, s_pdpd, s_pdlepd, s_pdadd, nI_add, pk_mul, pd_succ, Nat.not_lt_zero, Nat.zero_lt_succ, not_false_eq_true, not_true_eq_false, false_implies, true_implies, implies_true, and_true, true_and, Nat.reduceLT, Nat.reduceLeDiff, Nat.reduceAdd, Nat.reduceSub, Nat.zero_add, Nat.add_zero]
    exact hK
  | succ n ih =>
    intro a w hn ha hw hK
    apply b_X1_quotient_28
    unfold qs at hK
    rw [pd_succ]
    simp (disch := omega) only [s_le, s_lt, s_eq, s_eq0, s_in, s_ix, s_rm, s_div, s_pdlt, s_pdle, s_lepd, s_pdpd, s_pdlepd, s_pdadd, nI_add, pk_mul, pd_succ, Nat.not_lt_zero, Nat.zero_lt_succ, not_false_eq_true, not_true_eq_false, false_implies, true_implies, implies_true, and_true, true_and, Nat.reduceLT, Nat.reduceLeDiff, Nat.reduceAdd, Nat.reduceSub, Nat.zero_add, Nat.add_zero]
    refine ⟨fun c => ?_, fun c => ?_⟩
    · rw [if_pos (by omega)] at hK
      exact hK
    · rw [if_neg (by omega)] at hK
      have hf := dg_lt (n := a) (k := n) h2.1
      have hm := mul_small hf ht h2.2
      have hmq : dg q a n * t % q < q := mod_q_lt h2.1 _
      have hbn : b * q ^ (n - l) < q ^ 13 := by
        have e1 : b * q ^ (n - l) < q ^ (l + 1) * q ^ (n - l) := Nat.mul_lt_mul_of_pos_right hb (Nat.pow_pos (by omega))
        rw [← Nat.pow_add] at e1
        exact Nat.lt_of_lt_of_le e1 (Nat.pow_le_pow_right (by omega) (by omega))
      have e2 : n + 1 - (l + 1) = n - l := by omega
      have e3 : n + 1 + 1 - (l + 1) = (n - l) + 1 := by omega
      rw [e2] at hK
      rw [e3, Nat.pow_succ] at hw
      have e4 : dg q a n * t % q * q ^ (n - l) ≤ (q - 1) * q ^ (n - l) := Nat.mul_le_mul_right _ (by omega)
      have e5 : (q - 1) * q ^ (n - l) + q ^ (n - l) = q ^ (n - l) * q := by
        rw [← Nat.succ_mul, Nat.mul_comm]
        congr 1
        omega
      refine p_figure h ha (by omega) ?_
      rw [s_sub (by omega), h.b]
      simp (disch := omega) only [s_le, s_lt, s_eq, s_eq0, s_in, s_ix, s_rm, s_div, s_pdlt, s_pdle, s_lepd, s_pdpd, s_pdlepd, s_pdadd, nI_add, pk_mul, pd_succ, Nat.not_lt_zero, Nat.zero_lt_succ, not_false_eq_true, not_true_eq_false, false_implies, true_implies, implies_true, and_true, true_and, Nat.reduceLT, Nat.reduceLeDiff, Nat.reduceAdd, Nat.reduceSub, Nat.zero_add, Nat.add_zero]
      refine ⟨by omega, p_power h (by omega) (p_negative h (Nat.le_of_lt hmq) ?_)⟩
      rw [pk_mul]
      refine p_mix h ha hbn (mod_q_lt h2.1 _) (p_power h (by omega) ?_)
      rw [pk_mul, nI_add]
      refine ih _ _ (by omega) (cmb_lt _ h2.1 _ _ _) ?_ hK
      rw [e2]
      omega
theorem p_quotient (h : Fg q mi) {a b : Nat} (ha : a < q ^ 13) (hb : b < q ^ 13) (h0 : 0 < b) (hK : K (nI (quo q a b)) mi ml) : wpI G e 154 m_X1_quotient [.ref 1, .int (nI a), .int (nI b)] (mi, ml, RX y) K := by
  have h2 := h.two
  have hl := ln_le q 13 a
  have hp := ln_pos hb h0
  apply e_X1_quotient
  refine p_degree h hb (p_figtop h hb (p_inverse h (fst_lt h2.1 b) (p_degree h ha ?_)))
  refine p_quotient_loop h (ln_lt hb) hp (ln_le q 13 b) (iv_lt h.1 (fst_lt h2.1 b)) _ _ 0 hl ha ?_ hK
  rw [Nat.zero_add]
  exact Nat.pow_le_pow_right (by omega) (by omega)
theorem rs_lt (h2 : 2 ≤ q) {b t lb : Nat} : ∀ (n a : Nat), a < q ^ 13 → rs q b t lb n a < q ^ 13
  | 0, a, ha => ha
  | n + 1, a, ha => by
    unfold rs
    split
    · exact ha
    · exact rs_lt h2 n _ (cmb_lt _ h2 _ _ _)
theorem rst_lt (h2 : 2 ≤ q) {a b : Nat} (ha : a < q ^ 13) : rst q a b < q ^ 13 := rs_lt h2 _ _ ha
theorem p_common_loop (h : Fg q mi) : ∀ (n i a b : Nat), i + n = 26 → a < q ^ 13 → b < q ^ 13 → K (nI (gcl q n a b)) mi ml → wp G e tX m_X1_common 2 [(0, .ref 1), (1, .int (nI a)), (2, .int (nI b)), (3, .int (nI i))] [] (mi, ml, RX y) (QI K) := by
  have h2 := h.two
  have h13 := h.pow (k := 13) (by omega)
  intro n
  induction n with
  | zero =>
    intro i a b hi ha hb hK
    apply b_X1_common_2
    simp (disch := omega) only [s_le, s_lt, s_eq, s_eq0, s_in, s_ix, s_rm, s_div, s_pdlt, s_pdle, s_lepd, s_pdpd, s_pdlepd, s_pdadd, nI_add, pk_mul, pd_succ, Nat.not_lt_zero, Nat.zero_lt_succ, not_false_eq_true, not_true_eq_false, false_implies, true_implies, implies_true, and_true, true_and, Nat.reduceLT, Nat.reduceLeDiff, Nat.reduceAdd, Nat.reduceSub, Nat.zero_add, Nat.add_zero]
    exact ⟨fun _ => p_monic h ha hK, fun c => absurd c (by omega)⟩
  | succ n ih =>
    intro i a b hi ha hb hK
    apply b_X1_common_2
    unfold gcl at hK
    simp (disch := omega) only [s_le, s_lt, s_eq, s_eq0, s_in, s_ix, s_rm, s_div, s_pdlt, s_pdle, s_lepd, s_pdpd, s_pdlepd, s_pdadd, nI_add, pk_mul, pd_succ, Nat.not_lt_zero, Nat.zero_lt_succ, not_false_eq_true, not_true_eq_false, false_implies, true_implies, implies_true, and_true, true_and, Nat.reduceLT, Nat.reduceLeDiff, Nat.reduceAdd, Nat.reduceSub, Nat.zero_add, Nat.add_zero]
    refine ⟨fun c => absurd c (by omega), fun _ => ⟨fun c => ?_, fun c => ?_⟩⟩
    · rw [if_pos c] at hK
      exact p_monic h ha hK
    · rw [if_neg c] at hK
      refine p_rest h ha hb (by omega) ?_
      exact ih (i + 1) _ _ (by omega) hb (rst_lt h2.1 ha) hK
theorem p_common (h : Fg q mi) {a b : Nat} (ha : a < q ^ 13) (hb : b < q ^ 13) (hK : K (nI (gcn q a b)) mi ml) : wpI G e 154 m_X1_common [.ref 1, .int (nI a), .int (nI b)] (mi, ml, RX y) K := by
  apply e_X1_common
  exact p_common_loop h 26 0 a b (by omega) ha hb hK
/-- for a monic m of degree top: a and b of lesser degree -/
theorem pb_step (h2 : 2 ≤ q) {m top s b f : Nat} (hm : m < q ^ (top + 1)) (hm1 : dg q m top = 1) (h12 : top ≤ 12) (hs : s < q ^ top) (hb : b < q ^ top) : cmb q ((q - dg q (s * q) top) % q) 13 (s * q) m < q ^ top ∧ cmb q f 13 (cmb q ((q - dg q (s * q) top) % q) 13 (s * q) m) b < q ^ top := by
  have hs2 : s * q < q ^ (top + 1) := by rw [Nat.pow_succ]; exact Nat.mul_lt_mul_of_pos_right hs (by omega)
  have h1 : cmb q ((q - dg q (s * q) top) % q) 13 (s * q) m < q ^ top := by
    refine lt_dg h2 (cmb_lt _ h2 13 _ _) (fun k hk h13 => ?_)
    rw [cmb_dg _ h2, if_pos h13]
    rcases Nat.eq_or_lt_of_le hk with c | c
    · subst c
      rw [hm1, Nat.mul_one, Nat.add_mod, Nat.mod_mod, ← Nat.add_mod]
      have := dg_lt (n := s * q) (k := top) h2
      rw [show dg q (s * q) top + (q - dg q (s * q) top) = q by omega, Nat.mod_self]
    · rw [dg_big hs2 (by omega) h2, dg_big hm (by omega) h2]
      simp
  exact ⟨h1, cmb_small h2 h1 hb⟩
theorem p_productBy_loop (h : Fg q mi) {a b m top : Nat} (ha : a < q ^ 13) (hm : m < q ^ (top + 1)) (hm1 : dg q m top = 1) (h12 : top ≤ 12) (hb : b < q ^ top) : ∀ (n s : Nat), n ≤ 13 → s < q ^ top → K (nI (pbl q a b m top n s)) mi ml → wp G e tX m_X1_productBy 17 [(0, .ref 1), (1, .int (nI a)), (2, .int (nI b)), (3, .int (nI m)), (4, .int (nI top)), (5, .int (nI s)), (6, .int (pd n))] [] (mi, ml, RX y) (QI K) := by
  have h2 := h.two
  have h13 := h.pow (k := 13) (by omega)
  have le13 : ∀ {k : Nat}, k ≤ 13 → ∀ {x : Nat}, x < q ^ k → x < q ^ 13 := fun hk _ hx => Nat.lt_of_lt_of_le hx (Nat.pow_le_pow_right (by omega) hk)
  intro n
  induction n with
  | zero =>
    intro s hn hs hK
    apply b_X1_productBy_17
    simp (disch := omega) only [s_le, s_lt, s_eq, s_eq0, s_in, s_ix, s_rm, s_div, s_pdlt, s_pdle, s_lepd, s_pdpd, s_pdlepd, s_pdadd, nI_add, pk_mul, pd_succ, Nat.not_lt_zero, Nat.zero_lt_succ, not_false_eq_true, not_true_eq_false, false_implies, true_implies, implies_true, and_true, true_and, Nat.reduceLT, Nat.reduceLeDiff, Nat.reduceAdd, Nat.reduceSub, Nat.zero_add, Nat.add_zero]
    exact hK
  | succ n ih =>
    intro s hn hs hK
    apply b_X1_productBy_17
    unfold pbl at hK
    have hs2 : s * q < q ^ (top + 1) := by rw [Nat.pow_succ]; exact Nat.mul_lt_mul_of_pos_right hs (by omega)
    have hst := pb_step (f := dg q a n) h2.1 hm hm1 h12 hs hb
    rw [pd_succ]
    simp (disch := omega) only [s_le, s_lt, s_eq, s_eq0, s_in, s_ix, s_rm, s_div, s_pdlt, s_pdle, s_lepd, s_pdpd, s_pdlepd, s_pdadd, nI_add, pk_mul, pd_succ, Nat.not_lt_zero, Nat.zero_lt_succ, not_false_eq_true, not_true_eq_false, false_implies, true_implies, implies_true, and_true, true_and, Nat.reduceLT, Nat.reduceLeDiff, Nat.reduceAdd, Nat.reduceSub, Nat.zero_add, Nat.add_zero, h.b]
    refine p_figure h (le13 (by omega) hs2) (by omega) (p_negative h (Nat.le_of_lt (dg_lt h2.1)) ?_)
    refine p_mix h (le13 (by omega) hs2) (le13 (by omega) hm) (mod_q_lt h2.1 _) (p_figure h ha (by omega) ?_)
    refine p_mix h (le13 (by omega) hst.1) (le13 (by omega) hb) (dg_lt h2.1) ?_
    exact ih _ (by omega) hst.2 hK
theorem p_productBy (h : Fg q mi) {a b m top : Nat} (ha : a < q ^ 13) (hl : ln q 13 m = top + 1) (hm : m < q ^ 13) (hm1 : dg q m top = 1) (hb : b < q ^ top) (hK : K (nI (pby q a b m)) mi ml) : wpI G e 154 m_X1_productBy [.ref 1, .int (nI a), .int (nI b), .int (nI m)] (mi, ml, RX y) K := by
  have h2 := h.two
  have hle := ln_le q 13 m
  apply e_X1_productBy
  refine p_degree h hm (p_degree h ha ?_)
  rw [hl, pd_succ]
  unfold pby at hK
  rw [hl] at hK
  refine p_productBy_loop h ha ?_ hm1 (by omega) hb _ 0 (ln_le q 13 a) (Nat.pow_pos (by omega)) hK
  rw [← hl]
  exact ln_lt hm
theorem pbl_lt (h2 : 2 ≤ q) {a b m top : Nat} (hm : m < q ^ (top + 1)) (hm1 : dg q m top = 1) (h12 : top ≤ 12) (hb : b < q ^ top) : ∀ (n s : Nat), s < q ^ top → pbl q a b m top n s < q ^ top
  | 0, s, hs => hs
  | n + 1, s, hs => pbl_lt h2 hm hm1 h12 hb n _ (pb_step h2 hm hm1 h12 hs hb).2
theorem pby_lt (h2 : 2 ≤ q) {a b m top : Nat} (hl : ln q 13 m = top + 1) (hm : m < q ^ 13) (hm1 : dg q m top = 1) (hb : b < q ^ top) : pby q a b m < q ^ top := by
  have hle := ln_le q 13 m
  have h9 := ln_lt hm
  unfold pby
  rw [hl] at h9 ⊢
  exact pbl_lt h2 h9 hm1 (by omega) hb _ 0 (Nat.pow_pos (by omega))
theorem p_turnedBy_loop (h : Fg q mi) {a m top : Nat} (ha : a < q ^ top) (hl : ln q 13 m = top + 1) (hm : m < q ^ 13) (hm1 : dg q m top = 1) : ∀ (n i p : Nat), i + n = q → 1 ≤ i → p < q ^ top → K (nI (tbl q a m n p)) mi ml → wp G e tX m_X1_turnedBy 5 [(0, .ref 1), (1, .int (nI a)), (2, .int (nI m)), (3, .int (nI p)), (4, .int (nI i))] [] (mi, ml, RX y) (QI K) := by
  have h2 := h.two
  have hle := ln_le q 13 m
  have le13 : ∀ {k : Nat}, k ≤ 13 → ∀ {x : Nat}, x < q ^ k → x < q ^ 13 := fun hk _ hx => Nat.lt_of_lt_of_le hx (Nat.pow_le_pow_right (by omega) hk)
  intro n
  induction n with
  | zero =>
    intro i p hi h1 hp hK
    apply b_X1_turnedBy_5
    simp (disch := omega) only [s_le, s_lt, s_eq, s_eq0, s_in, s_ix, s_rm, s_div, s_pdlt, s_pdle, s_lepd, s_pdpd, s_pdlepd, s_pdadd, nI_add, pk_mul, pd_succ, Nat.not_lt_zero, Nat.zero_lt_succ, not_false_eq_true, not_true_eq_false, false_implies, true_implies, implies_true, and_true, true_and, Nat.reduceLT, Nat.reduceLeDiff, Nat.reduceAdd, Nat.reduceSub, Nat.zero_add, Nat.add_zero, h.b]
    exact ⟨fun _ => hK, fun c => absurd c (by omega)⟩
  | succ n ih =>
    intro i p hi h1 hp hK
    apply b_X1_turnedBy_5
    unfold tbl at hK
    simp (disch := omega) only [s_le, s_lt, s_eq, s_eq0, s_in, s_ix, s_rm, s_div, s_pdlt, s_pdle, s_lepd, s_pdpd, s_pdlepd, s_pdadd, nI_add, pk_mul, pd_succ, Nat.not_lt_zero, Nat.zero_lt_succ, not_false_eq_true, not_true_eq_false, false_implies, true_implies, implies_true, and_true, true_and, Nat.reduceLT, Nat.reduceLeDiff, Nat.reduceAdd, Nat.reduceSub, Nat.zero_add, Nat.add_zero, h.b]
    refine ⟨fun c => absurd c (by omega), fun _ => ?_⟩
    refine p_productBy h (le13 (by omega) hp) hl hm hm1 ha ?_
    exact ih (i + 1) _ (by omega) (by omega) (pby_lt h2.1 hl hm hm1 ha) hK
theorem p_turnedBy (h : Fg q mi) {a m top : Nat} (ha : a < q ^ top) (hl : ln q 13 m = top + 1) (hm : m < q ^ 13) (hm1 : dg q m top = 1) (hK : K (nI (tby q a m)) mi ml) : wpI G e 154 m_X1_turnedBy [.ref 1, .int (nI a), .int (nI m)] (mi, ml, RX y) K := by
  have h2 := h.two
  apply e_X1_turnedBy
  exact p_turnedBy_loop h ha hl hm hm1 (q - 1) 1 a (by omega) (by omega) ha hK
end FIG2
