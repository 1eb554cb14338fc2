/-! what a rest is bounded by; class Primes: the small ones -/
theorem dg_mul {q : Nat} (h2 : 2 ≤ q) (b : Nat) : ∀ (j k : Nat), j ≤ k → dg q (b * q ^ j) k = dg q b (k - j) := by
  intro j k hjk
  unfold dg
  have e : q ^ k = q ^ j * q ^ (k - j) := by rw [← Nat.pow_add]; congr 1; omega
  rw [e, ← Nat.div_div_eq_div_mul, Nat.mul_div_cancel _ (Nat.pow_pos (by omega))]
def tgB (q : Nat) : Bool := (List.range 5).all fun x => (List.range 5).all fun f => (List.range 5).all fun t => !(decide (x < q) && decide (f < q) && decide (t < q) && Nat.beq (f * t % q) 1) || Nat.beq ((x + (q - x * t % q) % q * f) % q) 0
theorem tgB_ok : tgB 2 = true ∧ tgB 3 = true ∧ tgB 5 = true := by decide +kernel
theorem top_gone {q : Nat} (hq : q = 2 ∨ q = 3 ∨ q = 5) {x f t : Nat} (hx : x < q) (hf : f < q) (ht : t < q) (h1 : f * t % q = 1) : (x + (q - x * t % q) % q * f) % q = 0 := by
  have hb : tgB q = true := by
    rcases hq with rfl | rfl | rfl
    · exact tgB_ok.1
    · exact tgB_ok.2.1
    · exact tgB_ok.2.2
  have a1 := List.all_eq_true.mp hb x (List.mem_range.mpr (by omega))
  have a2 := List.all_eq_true.mp a1 f (List.mem_range.mpr (by omega))
  have a3 := List.all_eq_true.mp a2 t (List.mem_range.mpr (by omega))
  simp only [hx, hf, ht, decide_true, Bool.true_and, Bool.or_eq_true, Bool.not_eq_true'] at a3
  rcases a3 with z | z
  · rw [nbq.mpr h1] at z
    cases z
  · exact nbq.mp z
theorem rs_small {q b t lb : Nat} (hq : q = 2 ∨ q = 3 ∨ q = 5) (hb : b < q ^ lb) (hlb : 1 ≤ lb) (ht : t < q) (hf : dg q b (lb - 1) * t % q = 1) : ∀ (n a : Nat), n ≤ 13 → a < q ^ n → rs q b t lb n a < q ^ (lb - 1) := by
  have h2 : 2 ≤ q ∧ q ≤ 5 := by omega
  intro n
  induction n with
  | zero =>
    intro a _ ha
    unfold rs
    exact Nat.lt_of_lt_of_le ha (Nat.pow_le_pow_right (by omega) (by omega))
  | succ n ih =>
    intro a hn ha
    unfold rs
    split
    · next c => exact Nat.lt_of_lt_of_le ha (Nat.pow_le_pow_right (by omega) (by omega))
    · next c =>
      refine ih _ (by omega) ?_
      have hbq : b * q ^ (n + 1 - lb) < q ^ (n + 1) := by
        have e : q ^ (n + 1) = q ^ lb * q ^ (n + 1 - lb) := by rw [← Nat.pow_add]; congr 1; omega
        rw [e]
        exact Nat.mul_lt_mul_of_pos_right hb (Nat.pow_pos (by omega))
      refine lt_dg h2.1 (n := n + 1) (cmb_small h2.1 ha hbq) (fun k hk1 hk2 => ?_)
      have hkn : k = n := by omega
      subst hkn
      rw [cmb_dg _ h2.1, if_pos (by omega), dg_mul h2.1 _ _ _ (by omega)]
      have e1 : k - (k + 1 - lb) = lb - 1 := by omega
      rw [e1]
      have hx : dg q a k < q := dg_lt h2.1
      have hf2 : dg q b (lb - 1) < q := dg_lt h2.1
      exact top_gone hq hx hf2 ht hf
/-- the first figure of b, b not nought -/
theorem fst_top {q b k : Nat} (hk : ln q 13 b = k + 1) : fst q b = dg q b k := by
  unfold fst
  rw [hk]
theorem fst_pos {q b : Nat} (h2 : 2 ≤ q) (hb : b < q ^ 13) (h0 : 0 < b) : 0 < fst q b := by
  obtain ⟨k, hk⟩ : ∃ k, ln q 13 b = k + 1 := ⟨ln q 13 b - 1, by have := ln_pos hb h0; omega⟩
  rw [fst_top hk]
  exact (dg_ln h2 hb hk).1
/-- a rest is shorter than what it is the rest by -/
theorem rst_small {q a b : Nat} (hq : q = 2 ∨ q = 3 ∨ q = 5) (ha : a < q ^ 13) (hb : b < q ^ 13) (h0 : 0 < b) : rst q a b < q ^ (ln q 13 b - 1) := by
  have h2 : 2 ≤ q ∧ q ≤ 5 := by omega
  have hl := ln_pos hb h0
  obtain ⟨k, hk⟩ : ∃ k, ln q 13 b = k + 1 := ⟨ln q 13 b - 1, by omega⟩
  have hf := fst_lt h2.1 b
  refine rs_small hq (ln_lt hb) (by omega) (iv_lt hq hf) ?_ _ _ (ln_le q 13 a) (ln_lt ha)
  rw [hk, Nat.add_sub_cancel, ← fst_top hk]
  exact iv_mul hq hf (by have := fst_pos h2.1 hb h0; omega)
/-- one with first figure 1 -/
theorem mon_dg {q a k : Nat} (hq : q = 2 ∨ q = 3 ∨ q = 5) (hk : k < 13) : dg q (mon q a) k = iv q (fst q a) * dg q a k % q := by
  have h2 : 2 ≤ q := by omega
  unfold mon
  rw [cmb_dg _ h2, if_pos hk, dg_zero, Nat.zero_add]
theorem mon_top {q a k : Nat} (hq : q = 2 ∨ q = 3 ∨ q = 5) (ha : a < q ^ 13) (hk : ln q 13 a = k + 1) : mon q a < q ^ (k + 1) ∧ dg q (mon q a) k = 1 ∧ ln q 13 (mon q a) = k + 1 := by
  have h2 : 2 ≤ q := by omega
  have hk13 := ln_le q 13 a
  have h0 : 0 < a := by
    rcases Nat.eq_zero_or_pos a with z | z
    · rw [z, ln_zero h2] at hk
      omega
    · exact z
  have h1 : mon q a < q ^ (k + 1) := by
    unfold mon
    refine cmb_small h2 (Nat.pow_pos (by omega)) ?_
    rw [← hk]
    exact ln_lt ha
  have h3 : dg q (mon q a) k = 1 := by
    rw [mon_dg hq (by omega), Nat.mul_comm, ← fst_top hk]
    exact iv_mul hq (fst_lt h2 a) (by have := fst_pos h2 ha h0; omega)
  refine ⟨h1, h3, ln_eq h2 ?_ h1 (Nat.lt_of_lt_of_le h1 (Nat.pow_le_pow_right (by omega) (by omega)))⟩
  rcases Nat.lt_or_ge (mon q a) (q ^ k) with c | c
  · rw [dg_big c (Nat.le_refl k) h2] at h3
    omega
  · exact c
/-- what class Primes has found, what it has split -/
def PFd (mi : Nat → Nat → Int32) (L : Nat) (f : Nat → Nat) : Prop := mi 7 3 = nI L ∧ L ≤ 13 ∧ ∀ i, i < L → mi 8 i = nI (f i) ∧ f i < 2 ^ 31
def PSd (q : Nat) (mi : Nat → Nat → Int32) (L : Nat) (f : Nat → Nat) : Prop := mi 7 4 = nI L ∧ L ≤ 13 ∧ ∀ i, i < L → mi 9 i = nI (f i) ∧ f i < q ^ 13
def offP (mi mi1 : Nat → Nat → Int32) : Prop := ∀ o, o ≠ 7 → o ≠ 8 → o ≠ 9 → mi1 o = mi o
def up1 (f : Nat → Nat) (i v : Nat) : Nat → Nat := fun k => if k = i then v else f k
def trl (q m : Nat) : Nat → Nat → Nat → Nat
  | 0, s, _ => s
  | n + 1, s, t => trl q m n (cmb q 1 13 s (tby q t m)) (tby q t m)
/-- a, and its q-th powers by m, k together -/
def trc (q a k m : Nat) : Nat := trl q m (k - 1) a a
def swp (f : Nat → Nat) (k : Nat) : Nat → Nat := fun i => if i = k - 1 then f k else if i = k then f (k - 1) else f i
def srI : Nat → (Nat → Nat) → (Nat → Nat)
  | 0, f => f
  | k + 1, f => if f k ≤ f (k + 1) then f else srI k (swp f (k + 1))
def srO : Nat → Nat → (Nat → Nat) → (Nat → Nat)
  | 0, _, f => f
  | n + 1, i, f => srO n (i + 1) (srI i f)
section PRI
variable {G : GC} {e q : Nat} {mi : Nat → Nat → Int32} {ml : Nat → Nat → Int64} {y : Nat → Nat → Option Nat}
theorem p_many {L : Nat} {f : Nat → Nat} (h : PFd mi L f) {K : Int32 → (Nat → Nat → Int32) → (Nat → Nat → Int64) → Prop} (hK : K (nI L) mi ml) : wpI G e 154 m_X3_many [.ref 7] (mi, ml, RX y) K := by
  apply e_X3_many
  rw [h.1]
  exact hK
theorem p_get {L i : Nat} {f : Nat → Nat} (h : PFd mi L f) (hi : i < 2 ^ 31) {K : Int32 → (Nat → Nat → Int32) → (Nat → Nat → Int64) → Prop} (hK : K (nI (if i < L then f i else 0)) mi ml) : wpI G e 154 m_X3_get [.ref 7, .int (nI i)] (mi, ml, RX y) K := by
  have hL := h.2.1
  apply e_X3_get
  rw [h.1]
  simp (disch := omega) only [s_le, s_lt, s_eq, s_eq0, s_in, s_ix, s_rm, s_div, s_pdlt, s_pdle, s_lepd, s_pdpd, s_pdlepd, s_pdadd, nI_add, pk_mul, pd_succ, Nat.not_lt_zero, Nat.zero_lt_succ, not_false_eq_true, not_true_eq_false, false_implies, true_implies, implies_true, and_true, true_and, Nat.reduceLT, Nat.reduceLeDiff, Nat.reduceAdd, Nat.reduceSub, Nat.zero_add, Nat.add_zero]
  refine ⟨fun c => ?_, fun c => ⟨fun _ => ⟨by omega, ?_⟩, fun c1 => absurd c1 (by omega)⟩⟩
  · rw [if_neg (by omega)] at hK
    exact hK
  · rw [if_pos (by omega)] at hK
    rw [(h.2.2 i (by omega)).1]
    exact hK
theorem p_add {L p : Nat} {f : Nat → Nat} (h : PFd mi L f) (hp : p < 2 ^ 31) {K : (Nat → Nat → Int32) → (Nat → Nat → Int64) → Prop} (hK0 : L = 13 → K mi ml)
    (hK : ∀ mi1 : Nat → Nat → Int32, L < 13 → (∀ o, o ≠ 7 → o ≠ 8 → mi1 o = mi o) → (∀ k, k ≠ 3 → mi1 7 k = mi 7 k) → PFd mi1 (L + 1) (up1 f L p) → K mi1 ml) : wpV G e 154 m_X3_add [.ref 7, .int (nI p)] (mi, ml, RX y) K := by
  have hL := h.2.1
  apply e_X3_add
  rw [h.1]
  simp (disch := omega) only [s_le, s_lt, s_eq, s_eq0, s_in, s_ix, s_rm, s_div, s_pdlt, s_pdle, s_lepd, s_pdpd, s_pdlepd, s_pdadd, nI_add, pk_mul, pd_succ, Nat.not_lt_zero, Nat.zero_lt_succ, not_false_eq_true, not_true_eq_false, false_implies, true_implies, implies_true, and_true, true_and, Nat.reduceLT, Nat.reduceLeDiff, Nat.reduceAdd, Nat.reduceSub, Nat.zero_add, Nat.add_zero]
  refine ⟨fun c => hK0 (by omega), fun c => ⟨by omega, ?_⟩⟩
  have e7 : u2 mi 8 L (nI p) 7 3 = nI L := by
    rw [u2_off (by omega)]
    exact h.1
  rw [e7, nI_add]
  refine hK _ (by omega) (fun o h7 h8 => by rw [u2_off h7, u2_off h8]) (fun k hk => ?_) ⟨?_, by omega, fun i hi => ?_⟩
  · rw [u2_on]
    show (if k = 3 then _ else _) = _
    rw [if_neg hk, u2_off (by omega)]
  · rw [u2_on]
    rfl
  · rw [u2_off (by omega), u2_on]
    show (if i = L then _ else _) = nI (if i = L then _ else _) ∧ (if i = L then _ else _) < _
    by_cases c1 : i = L
    · rw [if_pos c1, if_pos c1]
      exact ⟨rfl, hp⟩
    · rw [if_neg c1, if_neg c1]
      exact h.2.2 i (by omega)
theorem tby_lt (h2 : 2 ≤ q) {m top : Nat} (hl : ln q 13 m = top + 1) (hm : m < q ^ 13) (hm1 : dg q m top = 1) {a : Nat} (ha : a < q ^ top) : tby q a m < q ^ top := by
  have : ∀ (n p : Nat), p < q ^ top → tbl q a m n p < q ^ top := by
    intro n
    induction n with
    | zero => intro p hp; exact hp
    | succ n ih =>
      intro p hp
      unfold tbl
      exact ih _ (pby_lt h2 hl hm hm1 ha)
  exact this _ _ ha
theorem p_ptrace_loop (h : Fg q mi) {m top k : Nat} (hl : ln q 13 m = top + 1) (hm : m < q ^ 13) (hm1 : dg q m top = 1) (hk : k < 2 ^ 31) {K : Int32 → (Nat → Nat → Int32) → (Nat → Nat → Int64) → Prop} : ∀ (n i s t : Nat), i + n = k → s < q ^ 13 → t < q ^ top → K (nI (trl q m n s t)) mi ml →
    wp G e tX m_X3_trace 9 [(0, .ref 7), (2, .int (nI k)), (3, .int (nI m)), (4, .int (nI s)), (5, .int (nI t)), (6, .int (nI i))] [] (mi, ml, RX y) (QI K) := by
  have h2 := h.two
  have htop := ln_le q 13 m
  intro n
  induction n with
  | zero =>
    intro i s t hi hs ht hK
    apply b_X3_trace_9
    simp (disch := omega) only [s_le, s_lt, s_eq, s_eq0, s_in, s_ix, s_rm, s_div, s_pdlt, s_pdle, s_lepd, s_pdpd, s_pdlepd, s_pdadd, nI_add, pk_mul, pd_succ, Nat.not_lt_zero, Nat.zero_lt_succ, not_false_eq_true, not_true_eq_false, false_implies, true_implies, implies_true, and_true, true_and, Nat.reduceLT, Nat.reduceLeDiff, Nat.reduceAdd, Nat.reduceSub, Nat.zero_add, Nat.add_zero]
    exact ⟨fun _ => hK, fun c => absurd c (by omega)⟩
  | succ n ih =>
    intro i s t hi hs ht hK
    apply b_X3_trace_9
    simp (disch := omega) only [s_le, s_lt, s_eq, s_eq0, s_in, s_ix, s_rm, s_div, s_pdlt, s_pdle, s_lepd, s_pdpd, s_pdlepd, s_pdadd, nI_add, pk_mul, pd_succ, Nat.not_lt_zero, Nat.zero_lt_succ, not_false_eq_true, not_true_eq_false, false_implies, true_implies, implies_true, and_true, true_and, Nat.reduceLT, Nat.reduceLeDiff, Nat.reduceAdd, Nat.reduceSub, Nat.zero_add, Nat.add_zero]
    refine ⟨fun c => absurd c (by omega), fun _ => ?_⟩
    have htb := tby_lt h2.1 hl hm hm1 ht
    refine p_turnedBy h ht hl hm hm1 (p_sum h hs (Nat.lt_of_lt_of_le htb (Nat.pow_le_pow_right (by omega) (by omega))) ?_)
    exact ih (i + 1) _ _ (by omega) (cmb_lt 1 h2.1 13 _ _) htb hK
theorem p_ptrace (h : Fg q mi) {m top k a : Nat} (hl : ln q 13 m = top + 1) (hm : m < q ^ 13) (hm1 : dg q m top = 1) (h1 : 1 ≤ k) (hk : k < 2 ^ 31) (ha : a < q ^ top) {K : Int32 → (Nat → Nat → Int32) → (Nat → Nat → Int64) → Prop} (hK : K (nI (trc q a k m)) mi ml) :
    wpI G e 154 m_X3_trace [.ref 7, .int (nI a), .int (nI k), .int (nI m)] (mi, ml, RX y) K := by
  have h2 := h.two
  have htop := ln_le q 13 m
  apply e_X3_trace
  exact p_ptrace_loop h hl hm hm1 hk (k - 1) 1 a a (by omega) (Nat.lt_of_lt_of_le ha (Nat.pow_le_pow_right (by omega) (by omega))) ha hK
theorem p_sort_in {L j : Nat} (hj : j < L) (mi0 : Nat → Nat → Int32) {K : (Nat → Nat → Int32) → (Nat → Nat → Int64) → Prop} : ∀ (k : Nat) (mi : Nat → Nat → Int32) (f : Nat → Nat), k ≤ j → PFd mi L f → (∀ o, o ≠ 8 → mi o = mi0 o) →
    (∀ mi1 : Nat → Nat → Int32, (∀ o, o ≠ 8 → mi1 o = mi0 o) → PFd mi1 L (srI k f) → wp G e tX m_X3_sort 2 [(0, .ref 7), (1, .int (nI (j + 1)))] [] (mi1, ml, RX y) (QV K)) →
    wp G e tX m_X3_sort 21 [(0, .ref 7), (1, .int (nI j)), (2, .int (nI k))] [] (mi, ml, RX y) (QV K) := by
  intro k
  induction k with
  | zero =>
    intro mi f hk h ho hK
    have hL := h.2.1
    apply b_X3_sort_21
    simp (disch := omega) only [s_le, s_lt, s_eq, s_eq0, s_in, s_ix, s_rm, s_div, s_pdlt, s_pdle, s_lepd, s_pdpd, s_pdlepd, s_pdadd, nI_add, pk_mul, pd_succ, Nat.not_lt_zero, Nat.zero_lt_succ, not_false_eq_true, not_true_eq_false, false_implies, true_implies, implies_true, and_true, true_and, Nat.reduceLT, Nat.reduceLeDiff, Nat.reduceAdd, Nat.reduceSub, Nat.zero_add, Nat.add_zero]
    exact hK mi ho h
  | succ k ih =>
    intro mi f hk h ho hK
    have hL := h.2.1
    have h1 := h.2.2 k (by omega)
    have h2 := h.2.2 (k + 1) (by omega)
    have h12 := h1.2
    have h22 := h2.2
    apply b_X3_sort_21
    rw [s_sub (by omega), Nat.add_sub_cancel]
    simp (disch := omega) only [s_le, s_lt, s_eq, s_eq0, s_in, s_ix, s_rm, s_div, s_pdlt, s_pdle, s_lepd, s_pdpd, s_pdlepd, s_pdadd, nI_add, pk_mul, pd_succ, Nat.not_lt_zero, Nat.zero_lt_succ, not_false_eq_true, not_true_eq_false, false_implies, true_implies, implies_true, and_true, true_and, Nat.reduceLT, Nat.reduceLeDiff, Nat.reduceAdd, Nat.reduceSub, Nat.zero_add, Nat.add_zero, h1.1, h2.1]
    unfold srI at hK
    refine ⟨by omega, by omega, fun c => ?_, fun c => ⟨by omega, by omega, by omega, by omega, ?_⟩⟩
    · rw [if_pos c] at hK
      exact hK mi ho h
    · rw [if_neg c] at hK
      rw [pd_dec, pd_succ]
      refine ih _ (swp f (k + 1)) (by omega) ⟨by rw [u2_off (by omega), u2_off (by omega)]; exact h.1, hL, fun i hi => ?_⟩ (fun o h8 => by rw [u2_off h8, u2_off h8]; exact ho o h8) hK
      rw [u2_on, u2_on]
      show (if i = k then _ else (if i = k + 1 then _ else _)) = nI (if i = k + 1 - 1 then _ else (if i = k + 1 then f (k + 1 - 1) else _)) ∧ (if i = k + 1 - 1 then _ else (if i = k + 1 then f (k + 1 - 1) else _)) < _
      rw [Nat.add_sub_cancel]
      by_cases c1 : i = k
      · rw [if_pos c1, if_pos c1]
        exact ⟨rfl, h22⟩
      · rw [if_neg c1, if_neg c1]
        by_cases c2 : i = k + 1
        · rw [if_pos c2, if_pos c2]
          exact ⟨rfl, h12⟩
        · rw [if_neg c2, if_neg c2]
          exact h.2.2 i hi
theorem p_sort_loop {L : Nat} (mi0 : Nat → Nat → Int32) {K : (Nat → Nat → Int32) → (Nat → Nat → Int64) → Prop} : ∀ (n i : Nat) (mi : Nat → Nat → Int32) (f : Nat → Nat), (i + n = L ∨ (n = 0 ∧ L ≤ i)) → i < 2 ^ 31 → PFd mi L f → (∀ o, o ≠ 8 → mi o = mi0 o) →
    (∀ mi1 : Nat → Nat → Int32, (∀ o, o ≠ 8 → mi1 o = mi0 o) → PFd mi1 L (srO n i f) → K mi1 ml) → wp G e tX m_X3_sort 2 [(0, .ref 7), (1, .int (nI i))] [] (mi, ml, RX y) (QV K) := by
  intro n
  induction n with
  | zero =>
    intro i mi f hi hi31 h ho hK
    have hL := h.2.1
    apply b_X3_sort_2
    rw [h.1]
    simp (disch := omega) only [s_le, s_lt, s_eq, s_eq0, s_in, s_ix, s_rm, s_div, s_pdlt, s_pdle, s_lepd, s_pdpd, s_pdlepd, s_pdadd, nI_add, pk_mul, pd_succ, Nat.not_lt_zero, Nat.zero_lt_succ, not_false_eq_true, not_true_eq_false, false_implies, true_implies, implies_true, and_true, true_and, Nat.reduceLT, Nat.reduceLeDiff, Nat.reduceAdd, Nat.reduceSub, Nat.zero_add, Nat.add_zero]
    exact ⟨fun _ => hK mi ho h, fun c => absurd c (by omega)⟩
  | succ n ih =>
    intro i mi f hi hi31 h ho hK
    have hL := h.2.1
    apply b_X3_sort_2
    rw [h.1]
    simp (disch := omega) only [s_le, s_lt, s_eq, s_eq0, s_in, s_ix, s_rm, s_div, s_pdlt, s_pdle, s_lepd, s_pdpd, s_pdlepd, s_pdadd, nI_add, pk_mul, pd_succ, Nat.not_lt_zero, Nat.zero_lt_succ, not_false_eq_true, not_true_eq_false, false_implies, true_implies, implies_true, and_true, true_and, Nat.reduceLT, Nat.reduceLeDiff, Nat.reduceAdd, Nat.reduceSub, Nat.zero_add, Nat.add_zero]
    refine ⟨fun c => absurd c (by omega), fun _ => ⟨fun c => absurd c (by omega), fun _ => ?_⟩⟩
    refine p_sort_in (L := L) (j := i) (by omega) mi0 i mi f (Nat.le_refl _) h ho ?_
    intro mi1 ho1 h1
    exact ih (i + 1) mi1 _ (by omega) (by omega) h1 ho1 hK
theorem p_sort {L : Nat} {f : Nat → Nat} (h : PFd mi L f) {K : (Nat → Nat → Int32) → (Nat → Nat → Int64) → Prop} (hK : ∀ mi1 : Nat → Nat → Int32, (∀ o, o ≠ 8 → mi1 o = mi o) → PFd mi1 L (srO (L - 1) 1 f) → K mi1 ml) : wpV G e 154 m_X3_sort [.ref 7] (mi, ml, RX y) K := by
  apply e_X3_sort
  exact p_sort_loop mi (L - 1) 1 mi f (by omega) (by decide) h (fun _ _ => rfl) hK
end PRI
