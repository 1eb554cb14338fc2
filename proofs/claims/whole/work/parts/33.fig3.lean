/-! class Figures: sumOfPowers, symbolOver -/
theorem ln_le_lt {q m a k : Nat} (hq : 2 ≤ q) (h : a < q ^ k) : ln q m a ≤ k := by
  rcases Nat.lt_or_ge k (ln q m a) with c | c
  · obtain ⟨j, hj⟩ : ∃ j, ln q m a = j + 1 := ⟨ln q m a - 1, by omega⟩
    have h1 := ln_ge hj
    have h2 : q ^ k ≤ q ^ j := Nat.pow_le_pow_right (by omega) (by omega)
    omega
  · exact c
theorem hor_lt {q : Nat} (h2 : 2 ≤ q) {a b L la : Nat} (hb : b < q ^ L) (hL : 1 ≤ L) (hfit : L + la ≤ 14) : ∀ (n s : Nat), n ≤ la → s < q ^ (L - 1 + (la - n)) → hor q a b n s < q ^ (L - 1 + la) := by
  intro n
  induction n with
  | zero =>
    intro s hn hs
    exact hs
  | succ n ih =>
    intro s hn hs
    unfold hor
    have hs2 : s * q < q ^ (L + (la - (n + 1))) := by
      have e1 : L + (la - (n + 1)) = (L - 1 + (la - (n + 1))) + 1 := by omega
      rw [e1, Nat.pow_succ]
      exact Nat.mul_lt_mul_of_pos_right hs (by omega)
    refine ih _ (by omega) ?_
    have e2 : L - 1 + (la - n) = L + (la - (n + 1)) := by omega
    rw [e2]
    exact cmb_small h2 hs2 (Nat.lt_of_lt_of_le hb (Nat.pow_le_pow_right (by omega) (by omega)))
theorem prd_lt {q : Nat} (h2 : 2 ≤ q) {a b x L : Nat} (ha : a < q ^ x) (hb : b < q ^ L) (hL : 1 ≤ L) (hfit : L + x ≤ 14) : prd q a b < q ^ (L - 1 + x) := by
  have h1 : ln q 13 a ≤ x := ln_le_lt h2 ha
  exact Nat.lt_of_lt_of_le (hor_lt h2 hb hL (la := ln q 13 a) (by omega) _ 0 (Nat.le_refl _) (Nat.pow_pos (by omega))) (Nat.pow_le_pow_right (by omega) (by omega))
/-- p times a, n times -/
def pw (q a : Nat) : Nat → Nat → Nat
  | 0, p => p
  | n + 1, p => pw q a n (prd q p a)
def spl (q k : Nat) : Nat → Nat → Nat → Nat
  | 0, _, s => s
  | n + 1, a, s => spl q k n (a + 1) (cmb q 1 13 s (pw q a (k - 1) a))
/-- the sum of the k-th powers of the monic ones of degree d -/
def sps (q k d : Nat) : Nat := spl q k (q ^ d) (q ^ d) 0
def smp (q f : Nat) : Nat → Nat → Nat
  | 0, s => s
  | n + 1, s => smp q f n (s * f % q)
def syl (q : Nat) : Nat → Nat → Nat → Nat → Nat
  | 0, _, _, s => s
  | n + 1, a, b, s => if ln q 13 b ≤ 1 then s else if rst q a b = 0 then 0 else
      syl q n b (mon q (rst q a b)) (smp q (fst q (rst q a b)) (ln q 13 b - 1) (if (ln q 13 b - 1) % 2 = 1 ∧ (ln q 13 (rst q a b) - 1) % 2 = 1 then (q - s) % q else s))
/-- the symbol of a over b -/
def sym (q a b : Nat) : Nat := syl q 14 a b 1
section FIG3
variable {G : GC} {e q : Nat} {mi : Nat → Nat → Int32} {ml : Nat → Nat → Int64} {y : Nat → Nat → Option Nat} {K : Int32 → (Nat → Nat → Int32) → (Nat → Nat → Int64) → Prop}
theorem p_powers_loop (h : Fg q mi) {k d a s : Nat} (hd : 1 ≤ d) (hk : d * k ≤ 12) (ha : a < q ^ (d + 1)) (hs : s < q ^ 13) : ∀ (n i p : Nat), i + n = k → 1 ≤ i → p < q ^ (d * i + 1) →
    wp G e tX m_X1_sumOfPowers 13 [(0, .ref 1), (1, .int (nI k)), (3, .int (nI (cmb q 1 13 s (pw q a n p)))), (4, .int (nI (q ^ d))), (5, .int (nI (a + 1)))] [] (mi, ml, RX y) (QI K) →
    wp G e tX m_X1_sumOfPowers 29 [(0, .ref 1), (1, .int (nI k)), (3, .int (nI s)), (4, .int (nI (q ^ d))), (5, .int (nI a)), (6, .int (nI p)), (7, .int (nI i))] [] (mi, ml, RX y) (QI K) := by
  have h2 := h.two
  have hk12 : k ≤ 12 := Nat.le_trans (Nat.le_mul_of_pos_left k (by omega)) hk
  have hd12 : ∀ j, j ≤ k → d * j ≤ 12 := fun j hj => Nat.le_trans (Nat.mul_le_mul_left d hj) hk
  have le13 : ∀ {j : Nat}, j ≤ 13 → ∀ {x : Nat}, x < q ^ j → x < q ^ 13 := fun hk _ hx => Nat.lt_of_lt_of_le hx (Nat.pow_le_pow_right (by omega) hk)
  intro n
  induction n with
  | zero =>
    intro i p hi h1 hp hK
    have e1 := hd12 i (by omega)
    apply b_X1_sumOfPowers_29
    simp (disch := omega) only [s_le, s_lt, s_eq, s_eq0, s_in, s_ix, s_rm, s_div, s_pdlt, s_pdle, s_lepd, s_pdpd, s_pdlepd, s_pdadd, nI_add, pk_mul, pd_succ, Nat.not_lt_zero, Nat.zero_lt_succ, not_false_eq_true, not_true_eq_false, false_implies, true_implies, implies_true, and_true, true_and, Nat.reduceLT, Nat.reduceLeDiff, Nat.reduceAdd, Nat.reduceSub, Nat.zero_add, Nat.add_zero, h.b]
    refine ⟨fun _ => ?_, fun c => absurd c (by omega)⟩
    exact p_sum h hs (le13 (by omega) hp) hK
  | succ n ih =>
    intro i p hi h1 hp hK
    have e1 := hd12 i (by omega)
    have e2 := hd12 (i + 1) (by omega)
    rw [Nat.mul_succ] at e2
    apply b_X1_sumOfPowers_29
    simp (disch := omega) only [s_le, s_lt, s_eq, s_eq0, s_in, s_ix, s_rm, s_div, s_pdlt, s_pdle, s_lepd, s_pdpd, s_pdlepd, s_pdadd, nI_add, pk_mul, pd_succ, Nat.not_lt_zero, Nat.zero_lt_succ, not_false_eq_true, not_true_eq_false, false_implies, true_implies, implies_true, and_true, true_and, Nat.reduceLT, Nat.reduceLeDiff, Nat.reduceAdd, Nat.reduceSub, Nat.zero_add, Nat.add_zero, h.b]
    refine ⟨fun c => absurd c (by omega), fun _ => ?_⟩
    have l1 := ln_le_lt (m := 13) h2.1 hp
    have l2 := ln_le_lt (m := 13) h2.1 ha
    refine p_product h (le13 (by omega) hp) (le13 (by omega) ha) (by omega) ?_
    refine ih (i + 1) _ (by omega) (by omega) ?_ hK
    have := prd_lt h2.1 hp ha (by omega) (by omega)
    rw [Nat.mul_succ]
    exact Nat.lt_of_lt_of_le this (Nat.pow_le_pow_right (by omega) (by omega))
theorem p_sumOfPowers_loop (h : Fg q mi) {k d : Nat} (h1 : 1 ≤ k) (hd : 1 ≤ d) (hk : d * k ≤ 12) : ∀ (n a s : Nat), a + n = 2 * q ^ d → q ^ d ≤ a → s < q ^ 13 → K (nI (spl q k n a s)) mi ml →
    wp G e tX m_X1_sumOfPowers 13 [(0, .ref 1), (1, .int (nI k)), (3, .int (nI s)), (4, .int (nI (q ^ d))), (5, .int (nI a))] [] (mi, ml, RX y) (QI K) := by
  have h2 := h.two
  have hd12 : d ≤ 12 := Nat.le_trans (Nat.le_mul_of_pos_right d (by omega)) hk
  have hp12 : q ^ (d + 1) ≤ 1220703125 := h.pow (by omega)
  have e0 : q ^ (d + 1) = q ^ d * q := Nat.pow_succ q d
  have e1 : q ^ d * 2 ≤ q ^ d * q := Nat.mul_le_mul_left _ h2.1
  intro n
  induction n with
  | zero =>
    intro a s ha hq hs hK
    apply b_X1_sumOfPowers_13
    simp (disch := omega) only [s_le, s_lt, s_eq, s_eq0, s_in, s_ix, s_rm, s_div, s_pdlt, s_pdle, s_lepd, s_pdpd, s_pdlepd, s_pdadd, nI_add, pk_mul, pd_succ, Nat.not_lt_zero, Nat.zero_lt_succ, not_false_eq_true, not_true_eq_false, false_implies, true_implies, implies_true, and_true, true_and, Nat.reduceLT, Nat.reduceLeDiff, Nat.reduceAdd, Nat.reduceSub, Nat.zero_add, Nat.add_zero, h.b]
    exact ⟨fun _ => hK, fun c => absurd c (by omega)⟩
  | succ n ih =>
    intro a s ha hq hs hK
    apply b_X1_sumOfPowers_13
    simp (disch := omega) only [s_le, s_lt, s_eq, s_eq0, s_in, s_ix, s_rm, s_div, s_pdlt, s_pdle, s_lepd, s_pdpd, s_pdlepd, s_pdadd, nI_add, pk_mul, pd_succ, Nat.not_lt_zero, Nat.zero_lt_succ, not_false_eq_true, not_true_eq_false, false_implies, true_implies, implies_true, and_true, true_and, Nat.reduceLT, Nat.reduceLeDiff, Nat.reduceAdd, Nat.reduceSub, Nat.zero_add, Nat.add_zero, h.b]
    refine ⟨fun c => absurd c (by omega), fun _ => ?_⟩
    have hak : a < q ^ (d + 1) := by omega
    refine p_powers_loop h hd hk hak hs (k - 1) 1 a (by omega) (by omega) (by rw [Nat.mul_one]; exact hak) ?_
    exact ih (a + 1) _ (by omega) (by omega) (cmb_lt 1 h2.1 13 _ _) hK
theorem p_sumOfPowers (h : Fg q mi) {k d : Nat} (h1 : 1 ≤ k) (hd : 1 ≤ d) (hk : d * k ≤ 12) (hK : K (nI (sps q k d)) mi ml) : wpI G e 154 m_X1_sumOfPowers [.ref 1, .int (nI k), .int (nI d)] (mi, ml, RX y) K := by
  have h2 := h.two
  have hd12 : d ≤ 12 := Nat.le_trans (Nat.le_mul_of_pos_right d (by omega)) hk
  apply e_X1_sumOfPowers
  refine p_power h (by omega) ?_
  exact p_sumOfPowers_loop h h1 hd hk (q ^ d) (q ^ d) 0 (by omega) (Nat.le_refl _) (Nat.pow_pos (by omega)) hK
theorem p_symbol_in (h : Fg q mi) {a b f i r : Nat} (ha : a < q ^ 13) (hf : f < q) (hr : r < 14) : ∀ (n j s : Nat), j + n = r → s < q →
    wp G e tX m_X1_symbolOver 5 [(0, .ref 1), (1, .int (nI b)), (2, .int (nI (mon q a))), (3, .int (nI (smp q f n s))), (4, .int (nI (i + 1)))] [] (mi, ml, RX y) (QI K) →
    wp G e tX m_X1_symbolOver 75 [(0, .ref 1), (1, .int (nI a)), (2, .int (nI b)), (3, .int (nI s)), (4, .int (nI i)), (5, .int (nI r)), (6, .int (nI f)), (7, .int (nI j))] [] (mi, ml, RX y) (QI K) := by
  have h2 := h.two
  intro n
  induction n with
  | zero =>
    intro j s hj hs hK
    apply b_X1_symbolOver_75
    simp (disch := omega) only [s_le, s_lt, s_eq, s_eq0, s_in, s_ix, s_rm, s_div, s_pdlt, s_pdle, s_lepd, s_pdpd, s_pdlepd, s_pdadd, nI_add, pk_mul, pd_succ, Nat.not_lt_zero, Nat.zero_lt_succ, not_false_eq_true, not_true_eq_false, false_implies, true_implies, implies_true, and_true, true_and, Nat.reduceLT, Nat.reduceLeDiff, Nat.reduceAdd, Nat.reduceSub, Nat.zero_add, Nat.add_zero, h.b]
    exact ⟨fun _ => p_monic h ha hK, fun c => absurd c (by omega)⟩
  | succ n ih =>
    intro j s hj hs hK
    apply b_X1_symbolOver_75
    have hsf := mul_small hs hf h2.2
    simp (disch := omega) only [s_le, s_lt, s_eq, s_eq0, s_in, s_ix, s_rm, s_div, s_pdlt, s_pdle, s_lepd, s_pdpd, s_pdlepd, s_pdadd, nI_add, pk_mul, pd_succ, Nat.not_lt_zero, Nat.zero_lt_succ, not_false_eq_true, not_true_eq_false, false_implies, true_implies, implies_true, and_true, true_and, Nat.reduceLT, Nat.reduceLeDiff, Nat.reduceAdd, Nat.reduceSub, Nat.zero_add, Nat.add_zero, h.b]
    refine ⟨fun c => absurd c (by omega), fun _ => ⟨by omega, ?_⟩⟩
    exact ih (j + 1) _ (by omega) (mod_q_lt h2.1 _) hK
theorem mon_lt (h2 : 2 ≤ q) (a : Nat) : mon q a < q ^ 13 := cmb_lt _ h2 13 _ _
theorem smp_lt (h2 : 2 ≤ q) {f : Nat} : ∀ (n s : Nat), s < q → smp q f n s < q
  | 0, _, hs => hs
  | n + 1, _, _ => smp_lt h2 n _ (mod_q_lt h2 _)
theorem p_symbol_loop (h : Fg q mi) : ∀ (n i a b s : Nat), i + n = 14 → a < q ^ 13 → b < q ^ 13 → s < q → K (nI (syl q n a b s)) mi ml →
    wp G e tX m_X1_symbolOver 5 [(0, .ref 1), (1, .int (nI a)), (2, .int (nI b)), (3, .int (nI s)), (4, .int (nI i))] [] (mi, ml, RX y) (QI K) := by
  have h2 := h.two
  intro n
  induction n with
  | zero =>
    intro i a b s hi ha hb hs hK
    apply b_X1_symbolOver_5
    simp (disch := omega) only [s_le, s_lt, s_eq, s_eq0, s_in, s_ix, s_rm, s_div, s_pdlt, s_pdle, s_lepd, s_pdpd, s_pdlepd, s_pdadd, nI_add, pk_mul, pd_succ, Nat.not_lt_zero, Nat.zero_lt_succ, not_false_eq_true, not_true_eq_false, false_implies, true_implies, implies_true, and_true, true_and, Nat.reduceLT, Nat.reduceLeDiff, Nat.reduceAdd, Nat.reduceSub, Nat.zero_add, Nat.add_zero, h.b]
    exact ⟨fun _ => hK, fun c => absurd (show 13 < i by omega) c⟩
  | succ n ih =>
    intro i a b s hi ha hb hs hK
    apply b_X1_symbolOver_5
    unfold syl at hK
    have hlb := ln_le q 13 b
    simp (disch := omega) only [s_le, s_lt, s_eq, s_eq0, s_in, s_ix, s_rm, s_div, s_pdlt, s_pdle, s_lepd, s_pdpd, s_pdlepd, s_pdadd, nI_add, pk_mul, pd_succ, Nat.not_lt_zero, Nat.zero_lt_succ, not_false_eq_true, not_true_eq_false, false_implies, true_implies, implies_true, and_true, true_and, Nat.reduceLT, Nat.reduceLeDiff, Nat.reduceAdd, Nat.reduceSub, Nat.zero_add, Nat.add_zero, h.b]
    refine ⟨fun c => absurd c (by omega), fun _ => ?_⟩
    refine p_degree h hb ?_
    simp (disch := omega) only [s_le, s_lt, s_eq, s_eq0, s_in, s_ix, s_rm, s_div, s_pdlt, s_pdle, s_lepd, s_pdpd, s_pdlepd, s_pdadd, nI_add, pk_mul, pd_succ, Nat.not_lt_zero, Nat.zero_lt_succ, not_false_eq_true, not_true_eq_false, false_implies, true_implies, implies_true, and_true, true_and, Nat.reduceLT, Nat.reduceLeDiff, Nat.reduceAdd, Nat.reduceSub, Nat.zero_add, Nat.add_zero]
    refine ⟨fun c => by rw [if_pos c] at hK; exact hK, fun c => ?_⟩
    rw [if_neg c] at hK
    have hb0 : 0 < b := by
      rcases Nat.eq_zero_or_pos b with z | z
      · rw [z, ln_zero h2.1] at c
        omega
      · exact z
    refine p_rest h ha hb hb0 ?_
    have hr := rst_lt h2.1 ha (b := b)
    have hr31 : rst q a b < 2 ^ 31 := Nat.lt_of_lt_of_le hr (Nat.le_trans (h.pow (Nat.le_refl 13)) (by decide))
    obtain ⟨kb, hkb⟩ : ∃ kb, ln q 13 b = kb + 1 := ⟨ln q 13 b - 1, by omega⟩
    simp (disch := omega) only [s_le, s_lt, s_eq, s_eq0, s_in, s_ix, s_rm, s_div, s_pdlt, s_pdle, s_lepd, s_pdpd, s_pdlepd, s_pdadd, nI_add, pk_mul, pd_succ, Nat.not_lt_zero, Nat.zero_lt_succ, not_false_eq_true, not_true_eq_false, false_implies, true_implies, implies_true, and_true, true_and, Nat.reduceLT, Nat.reduceLeDiff, Nat.reduceAdd, Nat.reduceSub, Nat.zero_add, Nat.add_zero]
    refine ⟨fun z => ?_, fun z => by rw [if_pos z] at hK; exact hK⟩
    rw [if_neg z] at hK
    have hlr := ln_le q 13 (rst q a b)
    have hlr0 := ln_pos hr (by omega)
    obtain ⟨kr, hkr⟩ : ∃ kr, ln q 13 (rst q a b) = kr + 1 := ⟨ln q 13 (rst q a b) - 1, by omega⟩
    have e1 : kb + 1 - 1 = kb := by omega
    have e2 : kr + 1 - 1 = kr := by omega
    rw [hkb, hkr, e1, e2] at hK
    have fin : ∀ s', s' < q → s' = (if kb % 2 = 1 ∧ kr % 2 = 1 then (q - s) % q else s) → wp G e tX m_X1_symbolOver 75 [(0, .ref 1), (1, .int (nI (rst q a b))), (2, .int (nI b)), (3, .int (nI s')), (4, .int (nI i)), (5, .int (nI kb)), (6, .int (nI (fst q (rst q a b)))), (7, .int (nI 0))] [] (mi, ml, RX y) (QI K) := fun s' hs' e' =>
      p_symbol_in h hr (fst_lt h2.1 _) (by omega) kb 0 s' (by omega) hs' (ih (i + 1) _ _ _ (by omega) hb (mon_lt h2.1 _) (smp_lt h2.1 _ _ hs') (by rw [e']; exact hK))
    refine p_degree h hb (p_first h hr ?_)
    rw [hkb]
    simp (disch := omega) only [s_le, s_lt, s_eq, s_eq0, s_in, s_ix, s_rm, s_div, s_pdlt, s_pdle, s_lepd, s_pdpd, s_pdlepd, s_pdadd, nI_add, pk_mul, pd_succ, Nat.not_lt_zero, Nat.zero_lt_succ, not_false_eq_true, not_true_eq_false, false_implies, true_implies, implies_true, and_true, true_and, Nat.reduceLT, Nat.reduceLeDiff, Nat.reduceAdd, Nat.reduceSub, Nat.zero_add, Nat.add_zero]
    refine ⟨by omega, fun c1 => fin s hs (by rw [if_neg (fun z => c1 z.1)]), fun c1 => ?_⟩
    refine p_degree h hr ?_
    rw [hkr]
    simp (disch := omega) only [s_le, s_lt, s_eq, s_eq0, s_in, s_ix, s_rm, s_div, s_pdlt, s_pdle, s_lepd, s_pdpd, s_pdlepd, s_pdadd, nI_add, pk_mul, pd_succ, Nat.not_lt_zero, Nat.zero_lt_succ, not_false_eq_true, not_true_eq_false, false_implies, true_implies, implies_true, and_true, true_and, Nat.reduceLT, Nat.reduceLeDiff, Nat.reduceAdd, Nat.reduceSub, Nat.zero_add, Nat.add_zero]
    refine ⟨by omega, fun c2 => fin s hs (by rw [if_neg (fun z => c2 z.2)]), fun c2 => ?_⟩
    exact p_negative h (by omega) (fin _ (mod_q_lt h2.1 _) (by rw [if_pos ⟨c1, c2⟩]))
theorem p_symbolOver (h : Fg q mi) {a b : Nat} (ha : a < q ^ 13) (hb : b < q ^ 13) (hK : K (nI (sym q a b)) mi ml) : wpI G e 154 m_X1_symbolOver [.ref 1, .int (nI a), .int (nI b)] (mi, ml, RX y) K := by
  have h2 := h.two
  apply e_X1_symbolOver
  exact p_symbol_loop h 14 0 a b 1 rfl ha hb (by omega) hK
end FIG3
