/-! class Maps: leastAlike, countClasses, countGreatest -/
theorem fns_le (f : Nat → Nat) : ∀ r i, fns f r i ≤ r + i
  | 0, i => by show i ≤ 0 + i; omega
  | r + 1, i => by
    unfold fns
    split
    · have := fns_le f r (i + 1)
      omega
    · omega
theorem hgt_lt {q m d c h : Nat} {g : Nat → Nat} (hh : hgt q m d g c = some h) : h < 2 ^ 31 := by
  unfold hgt at hh
  split at hh
  · cases hh
  split at hh
  · have e1 := Option.some.inj hh
    have e2 := fns_le (trn q m d g c).2 24 0
    have e3 := Nat.div_le_self (fns (trn q m d g c).2 24 0) (ln q 13 c - 1)
    omega
  · cases hh
theorem cck_le {q n rank k : Nat} (hn : 2 ≤ n) : ∀ r i w, cck q n rank k r i w ≤ w * n ^ r
  | 0, _, w => by show w ≤ w * n ^ 0; rw [Nat.pow_zero, Nat.mul_one]; exact Nat.le_refl w
  | r + 1, i, w => by
    unfold cck
    refine Nat.le_trans (cck_le hn r (i + 1) _) ?_
    rw [Nat.pow_succ, Nat.mul_comm (n ^ r) n, ← Nat.mul_assoc]
    refine Nat.mul_le_mul_right _ (Nat.mul_le_mul_left _ ?_)
    split <;> split <;> omega
section MAP3
variable {G : GC} {e q m d n g : Nat} {mi : Nat → Nat → Int32} {ml : Nat → Nat → Int64} {y : Nat → Nat → Option Nat}
theorem p_alike_in (h0 : En q m d n g mi) {c1 c2 c : Nat} (h1 : isR c1) (h2 : isR c2) (a1 : an c1 = 4) (a2 : an c2 = 4) {u v : Nat → Nat} (hu : Rw n mi c1 u) (hv : Rw n mi c2 v) (hc : c < n) {K : Int32 → (Nat → Nat → Int32) → (Nat → Nat → Int64) → Prop} :
    ∀ (r j : Nat), r + j = 4 → (als q m d u v c r j = true → K (nI c) mi ml) → (¬ als q m d u v c r j = true → wp G e tX m_X2_leastAlike 2 [(0, .ref 68), (1, .ref c1), (2, .ref c2), (3, .int (nI (c + 1)))] [] (mi, ml, RX y) (QI K)) →
      wp G e tX m_X2_leastAlike 16 [(0, .ref 68), (1, .ref c1), (2, .ref c2), (3, .int (nI c)), (4, .int (nI j))] [] (mi, ml, RX y) (QI K) := by
  have w := h0.w
  have hn128 : n ≤ 128 := w.2.2.2.2.2.2
  intro r
  induction r with
  | zero =>
    intro j hr hK1 hK0
    apply b_X2_leastAlike_16
    simp (disch := omega) only [s_le, s_lt, s_eq, s_eq0, s_in, s_ix, s_rm, s_div, s_pdlt, s_pdle, s_lepd, s_pdpd, s_pdlepd, s_pdadd, nI_add, pk_mul, pd_succ, Nat.not_lt_zero, Nat.zero_lt_succ, not_false_eq_true, not_true_eq_false, false_implies, true_implies, implies_true, and_true, true_and, Nat.reduceLT, Nat.reduceLeDiff, Nat.reduceAdd, Nat.reduceSub, Nat.zero_add, Nat.add_zero]
    exact ⟨h1.1, fun _ => ⟨h1.1, fun z => absurd (show j = an c1 by omega) z, fun _ => hK1 rfl⟩, fun z => absurd (show an c1 ≤ j by omega) z⟩
  | succ r ih =>
    intro j hr hK1 hK0
    have huj := hu.2.2 j
    have hvj := hv.2.2 j
    have t1 := tu_lt (i := j) w hc
    have m1 := mu_lt (a := c) w huj
    have m2 := mu_lt (a := v j) w t1
    unfold als at hK1 hK0
    apply b_X2_leastAlike_16
    simp (disch := omega) only [s_le, s_lt, s_eq, s_eq0, s_in, s_ix, s_rm, s_div, s_pdlt, s_pdle, s_lepd, s_pdpd, s_pdlepd, s_pdadd, nI_add, pk_mul, pd_succ, Nat.not_lt_zero, Nat.zero_lt_succ, not_false_eq_true, not_true_eq_false, false_implies, true_implies, implies_true, and_true, true_and, Nat.reduceLT, Nat.reduceLeDiff, Nat.reduceAdd, Nat.reduceSub, Nat.zero_add, Nat.add_zero]
    refine ⟨h1.1, fun z => absurd z (by omega), fun _ => ⟨h2.1, fun z => absurd z (by omega), fun _ => ⟨h1.1, by omega, ?_⟩⟩⟩
    rw [hu.1 j (by omega)]
    refine p_mu h0 hc huj ⟨h2.1, by omega, p_tu h0 hc (by omega) ?_⟩
    rw [hv.1 j (by omega)]
    refine p_mu h0 hvj t1 ?_
    simp (disch := omega) only [s_le, s_lt, s_eq, s_eq0, s_in, s_ix, s_rm, s_div, s_pdlt, s_pdle, s_lepd, s_pdpd, s_pdlepd, s_pdadd, nI_add, pk_mul, pd_succ, Nat.not_lt_zero, Nat.zero_lt_succ, not_false_eq_true, not_true_eq_false, false_implies, true_implies, implies_true, and_true, true_and, Nat.reduceLT, Nat.reduceLeDiff, Nat.reduceAdd, Nat.reduceSub, Nat.zero_add, Nat.add_zero]
    refine ⟨fun z => ⟨h1.1, fun _ => ?_, fun z2 => absurd z2 (by omega)⟩, fun z => ?_⟩
    · rw [if_neg z] at hK0
      exact hK0 Bool.false_ne_true
    · rw [if_pos z] at hK0 hK1
      exact ih (j + 1) (by omega) hK1 hK0
theorem p_alike_loop (h0 : En q m d n g mi) {c1 c2 : Nat} (h1 : isR c1) (h2 : isR c2) (a1 : an c1 = 4) (a2 : an c2 = 4) {u v : Nat → Nat} (hu : Rw n mi c1 u) (hv : Rw n mi c2 v) {K : Int32 → (Nat → Nat → Int32) → (Nat → Nat → Int64) → Prop} :
    ∀ (r c : Nat), r + c = n → K (oI (all q m d u v r c)) mi ml → wp G e tX m_X2_leastAlike 2 [(0, .ref 68), (1, .ref c1), (2, .ref c2), (3, .int (nI c))] [] (mi, ml, RX y) (QI K) := by
  have w := h0.w
  have hn128 : n ≤ 128 := w.2.2.2.2.2.2
  intro r
  induction r with
  | zero =>
    intro c hr hK
    apply b_X2_leastAlike_2
    refine p_rsize h0.2.1 ?_
    simp (disch := omega) only [s_le, s_lt, s_eq, s_eq0, s_in, s_ix, s_rm, s_div, s_pdlt, s_pdle, s_lepd, s_pdpd, s_pdlepd, s_pdadd, nI_add, pk_mul, pd_succ, Nat.not_lt_zero, Nat.zero_lt_succ, not_false_eq_true, not_true_eq_false, false_implies, true_implies, implies_true, and_true, true_and, Nat.reduceLT, Nat.reduceLeDiff, Nat.reduceAdd, Nat.reduceSub, Nat.zero_add, Nat.add_zero]
    exact ⟨fun _ => hK, fun z => absurd (show n ≤ c by omega) z⟩
  | succ r ih =>
    intro c hr hK
    unfold all at hK
    apply b_X2_leastAlike_2
    refine p_rsize h0.2.1 ?_
    simp (disch := omega) only [s_le, s_lt, s_eq, s_eq0, s_in, s_ix, s_rm, s_div, s_pdlt, s_pdle, s_lepd, s_pdpd, s_pdlepd, s_pdadd, nI_add, pk_mul, pd_succ, Nat.not_lt_zero, Nat.zero_lt_succ, not_false_eq_true, not_true_eq_false, false_implies, true_implies, implies_true, and_true, true_and, Nat.reduceLT, Nat.reduceLeDiff, Nat.reduceAdd, Nat.reduceSub, Nat.zero_add, Nat.add_zero]
    refine ⟨fun z => absurd z (by omega), fun _ => ?_⟩
    refine p_alike_in h0 h1 h2 a1 a2 hu hv (by omega) 4 0 rfl (fun z => ?_) (fun z => ?_)
    · rw [if_pos z] at hK
      exact hK
    · rw [if_neg z] at hK
      exact ih (c + 1) (by omega) hK
theorem p_leastAlike (h0 : En q m d n g mi) {c1 c2 : Nat} (h1 : isR c1) (h2 : isR c2) (a1 : an c1 = 4) (a2 : an c2 = 4) {u v : Nat → Nat} (hu : Rw n mi c1 u) (hv : Rw n mi c2 v) {K : Int32 → (Nat → Nat → Int32) → (Nat → Nat → Int64) → Prop} (hK : K (oI (all q m d u v (n - 1) 1)) mi ml) :
    wpI G e 154 m_X2_leastAlike [.ref 68, .ref c1, .ref c2] (mi, ml, RX y) K := by
  have hn2 := h0.w.n2
  apply e_X2_leastAlike
  exact p_alike_loop h0 h1 h2 a1 a2 hu hv (n - 1) 1 (by omega) hK
theorem p_cck_loop (h0 : En q m d n g mi) {rank k s : Nat} (hr3 : rank ≤ 3) (hk : k < n - 1) {K : Int32 → (Nat → Nat → Int32) → (Nat → Nat → Int64) → Prop} :
    ∀ (r i w : Nat), r + i = rank + 1 → 1 ≤ i → w * n ^ r ≤ n ^ 3 → wp G e tX m_X2_countClasses 15 [(0, .ref 68), (1, .int (nI rank)), (2, .int (nI (n - 1))), (3, .long (lN (s + cck q n rank k r i w))), (5, .int (nI (k + 1)))] [] (mi, ml, RX y) (QI K) →
      wp G e tX m_X2_countClasses 27 [(0, .ref 68), (1, .int (nI rank)), (2, .int (nI (n - 1))), (3, .long (lN s)), (5, .int (nI k)), (6, .long (lN w)), (8, .int (nI i))] [] (mi, ml, RX y) (QI K) := by
  have wd := h0.w
  have hn2 := wd.n2
  have hq2 := h0.1.two
  have hn128 : n ≤ 128 := wd.2.2.2.2.2.2
  intro r
  induction r with
  | zero =>
    intro i w hr hi hw hK
    apply b_X2_countClasses_27
    rw [lN_add]
    simp (disch := omega) only [s_le, s_lt, s_eq, s_eq0, s_in, s_ix, s_rm, s_div, s_pdlt, s_pdle, s_lepd, s_pdpd, s_pdlepd, s_pdadd, nI_add, pk_mul, pd_succ, Nat.not_lt_zero, Nat.zero_lt_succ, not_false_eq_true, not_true_eq_false, false_implies, true_implies, implies_true, and_true, true_and, Nat.reduceLT, Nat.reduceLeDiff, Nat.reduceAdd, Nat.reduceSub, Nat.zero_add, Nat.add_zero]
    exact ⟨fun _ => hK, fun z => absurd (show rank < i by omega) z⟩
  | succ r ih =>
    intro i w hr hi hw hK
    have hqi : q ^ i ≤ 125 := by
      have h1 : q ^ i ≤ 5 ^ i := Nat.pow_le_pow_left hq2.2 i
      have h2 : 5 ^ i ≤ 5 ^ 3 := Nat.pow_le_pow_right (by omega) (by omega)
      omega
    have hq1 : 1 ≤ q ^ i := Nat.pow_pos (by omega)
    have hkq : k * (q ^ i - 1) ≤ 128 * 125 := Nat.mul_le_mul (by omega) (by omega)
    have hmod := Nat.mod_lt (k * (q ^ i - 1)) (show 0 < n - 1 by omega)
    have hwn : w * n * n ^ r ≤ n ^ 3 := by
      rw [Nat.pow_succ, Nat.mul_comm (n ^ r) n, ← Nat.mul_assoc] at hw
      exact hw
    have step : ∀ o, o ≤ n → (if i = rank then (if k * (q ^ i - 1) % (n - 1) = 0 then n - 1 else 0) else (if k * (q ^ i - 1) % (n - 1) = 0 then n else 1)) = o → wp G e tX m_X2_countClasses 27 [(0, .ref 68), (1, .int (nI rank)), (2, .int (nI (n - 1))), (3, .long (lN s)), (5, .int (nI k)), (6, .long (lN (w * o))), (8, .int (nI (i + 1)))] [] (mi, ml, RX y) (QI K) := by
      intro o ho he
      refine ih (i + 1) (w * o) (by omega) (by omega) (Nat.le_trans (Nat.mul_le_mul_right _ (Nat.mul_le_mul_left _ ho)) hwn) ?_
      have e9 : cck q n rank k (r + 1) i w = cck q n rank k r (i + 1) (w * (if i = rank then (if k * (q ^ i - 1) % (n - 1) = 0 then n - 1 else 0) else (if k * (q ^ i - 1) % (n - 1) = 0 then n else 1))) := rfl
      rw [e9, he] at hK
      exact hK
    apply b_X2_countClasses_27
    simp (disch := omega) only [s_le, s_lt, s_eq, s_eq0, s_in, s_ix, s_rm, s_div, s_pdlt, s_pdle, s_lepd, s_pdpd, s_pdlepd, s_pdadd, nI_add, pk_mul, pd_succ, Nat.not_lt_zero, Nat.zero_lt_succ, not_false_eq_true, not_true_eq_false, false_implies, true_implies, implies_true, and_true, true_and, Nat.reduceLT, Nat.reduceLeDiff, Nat.reduceAdd, Nat.reduceSub, Nat.zero_add, Nat.add_zero]
    refine ⟨fun z => absurd z (by omega), fun _ => p_power h0.1 (by omega) ?_⟩
    rw [s_sub hq1, pk_mul, s_rm (by omega) (by omega) (by omega)]
    simp (disch := omega) only [s_le, s_lt, s_eq, s_eq0, s_in, s_ix, s_rm, s_div, s_pdlt, s_pdle, s_lepd, s_pdpd, s_pdlepd, s_pdadd, nI_add, pk_mul, pd_succ, Nat.not_lt_zero, Nat.zero_lt_succ, not_false_eq_true, not_true_eq_false, false_implies, true_implies, implies_true, and_true, true_and, Nat.reduceLT, Nat.reduceLeDiff, Nat.reduceAdd, Nat.reduceSub, Nat.zero_add, Nat.add_zero, nI_l, lN_mul, Nat.one_ne_zero]
    refine ⟨by omega, fun c1 => ⟨fun c2 => ?_, fun c2 => ?_⟩, fun c1 => ⟨fun c2 => ?_, fun c2 => ?_⟩⟩
    · exact step 1 (by omega) (by rw [if_neg c2, if_neg c1])
    · exact step 0 (by omega) (by rw [if_pos c2, if_neg c1])
    · rw [show n - 1 + 1 = n by omega]
      exact step n (by omega) (by rw [if_neg c2, if_pos c1])
    · exact step (n - 1) (by omega) (by rw [if_pos c2, if_pos c1])
theorem p_ccl_loop (h0 : En q m d n g mi) {rank : Nat} (hr1 : 1 ≤ rank) (hr3 : rank ≤ 3) {K : Int32 → (Nat → Nat → Int32) → (Nat → Nat → Int64) → Prop} :
    ∀ (r k s : Nat), r + k = n - 1 → s ≤ k * n ^ 3 → K (nI (ccl q n rank r k s / (n - 1))) mi ml →
      wp G e tX m_X2_countClasses 15 [(0, .ref 68), (1, .int (nI rank)), (2, .int (nI (n - 1))), (3, .long (lN s)), (5, .int (nI k))] [] (mi, ml, RX y) (QI K) := by
  have wd := h0.w
  have hn2 := wd.n2
  have hn128 : n ≤ 128 := wd.2.2.2.2.2.2
  have hn3 : n ^ 3 ≤ 128 ^ 3 := Nat.pow_le_pow_left hn128 3
  intro r
  induction r with
  | zero =>
    intro k s hr hs hK
    have hk3 : k * n ^ 3 ≤ 128 * 128 ^ 3 := Nat.mul_le_mul (by omega) hn3
    apply b_X2_countClasses_15
    rw [nI_l (by omega), s_ldiv (by omega) (by omega) (by omega), lN_i]
    simp (disch := omega) only [s_le, s_lt, s_eq, s_eq0, s_in, s_ix, s_rm, s_div, s_pdlt, s_pdle, s_lepd, s_pdpd, s_pdlepd, s_pdadd, nI_add, pk_mul, pd_succ, Nat.not_lt_zero, Nat.zero_lt_succ, not_false_eq_true, not_true_eq_false, false_implies, true_implies, implies_true, and_true, true_and, Nat.reduceLT, Nat.reduceLeDiff, Nat.reduceAdd, Nat.reduceSub, Nat.zero_add, Nat.add_zero]
    refine ⟨fun _ => ⟨fun _ => ⟨?_, hK⟩, fun z => absurd (show 1 ≤ n - 1 by omega) z⟩, fun z => absurd (show n - 1 ≤ k by omega) z⟩
    intro z
    have := (lN_eq (a := n - 1) (b := 0) (by omega) (by omega)).mp z
    omega
  | succ r ih =>
    intro k s hr hs hK
    have hr2 : n ^ rank ≤ n ^ 3 := Nat.pow_le_pow_right (by omega) hr3
    have hcl := cck_le (q := q) (rank := rank) (k := k) hn2 rank 1 1
    unfold ccl at hK
    apply b_X2_countClasses_15
    simp (disch := omega) only [s_le, s_lt, s_eq, s_eq0, s_in, s_ix, s_rm, s_div, s_pdlt, s_pdle, s_lepd, s_pdpd, s_pdlepd, s_pdadd, nI_add, pk_mul, pd_succ, Nat.not_lt_zero, Nat.zero_lt_succ, not_false_eq_true, not_true_eq_false, false_implies, true_implies, implies_true, and_true, true_and, Nat.reduceLT, Nat.reduceLeDiff, Nat.reduceAdd, Nat.reduceSub, Nat.zero_add, Nat.add_zero]
    refine ⟨fun z => absurd z (by omega), fun _ => ?_⟩
    refine p_cck_loop h0 hr3 (by omega) rank 1 1 rfl (Nat.le_refl 1) (by rw [Nat.one_mul]; exact hr2) ?_
    refine ih (k + 1) _ (by omega) ?_ hK
    rw [Nat.succ_mul]
    omega
theorem p_countClasses (h0 : En q m d n g mi) {rank : Nat} (hr1 : 1 ≤ rank) (hr3 : rank ≤ 3) {K : Int32 → (Nat → Nat → Int32) → (Nat → Nat → Int64) → Prop} (hK : K (nI (ccs q n rank)) mi ml) : wpI G e 154 m_X2_countClasses [.ref 68, .int (nI rank)] (mi, ml, RX y) K := by
  have hn2 := h0.w.n2
  apply e_X2_countClasses
  refine p_rsize h0.2.1 ?_
  rw [s_sub (by omega)]
  exact p_ccl_loop h0 hr1 hr3 (n - 1) 0 0 rfl (Nat.zero_le _) hK
theorem p_cdv_loop {K : Int32 → (Nat → Nat → Int32) → (Nat → Nat → Int64) → Prop} : ∀ (r i a b : Nat), r + i = 64 → a < 2 ^ 31 → b < 2 ^ 31 → K (nI (cdl r a b)) mi ml →
    wp G e tX m_X2_commonDivisor 2 [(0, .int (nI a)), (1, .int (nI b)), (2, .int (nI i))] [] (mi, ml, RX y) (QI K) := by
  intro r
  induction r with
  | zero =>
    intro i a b hr ha hb hK
    apply b_X2_commonDivisor_2
    simp (disch := omega) only [s_le, s_lt, s_eq, s_eq0, s_in, s_ix, s_rm, s_div, s_pdlt, s_pdle, s_lepd, s_pdpd, s_pdlepd, s_pdadd, nI_add, pk_mul, pd_succ, Nat.not_lt_zero, Nat.zero_lt_succ, not_false_eq_true, not_true_eq_false, false_implies, true_implies, implies_true, and_true, true_and, Nat.reduceLT, Nat.reduceLeDiff, Nat.reduceAdd, Nat.reduceSub, Nat.zero_add, Nat.add_zero]
    exact ⟨fun _ => hK, fun z => absurd (show 64 ≤ i by omega) z⟩
  | succ r ih =>
    intro i a b hr ha hb hK
    unfold cdl at hK
    apply b_X2_commonDivisor_2
    simp (disch := omega) only [s_le, s_lt, s_eq, s_eq0, s_in, s_ix, s_rm, s_div, s_pdlt, s_pdle, s_lepd, s_pdpd, s_pdlepd, s_pdadd, nI_add, pk_mul, pd_succ, Nat.not_lt_zero, Nat.zero_lt_succ, not_false_eq_true, not_true_eq_false, false_implies, true_implies, implies_true, and_true, true_and, Nat.reduceLT, Nat.reduceLeDiff, Nat.reduceAdd, Nat.reduceSub, Nat.zero_add, Nat.add_zero]
    refine ⟨fun z => absurd z (by omega), fun _ => ⟨fun z => ?_, fun z => ?_⟩⟩
    · rw [if_pos (by omega)] at hK
      exact hK
    · rw [if_neg (by omega)] at hK
      have hm := Nat.mod_lt a (show 0 < b by omega)
      rw [s_rm ha (by omega) hb]
      exact ⟨by omega, ih (i + 1) b (a % b) (by omega) hb (by omega) hK⟩
theorem p_commonDivisor {a b : Nat} (ha : a < 2 ^ 31) (hb : b < 2 ^ 31) {K : Int32 → (Nat → Nat → Int32) → (Nat → Nat → Int64) → Prop} (hK : K (nI (cdv a b)) mi ml) : wpI G e 154 m_X2_commonDivisor [.int (nI a), .int (nI b)] (mi, ml, RX y) K := by
  apply e_X2_commonDivisor
  exact p_cdv_loop 64 0 a b rfl ha hb hK
theorem p_isGreatest (h0 : En q m d n g mi) {g0 g1 g2 c : Nat} (hg0 : g0 < n) (hg1 : g1 < n) (hg2 : g2 < n) (hc : c < q ^ 13) {K : Int32 → (Nat → Nat → Int32) → (Nat → Nat → Int64) → Prop}
    (hK : ∀ mi1, off72 mi mi1 → K (nI (if isg q m d g0 g1 g2 c = true then 1 else 0)) mi1 ml) : wpI G e 154 m_X2_isGreatest [.ref 68, .int (nI g0), .int (nI g1), .int (nI g2), .int (nI c)] (mi, ml, RX y) K := by
  have hn2 := h0.w.n2
  obtain ⟨-, -, -, ⟨r72, l72⟩, -⟩ := rowK
  apply e_X2_isGreatest
  simp (disch := omega) only [s_le, s_lt, s_eq, s_eq0, s_in, s_ix, s_rm, s_div, s_pdlt, s_pdle, s_lepd, s_pdpd, s_pdlepd, s_pdadd, nI_add, pk_mul, pd_succ, Nat.not_lt_zero, Nat.zero_lt_succ, not_false_eq_true, not_true_eq_false, false_implies, true_implies, implies_true, and_true, true_and, Nat.reduceLT, Nat.reduceLeDiff, Nat.reduceAdd, Nat.reduceSub, Nat.zero_add, Nat.add_zero]
  have ho : ∀ o, o ≠ 72 → u2 (u2 (u2 (u2 mi 72 0 (nI g0)) 72 1 (nI g1)) 72 2 (nI g2)) 72 3 (nI 0) o = mi o := fun o h => by rw [u2_off h, u2_off h, u2_off h, u2_off h]
  refine p_height (h0.off (fun o o1 o2 => ho o (by omega))) r72 (by omega) (by omega) hc (h := r3 g0 g1 g2) ⟨fun k hk => ?_, fun k hk => ?_, fun k => ?_⟩ (fun mi1 ho1 => ?_)
  · rw [l72] at hk
    rcases (show k = 0 ∨ k = 1 ∨ k = 2 ∨ k = 3 by omega) with rfl | rfl | rfl | rfl <;> rfl
  · unfold r3
    rw [if_neg (by omega), if_neg (by omega), if_neg (by omega)]
  · unfold r3
    split
    · exact hg0
    split
    · exact hg1
    split
    · exact hg2
    · omega
  · have hK1 := hK mi1 (fun o oo => by rw [ho1 o (by omega)]; exact ho o (by omega))
    unfold isg at hK1
    cases hh : hgt q m d (r3 g0 g1 g2) c with
    | none =>
      rw [hh, if_neg (by simp)] at hK1
      exact ⟨fun _ => ⟨Or.inl rfl, hK1⟩, fun z => absurd z (by decide)⟩
    | some h =>
      have hlt := hgt_lt hh
      rw [hh] at hK1
      show (¬ nI h = nI 2 → _) ∧ (nI h = nI 2 → _)
      simp (disch := omega) only [s_le, s_lt, s_eq, s_eq0, s_in, s_ix, s_rm, s_div, s_pdlt, s_pdle, s_lepd, s_pdpd, s_pdlepd, s_pdadd, nI_add, pk_mul, pd_succ, Nat.not_lt_zero, Nat.zero_lt_succ, not_false_eq_true, not_true_eq_false, false_implies, true_implies, implies_true, and_true, true_and, Nat.reduceLT, Nat.reduceLeDiff, Nat.reduceAdd, Nat.reduceSub, Nat.zero_add, Nat.add_zero]
      refine ⟨fun z => ⟨Or.inl rfl, ?_⟩, fun z => ⟨Or.inr rfl, ?_⟩⟩
      · rw [if_neg (by simp only [Option.some.injEq, decide_eq_true_eq]; exact z)] at hK1
        exact hK1
      · rw [if_pos (by simp only [Option.some.injEq, decide_eq_true_eq]; exact z)] at hK1
        exact hK1
theorem p_cga_loop {g0 c : Nat} (hg0 : g0 < n) (hc : c < q ^ 13) (hg : g < n) (mi0 : Nat → Nat → Int32) (h0 : En q m d n g mi0) {N : Nat} (hN : cdv (q ^ 2 - 1) (n - 1) = N) (hN2 : N ≤ 128) {K : Int32 → (Nat → Nat → Int32) → (Nat → Nat → Int64) → Prop} :
    ∀ (r j s : Nat) (mi : Nat → Nat → Int32), r + j = N → s ≤ j → off72 mi0 mi →
      (∀ mi1, off72 mi0 mi1 → cga q m d n g g0 c r j s ≤ N → wp G e tX m_X2_countGreatest 86 [(0, .ref 68), (1, .int (nI g0)), (2, .int (nI c)), (3, .int (nI (n - 1))), (5, .int (nI (cga q m d n g g0 c r j s))), (6, .int (nI 0))] [] (mi1, ml, RX y) (QI K)) →
      wp G e tX m_X2_countGreatest 37 [(0, .ref 68), (1, .int (nI g0)), (2, .int (nI c)), (3, .int (nI (n - 1))), (4, .int (nI (q ^ 2 - 1))), (5, .int (nI s)), (6, .int (nI j))] [] (mi, ml, RX y) (QI K) := by
  have w := h0.w
  have hn2 := w.n2
  have hn128 : n ≤ 128 := w.2.2.2.2.2.2
  have h31 := pow_lt31 (M := 2) w.1 (by omega)
  have hgp := gp_lt w hg
  intro r
  induction r with
  | zero =>
    intro j s mi hr hs ho hK
    have hE := h0.off72 ho
    apply b_X2_countGreatest_37
    refine p_commonDivisor (by omega) (by omega) ?_
    rw [hN]
    simp (disch := omega) only [s_le, s_lt, s_eq, s_eq0, s_in, s_ix, s_rm, s_div, s_pdlt, s_pdle, s_lepd, s_pdpd, s_pdlepd, s_pdadd, nI_add, pk_mul, pd_succ, Nat.not_lt_zero, Nat.zero_lt_succ, not_false_eq_true, not_true_eq_false, false_implies, true_implies, implies_true, and_true, true_and, Nat.reduceLT, Nat.reduceLeDiff, Nat.reduceAdd, Nat.reduceSub, Nat.zero_add, Nat.add_zero]
    refine ⟨fun _ => hK mi ho ?_, fun z => absurd (show N ≤ j by omega) z⟩
    show s ≤ N
    omega
  | succ r ih =>
    intro j s mi hr hs ho hK
    have hE := h0.off72 ho
    unfold cga at hK
    apply b_X2_countGreatest_37
    refine p_commonDivisor (by omega) (by omega) ?_
    rw [hN]
    simp (disch := omega) only [s_le, s_lt, s_eq, s_eq0, s_in, s_ix, s_rm, s_div, s_pdlt, s_pdle, s_lepd, s_pdpd, s_pdlepd, s_pdadd, nI_add, pk_mul, pd_succ, Nat.not_lt_zero, Nat.zero_lt_succ, not_false_eq_true, not_true_eq_false, false_implies, true_implies, implies_true, and_true, true_and, Nat.reduceLT, Nat.reduceLeDiff, Nat.reduceAdd, Nat.reduceSub, Nat.zero_add, Nat.add_zero]
    refine ⟨fun z => absurd z (by omega), fun _ => p_makerPower hE.2.1 (by omega) ?_⟩
    refine p_isGreatest hE hg0 (show 0 < n by omega) (hgp _) hc (fun mi1 ho1 => ?_)
    have ho2 : off72 mi0 mi1 := fun o oo => by rw [ho1 o oo]; exact ho o oo
    by_cases c1 : isg q m d g0 0 (gp q m g (j % (n - 1))) c = true
    · rw [if_pos c1] at hK ⊢
      exact ⟨fun z => absurd z (by decide), fun _ => ih (j + 1) (s + 1) mi1 (by omega) (by omega) ho2 hK⟩
    · rw [if_neg c1] at hK ⊢
      exact ⟨fun _ => ih (j + 1) s mi1 (by omega) (by omega) ho2 hK, fun z => absurd rfl z⟩
theorem p_cgi_loop {g0 c i : Nat} (hg0 : g0 < n) (hc : c < q ^ 13) (hg : g < n) (hi : i < 2 ^ 20) (mi0 : Nat → Nat → Int32) (h0 : En q m d n g mi0) {K : Int32 → (Nat → Nat → Int32) → (Nat → Nat → Int64) → Prop} :
    ∀ (r j s : Nat) (mi : Nat → Nat → Int32), r + j = n - 1 → s < 2 ^ 20 + j → off72 mi0 mi →
      (∀ mi1, off72 mi0 mi1 → cgi q m d n g g0 c i r j s ≤ s + r → wp G e tX m_X2_countGreatest 86 [(0, .ref 68), (1, .int (nI g0)), (2, .int (nI c)), (3, .int (nI (n - 1))), (5, .int (nI (cgi q m d n g g0 c i r j s))), (6, .int (nI (i + 1)))] [] (mi1, ml, RX y) (QI K)) →
      wp G e tX m_X2_countGreatest 103 [(0, .ref 68), (1, .int (nI g0)), (2, .int (nI c)), (3, .int (nI (n - 1))), (5, .int (nI s)), (6, .int (nI i)), (7, .int (nI j))] [] (mi, ml, RX y) (QI K) := by
  have w := h0.w
  have hn2 := w.n2
  have hn128 : n ≤ 128 := w.2.2.2.2.2.2
  have hgp := gp_lt w hg
  intro r
  induction r with
  | zero =>
    intro j s mi hr hs ho hK
    apply b_X2_countGreatest_103
    simp (disch := omega) only [s_le, s_lt, s_eq, s_eq0, s_in, s_ix, s_rm, s_div, s_pdlt, s_pdle, s_lepd, s_pdpd, s_pdlepd, s_pdadd, nI_add, pk_mul, pd_succ, Nat.not_lt_zero, Nat.zero_lt_succ, not_false_eq_true, not_true_eq_false, false_implies, true_implies, implies_true, and_true, true_and, Nat.reduceLT, Nat.reduceLeDiff, Nat.reduceAdd, Nat.reduceSub, Nat.zero_add, Nat.add_zero]
    exact ⟨fun _ => hK mi ho (Nat.le_refl _), fun z => absurd (show n - 1 ≤ j by omega) z⟩
  | succ r ih =>
    intro j s mi hr hs ho hK
    have hE := h0.off72 ho
    unfold cgi at hK
    apply b_X2_countGreatest_103
    simp (disch := omega) only [s_le, s_lt, s_eq, s_eq0, s_in, s_ix, s_rm, s_div, s_pdlt, s_pdle, s_lepd, s_pdpd, s_pdlepd, s_pdadd, nI_add, pk_mul, pd_succ, Nat.not_lt_zero, Nat.zero_lt_succ, not_false_eq_true, not_true_eq_false, false_implies, true_implies, implies_true, and_true, true_and, Nat.reduceLT, Nat.reduceLeDiff, Nat.reduceAdd, Nat.reduceSub, Nat.zero_add, Nat.add_zero]
    refine ⟨fun z => absurd z (by omega), fun _ => p_makerPower hE.2.1 (by omega) (p_makerPower hE.2.1 (by omega) ?_)⟩
    refine p_isGreatest hE hg0 (hgp _) (hgp _) hc (fun mi1 ho1 => ?_)
    have ho2 : off72 mi0 mi1 := fun o oo => by rw [ho1 o oo]; exact ho o oo
    by_cases c1 : isg q m d g0 (gp q m g (i % (n - 1))) (gp q m g (j % (n - 1))) c = true
    · rw [if_pos c1] at hK ⊢
      exact ⟨fun z => absurd z (by decide), fun _ => ih (j + 1) (s + 1) mi1 (by omega) (by omega) ho2 (fun mi2 ho3 hle => hK mi2 ho3 (by omega))⟩
    · rw [if_neg c1] at hK ⊢
      exact ⟨fun _ => ih (j + 1) s mi1 (by omega) (by omega) ho2 (fun mi2 ho3 hle => hK mi2 ho3 (by omega)), fun z => absurd rfl z⟩
theorem p_cgo_loop {g0 c : Nat} (hg0 : g0 < n) (hc : c < q ^ 13) (hg : g < n) (mi0 : Nat → Nat → Int32) (h0 : En q m d n g mi0) {K : Int32 → (Nat → Nat → Int32) → (Nat → Nat → Int64) → Prop} :
    ∀ (r i s : Nat) (mi : Nat → Nat → Int32), r + i = q - 1 → s ≤ 128 * (i + 1) → off72 mi0 mi → (∀ mi1, off72 mi0 mi1 → K (nI (cgo q m d n g g0 c r i s)) mi1 ml) →
      wp G e tX m_X2_countGreatest 86 [(0, .ref 68), (1, .int (nI g0)), (2, .int (nI c)), (3, .int (nI (n - 1))), (5, .int (nI s)), (6, .int (nI i))] [] (mi, ml, RX y) (QI K) := by
  have w := h0.w
  have hq2 := h0.1.two
  have hn2 := w.n2
  have hn128 : n ≤ 128 := w.2.2.2.2.2.2
  intro r
  induction r with
  | zero =>
    intro i s mi hr hs ho hK
    have hE := h0.off72 ho
    apply b_X2_countGreatest_86
    refine p_base hE.1 ?_
    rw [s_sub (by omega)]
    simp (disch := omega) only [s_le, s_lt, s_eq, s_eq0, s_in, s_ix, s_rm, s_div, s_pdlt, s_pdle, s_lepd, s_pdpd, s_pdlepd, s_pdadd, nI_add, pk_mul, pd_succ, Nat.not_lt_zero, Nat.zero_lt_succ, not_false_eq_true, not_true_eq_false, false_implies, true_implies, implies_true, and_true, true_and, Nat.reduceLT, Nat.reduceLeDiff, Nat.reduceAdd, Nat.reduceSub, Nat.zero_add, Nat.add_zero]
    exact ⟨fun _ => hK mi ho, fun z => absurd (show q - 1 ≤ i by omega) z⟩
  | succ r ih =>
    intro i s mi hr hs ho hK
    have hE := h0.off72 ho
    unfold cgo at hK
    apply b_X2_countGreatest_86
    refine p_base hE.1 ?_
    rw [s_sub (by omega)]
    simp (disch := omega) only [s_le, s_lt, s_eq, s_eq0, s_in, s_ix, s_rm, s_div, s_pdlt, s_pdle, s_lepd, s_pdpd, s_pdlepd, s_pdadd, nI_add, pk_mul, pd_succ, Nat.not_lt_zero, Nat.zero_lt_succ, not_false_eq_true, not_true_eq_false, false_implies, true_implies, implies_true, and_true, true_and, Nat.reduceLT, Nat.reduceLeDiff, Nat.reduceAdd, Nat.reduceSub, Nat.zero_add, Nat.add_zero]
    refine ⟨fun z => absurd z (by omega), fun _ => ?_⟩
    refine p_cgi_loop hg0 hc hg (by omega) mi0 h0 (n - 1) 0 s mi rfl (by omega) ho (fun mi1 ho1 hle => ?_)
    exact ih (i + 1) _ mi1 (by omega) (by omega) ho1 hK
theorem cdl_le : ∀ r a b N, a ≤ N → b ≤ N → cdl r a b ≤ N
  | 0, _, _, _, ha, _ => ha
  | r + 1, a, b, N, ha, hb => by
    unfold cdl
    split
    · exact ha
    · refine cdl_le r b _ N hb ?_
      have := Nat.mod_lt a (show 0 < b by omega)
      omega
theorem p_countGreatest (h0 : En q m d n g mi) {g0 : Nat} (hg0 : g0 < n) {K : Int32 → (Nat → Nat → Int32) → (Nat → Nat → Int64) → Prop}
    (hK : ∀ (c : Nat) (mi1 : Nat → Nat → Int32), off72 mi mi1 → chc q m d g0 = some c → K (nI (cgr q m d n g g0 c)) mi1 ml) : wpI G e 154 m_X2_countGreatest [.ref 68, .int (nI g0)] (mi, ml, RX y) K := by
  have w := h0.w
  have hq2 := h0.1.two
  have hn2 := w.n2
  have hd7 := w.d7
  have hn128 : n ≤ 128 := w.2.2.2.2.2.2
  have hg : g < n := h0.2.1.2.2.1
  have hq25 : q ^ 2 ≤ 5 ^ 2 := Nat.pow_le_pow_left hq2.2 2
  have hq1 : 1 ≤ q ^ 2 := Nat.pow_pos (by omega)
  apply e_X2_countGreatest
  refine p_chc h0 hg0 (fun c mi1 ho1 hc hlt => ?_)
  have ho : off72 mi mi1 := fun o oo => ho1 o (by omega)
  have hE := h0.off72 ho
  refine p_rsize hE.2.1 (p_power hE.1 (by omega) ?_)
  rw [s_sub (by omega), s_sub hq1]
  have hc13 : c < q ^ 13 := Nat.lt_of_lt_of_le hlt (Nat.pow_le_pow_right (by omega) (by omega))
  have hcd : cdv (q ^ 2 - 1) (n - 1) ≤ 128 := cdl_le 64 _ _ 128 (by omega) (by omega)
  refine p_cga_loop hg0 hc13 hg mi h0 rfl hcd _ 0 0 mi1 rfl (Nat.le_refl 0) ho (fun mi2 ho2 hle => ?_)
  exact p_cgo_loop hg0 hc13 hg mi h0 (q - 1) 0 _ mi2 rfl (by omega) ho2 (fun mi3 ho3 => hK c mi3 ho3 hc)
end MAP3
