/-! products by their figures -/
def sg (f : Nat → Nat) : Nat → Nat
  | 0 => 0
  | n + 1 => sg f n + f n
theorem sg_ext {f g : Nat → Nat} : ∀ {n : Nat}, (∀ i, i < n → f i = g i) → sg f n = sg g n
  | 0, _ => rfl
  | n + 1, h => by
    show sg f n + f n = sg g n + g n
    rw [sg_ext (fun i hi => h i (by omega)), h n (by omega)]
theorem sg_head (f : Nat → Nat) : ∀ n, sg f (n + 1) = f 0 + sg (fun i => f (i + 1)) n
  | 0 => by show 0 + f 0 = f 0 + 0; omega
  | n + 1 => by
    show sg f (n + 1) + f (n + 1) = f 0 + (sg (fun i => f (i + 1)) n + f (n + 1))
    rw [sg_head f n, Nat.add_assoc]
theorem sg_rev (f : Nat → Nat) : ∀ n, sg (fun i => f (n - 1 - i)) n = sg f n
  | 0 => rfl
  | n + 1 => by
    rw [sg_head]
    show f (n + 1 - 1 - 0) + sg (fun i => f (n + 1 - 1 - (i + 1))) n = sg f n + f n
    have e1 : sg (fun i => f (n + 1 - 1 - (i + 1))) n = sg (fun i => f (n - 1 - i)) n := sg_ext (fun i hi => by
      show f (n + 1 - 1 - (i + 1)) = f (n - 1 - i)
      congr 1
      omega)
    rw [e1, sg_rev f n, Nat.add_sub_cancel, Nat.sub_zero, Nat.add_comm]
theorem sg_zero {f : Nat → Nat} : ∀ {n : Nat}, (∀ i, i < n → f i = 0) → sg f n = 0
  | 0, _ => rfl
  | n + 1, h => by
    show sg f n + f n = 0
    rw [sg_zero (fun i hi => h i (by omega)), h n (by omega)]
theorem sg_add (f g : Nat → Nat) : ∀ n, sg (fun i => f i + g i) n = sg f n + sg g n
  | 0 => rfl
  | n + 1 => by
    show sg (fun i => f i + g i) n + (f n + g n) = sg f n + f n + (sg g n + g n)
    rw [sg_add f g n]
    omega
/-- the k-th figure of a product, not yet reduced -/
def pc (f g : Nat → Nat) (k : Nat) : Nat := sg (fun i => f i * g (k - i)) (k + 1)
theorem pc_comm (f g : Nat → Nat) (k : Nat) : pc f g k = pc g f k := by
  unfold pc
  rw [← sg_rev (fun i => g i * f (k - i)) (k + 1)]
  refine sg_ext (fun i hi => ?_)
  show f i * g (k - i) = g (k + 1 - 1 - i) * f (k - (k + 1 - 1 - i))
  rw [Nat.mul_comm, show k + 1 - 1 - i = k - i by omega, show k - (k - i) = i by omega]
/-- f below n alone -/
def cut (f : Nat → Nat) (n : Nat) : Nat → Nat := fun i => if i < n then f i else 0
theorem sg_one {c : Nat} {j : Nat} : ∀ n, sg (fun i => if i = j then c else 0) n = if j < n then c else 0
  | 0 => by rw [if_neg (by omega)]; rfl
  | n + 1 => by
    show sg (fun i => if i = j then c else 0) n + (if n = j then c else 0) = _
    rw [sg_one n]
    by_cases h1 : j < n
    · rw [if_pos h1, if_neg (by omega), if_pos (by omega), Nat.add_zero]
    · by_cases h2 : n = j
      · rw [if_neg h1, if_pos h2, if_pos (by omega), Nat.zero_add]
      · rw [if_neg h1, if_neg h2, if_neg (by omega)]
theorem pc_cut (f g : Nat → Nat) (n k : Nat) : pc (cut f (n + 1)) g k = pc (cut f n) g k + if n ≤ k then f n * g (k - n) else 0 := by
  unfold pc
  have e1 : sg (fun i => cut f (n + 1) i * g (k - i)) (k + 1) = sg (fun i => cut f n i * g (k - i) + (if i = n then f n * g (k - n) else 0)) (k + 1) := by
    refine sg_ext (fun i hi => ?_)
    show (if i < n + 1 then f i else 0) * g (k - i) = (if i < n then f i else 0) * g (k - i) + _
    by_cases h1 : i < n
    · rw [if_pos (by omega), if_pos h1, if_neg (by omega)]
      rfl
    · by_cases h2 : i = n
      · subst h2
        rw [if_pos (by omega), if_neg h1, if_pos rfl, Nat.zero_mul, Nat.zero_add]
      · rw [if_neg (by omega), if_neg h1, if_neg h2, Nat.zero_mul]
  rw [e1, sg_add, sg_one]
  by_cases h : n ≤ k
  · rw [if_pos h, if_pos (by omega)]
  · rw [if_neg h, if_neg (by omega)]
theorem pc_cut0 (f g : Nat → Nat) (k : Nat) : pc (cut f 0) g k = 0 := sg_zero (fun i hi => by
  show (if i < 0 then f i else 0) * _ = 0
  rw [if_neg (by omega), Nat.zero_mul])
theorem dg_mulpow {q x n k : Nat} (h2 : 2 ≤ q) : dg q (x * q ^ n) k = if n ≤ k then dg q x (k - n) else 0 := by
  by_cases h : n ≤ k
  · rw [if_pos h, dg_mul h2 x n k h]
  · rw [if_neg h]
    unfold dg
    obtain ⟨j, hj⟩ : ∃ j, n = k + 1 + j := ⟨n - k - 1, by omega⟩
    have e : x * q ^ n = (x * q ^ j * q) * q ^ k := by
      rw [hj, Nat.pow_add, Nat.pow_add, Nat.pow_one]
      ac_rfl
    rw [e, Nat.mul_div_cancel _ (Nat.pow_pos (by omega)), Nat.mul_mod_left]
theorem hor_dg {q a b L la : Nat} (h2 : 2 ≤ q) (hb : b < q ^ L) (hL : 1 ≤ L) (hfit : L + la ≤ 14) : ∀ (n s : Nat), n ≤ la → s < q ^ (L - 1 + (la - n)) → ∀ k, k < 13 →
    dg q (hor q a b n s) k = ((if n ≤ k then dg q s (k - n) else 0) + pc (cut (dg q a) n) (dg q b) k) % q
  | 0, s, _, _, k, hk => by
    rw [if_pos (Nat.zero_le _), Nat.sub_zero, pc_cut0, Nat.add_zero, Nat.mod_eq_of_lt (dg_lt h2)]
    rfl
  | n + 1, s, hn, hs, k, hk => by
    have hs2 : s * q < q ^ (L + (la - (n + 1))) := by
      have e1 : L + (la - (n + 1)) = (L - 1 + (la - (n + 1))) + 1 := by omega
      rw [e1, Nat.pow_succ]
      exact Nat.mul_lt_mul_of_pos_right hs (by omega)
    have e2 : L - 1 + (la - n) = L + (la - (n + 1)) := by omega
    have hs3 : cmb q (dg q a n) 13 (s * q) b < q ^ (L - 1 + (la - n)) := by
      rw [e2]
      exact cmb_small h2 hs2 (Nat.lt_of_lt_of_le hb (Nat.pow_le_pow_right (by omega) (by omega)))
    have ih := hor_dg (a := a) h2 hb hL hfit n _ (by omega) hs3 k hk
    unfold hor
    rw [ih, pc_cut]
    by_cases h : n ≤ k
    · rw [if_pos h, if_pos h, cmb_dg _ h2, if_pos (by omega)]
      have e3 : dg q (s * q) (k - n) = if n + 1 ≤ k then dg q s (k - (n + 1)) else 0 := by
        have := dg_mulpow (q := q) (x := s) (n := 1) (k := k - n) h2
        rw [Nat.pow_one] at this
        rw [this]
        by_cases h3 : n + 1 ≤ k
        · rw [if_pos (by omega), if_pos h3]
          congr 1
        · rw [if_neg (by omega), if_neg h3]
      rw [e3, Nat.mod_add_mod]
      congr 1
      omega
    · rw [if_neg h, if_neg h, if_neg (by omega), Nat.add_zero]
theorem pc_full {q : Nat} (h2 : 2 ≤ q) {a n : Nat} (ha : a < q ^ n) (g : Nat → Nat) (k : Nat) : pc (cut (dg q a) n) g k = pc (dg q a) g k := by
  unfold pc
  refine sg_ext (fun i hi => ?_)
  show (if i < n then dg q a i else 0) * _ = _
  by_cases h : i < n
  · rw [if_pos h]
  · rw [if_neg h, dg_big ha (by omega) h2]
/-- the figures of a product that fits -/
theorem prd_dg {q a b : Nat} (h2 : 2 ≤ q) (ha : a < q ^ 13) (hb : b < q ^ 13) (hf : ln q 13 a + ln q 13 b ≤ 14) {k : Nat} (hk : k < 13) : dg q (prd q a b) k = pc (dg q a) (dg q b) k % q := by
  unfold prd
  have hla := ln_le q 13 a
  have h := hor_dg (a := a) (L := max 1 (ln q 13 b)) (la := ln q 13 a) h2 (Nat.lt_of_lt_of_le (ln_lt hb) (Nat.pow_le_pow_right (by omega) (by omega))) (by omega) (by omega) (ln q 13 a) 0 (Nat.le_refl _) (Nat.pow_pos (by omega)) k hk
  rw [h, dg_zero, pc_full h2 (ln_lt ha)]
  split <;> rw [Nat.zero_add]
theorem prd_lt13 {q a b : Nat} (h2 : 2 ≤ q) (ha : a < q ^ 13) (hb : b < q ^ 13) (hf : ln q 13 a + ln q 13 b ≤ 14) : prd q a b < q ^ 13 := by
  have hla := ln_le q 13 a
  have h := prd_lt (x := ln q 13 a) (L := max 1 (ln q 13 b)) h2 (ln_lt ha) (Nat.lt_of_lt_of_le (ln_lt hb) (Nat.pow_le_pow_right (by omega) (by omega))) (by omega) (by omega)
  exact Nat.lt_of_lt_of_le h (Nat.pow_le_pow_right (by omega) (by omega))
theorem prd_comm {q a b : Nat} (h2 : 2 ≤ q) (ha : a < q ^ 13) (hb : b < q ^ 13) (hf : ln q 13 a + ln q 13 b ≤ 14) : prd q a b = prd q b a := by
  refine dg_ext h2 (prd_lt13 h2 ha hb hf) (prd_lt13 h2 hb ha (by omega)) (fun k hk => ?_)
  rw [prd_dg h2 ha hb hf hk, prd_dg h2 hb ha (by omega) hk, pc_comm]
theorem prd_0l {q b : Nat} (h2 : 2 ≤ q) : prd q 0 b = 0 := by
  unfold prd
  rw [ln_zero h2]
  rfl
theorem prd_0r {q a : Nat} (h2 : 2 ≤ q) (ha : a < q ^ 13) : prd q a 0 = 0 := by
  have hl := ln_le q 13 a
  have h0 : 0 < q ^ 13 := Nat.pow_pos (by omega)
  rw [prd_comm h2 ha h0 (by rw [ln_zero h2]; omega), prd_0l h2]
section MP2
variable {G : GC} {e q : Nat} {mi : Nat → Nat → Int32} {ml : Nat → Nat → Int64} {K : Int32 → (Nat → Nat → Int32) → (Nat → Nat → Int64) → Prop}
theorem m_times_loop (h : Mq q mi) {x y : Nat} (hx : x < q ^ 13) (hy : y < q ^ 13) (hf : ln q 13 x + ln q 13 y ≤ 14) (hx0 : 0 < x) (hK : K (nI (prd q x y)) mi ml) :
    ∀ (r k v : Nat), r + k = ln q 13 y → v < q ^ 13 → (∀ j, j < 13 → dg q v j = pc (cut (dg q y) k) (dg q x) j % q) → wp G e tM m_X10_times 36 [(0, .ref 154), (1, .int (nI x)), (3, .int (nI v)), (4, .int (nI (y / q ^ k))), (5, .int (nI k))] [] (mi, ml, RX RM) (QI K) := by
  have h2 := h.two
  have h31 := pow_lt31 (M := 13) h.1 (Nat.le_refl _)
  have hl1 := ln_pos hx hx0
  have hly := ln_le q 13 y
  intro r
  induction r with
  | zero =>
    intro k v hr hv hd
    have hk : k = ln q 13 y := by omega
    have e0 : y / q ^ k = 0 := Nat.div_eq_of_lt (by rw [hk]; exact ln_lt hy)
    rw [e0]
    have ev : v = prd q x y := by
      rw [prd_comm h2.1 hx hy hf]
      refine dg_ext h2.1 hv (prd_lt13 h2.1 hy hx (by omega)) (fun j hj => ?_)
      rw [hd j hj, prd_dg h2.1 hy hx (by omega) hj, hk, pc_full h2.1 (ln_lt hy)]
    rw [ev]
    apply b_X10_times_36
    simp (disch := omega) only [s_le, s_lt, s_eq, s_eq0, s_in, s_ix, s_rm, s_div, s_pdlt, s_pdle, s_lepd, s_pdpd, s_pdlepd, s_pdadd, nI_add, pk_mul, pd_succ, Nat.not_lt_zero, Nat.zero_lt_succ, not_false_eq_true, not_true_eq_false, false_implies, true_implies, implies_true, and_true, true_and, Nat.reduceLT, Nat.reduceLeDiff, Nat.reduceAdd, Nat.reduceSub, Nat.zero_add, Nat.add_zero, h.2]
    exact hK
  | succ r ih =>
    intro k v hr hv hd
    have hlt : y / q ^ k < 2 ^ 31 := Nat.lt_of_le_of_lt (Nat.div_le_self _ _) (by omega)
    have hpos : 0 < y / q ^ k := by
      obtain ⟨j, hj⟩ : ∃ j, ln q 13 y = j + 1 := ⟨ln q 13 y - 1, by omega⟩
      exact Nat.div_pos (Nat.le_trans (Nat.pow_le_pow_right (by omega) (show k ≤ j by omega)) (ln_ge hj)) (Nat.pow_pos (by omega))
    have hdk : y / q ^ k % q = dg q y k := rfl
    have hdq := dg_lt (n := y) (k := k) h2.1
    have hsh : x * q ^ k < q ^ 13 := by
      have e1 : x * q ^ k < q ^ ln q 13 x * q ^ k := Nat.mul_lt_mul_of_pos_right (ln_lt hx) (Nat.pow_pos (by omega))
      rw [← Nat.pow_add] at e1
      exact Nat.lt_of_lt_of_le e1 (Nat.pow_le_pow_right (by omega) (by omega))
    have hnext : ∀ v1, v1 < q ^ 13 → (∀ j, j < 13 → dg q v1 j = (dg q v j + dg q y k * dg q (x * q ^ k) j) % q) → wp G e tM m_X10_times 36 [(0, .ref 154), (1, .int (nI x)), (3, .int (nI v1)), (4, .int (nI (y / q ^ k / q))), (5, .int (nI (k + 1)))] [] (mi, ml, RX RM) (QI K) := by
      intro v1 hv1 hd1
      have := ih (k + 1) v1 (by omega) hv1 (fun j hj => by
        rw [hd1 j hj, hd j hj, pc_cut, dg_mulpow h2.1, Nat.mod_add_mod]
        by_cases z : k ≤ j
        · rw [if_pos z, if_pos z]
        · rw [if_neg z, if_neg z, Nat.mul_zero])
      rw [Nat.pow_succ, ← Nat.div_div_eq_div_mul] at this
      exact this
    apply b_X10_times_36
    simp (disch := omega) only [s_le, s_lt, s_eq, s_eq0, s_in, s_ix, s_rm, s_div, s_pdlt, s_pdle, s_lepd, s_pdpd, s_pdlepd, s_pdadd, nI_add, pk_mul, pd_succ, Nat.not_lt_zero, Nat.zero_lt_succ, not_false_eq_true, not_true_eq_false, false_implies, true_implies, implies_true, and_true, true_and, Nat.reduceLT, Nat.reduceLeDiff, Nat.reduceAdd, Nat.reduceSub, Nat.zero_add, Nat.add_zero, h.2]
    rw [hdk]
    refine ⟨fun z => absurd z (by omega), fun _ => ⟨by omega, fun z => ⟨by omega, ?_⟩, fun z => m_shifted h (by omega) ?_⟩⟩
    · refine hnext v hv (fun j hj => ?_)
      rw [show dg q y k = 0 by omega, Nat.zero_mul, Nat.add_zero, Nat.mod_eq_of_lt (dg_lt h2.1)]
    · simp (disch := omega) only [s_le, s_lt, s_eq, s_eq0, s_in, s_ix, s_rm, s_div, s_pdlt, s_pdle, s_lepd, s_pdpd, s_pdlepd, s_pdadd, nI_add, pk_mul, pd_succ, Nat.not_lt_zero, Nat.zero_lt_succ, not_false_eq_true, not_true_eq_false, false_implies, true_implies, implies_true, and_true, true_and, Nat.reduceLT, Nat.reduceLeDiff, Nat.reduceAdd, Nat.reduceSub, Nat.zero_add, Nat.add_zero, h.2]
      rw [hdk]
      refine ⟨by omega, m_sumOf h hv hsh (by omega) ?_⟩
      simp (disch := omega) only [s_le, s_lt, s_eq, s_eq0, s_in, s_ix, s_rm, s_div, s_pdlt, s_pdle, s_lepd, s_pdpd, s_pdlepd, s_pdadd, nI_add, pk_mul, pd_succ, Nat.not_lt_zero, Nat.zero_lt_succ, not_false_eq_true, not_true_eq_false, false_implies, true_implies, implies_true, and_true, true_and, Nat.reduceLT, Nat.reduceLeDiff, Nat.reduceAdd, Nat.reduceSub, Nat.zero_add, Nat.add_zero, h.2]
      refine ⟨by omega, hnext _ (cmb_lt _ h2.1 13 _ _) (fun j hj => ?_)⟩
      rw [cmb_dg _ h2.1, if_pos hj]
/-- what times gives -/
def tms (q x y : Nat) : Option Nat := if x = 0 ∨ y = 0 then some 0 else if ln q 13 x + ln q 13 y ≤ 14 then some (prd q x y) else none
theorem m_times (h : Mq q mi) {x y : Nat} (hx : x < q ^ 13) (hy : y < q ^ 13) (hK : K (oI (tms q x y)) mi ml) : wpI G e 168 m_X10_times [.ref 154, .int (nI x), .int (nI y)] (mi, ml, RX RM) K := by
  have h2 := h.two
  have h31 := pow_lt31 (M := 13) h.1 (Nat.le_refl _)
  have hlx := ln_le q 13 x
  have hly := ln_le q 13 y
  unfold tms at hK
  apply e_X10_times
  simp (disch := omega) only [s_le, s_lt, s_eq, s_eq0, s_in, s_ix, s_rm, s_div, s_pdlt, s_pdle, s_lepd, s_pdpd, s_pdlepd, s_pdadd, nI_add, pk_mul, pd_succ, Nat.not_lt_zero, Nat.zero_lt_succ, not_false_eq_true, not_true_eq_false, false_implies, true_implies, implies_true, and_true, true_and, Nat.reduceLT, Nat.reduceLeDiff, Nat.reduceAdd, Nat.reduceSub, Nat.zero_add, Nat.add_zero]
  refine ⟨fun z => ?_, fun z => ⟨fun z2 => m_degree h hx (m_degree h hy ?_), fun z2 => ?_⟩⟩
  · rw [if_pos (Or.inl z)] at hK
    exact hK
  · rw [if_neg (by omega)] at hK
    have l1 := ln_pos hx (by omega)
    have l2 := ln_pos hy (by omega)
    simp (disch := omega) only [s_le, s_lt, s_eq, s_eq0, s_in, s_ix, s_rm, s_div, s_pdlt, s_pdle, s_lepd, s_pdpd, s_pdlepd, s_pdadd, nI_add, pk_mul, pd_succ, Nat.not_lt_zero, Nat.zero_lt_succ, not_false_eq_true, not_true_eq_false, false_implies, true_implies, implies_true, and_true, true_and, Nat.reduceLT, Nat.reduceLeDiff, Nat.reduceAdd, Nat.reduceSub, Nat.zero_add, Nat.add_zero]
    refine ⟨fun z3 => ?_, fun z3 => ?_⟩
    · rw [if_pos (by omega)] at hK
      have := m_times_loop (G := G) (e := e) h hx hy (by omega) (by omega) hK (ln q 13 y) 0 0 rfl (Nat.pow_pos (by omega)) (fun j hj => by rw [dg_zero, pc_cut0, Nat.zero_mod])
      rw [Nat.pow_zero, Nat.div_one] at this
      exact this
    · rw [if_neg (by omega)] at hK
      exact hK
  · rw [if_pos (Or.inr z2)] at hK
    exact hK
end MP2
