/-! class Turned: rows -/
/-- a row of ints -/
def Row (mi : Nat → Nat → Int32) (c : Nat) (f : Nat → Nat) : Prop := ∀ k, k < an c → mi c k = nI (f k) ∧ f k < 2 ^ 31
/-- c is a row of ints of the class's world -/
def isR (c : Nat) : Prop := (ak c = 11 ∧ c < 154) ∧ an c < 2 ^ 31
/-- how long the row is, noughts at the end left off -/
def rl (f : Nat → Nat) : Nat → Nat
  | 0 => 0
  | n + 1 => if f n = 0 then rl f n else n + 1
theorem rl_le (f : Nat → Nat) : ∀ n, rl f n ≤ n
  | 0 => Nat.le_refl 0
  | n + 1 => by
    unfold rl
    have := rl_le f n
    split <;> omega
theorem rl_top {f : Nat → Nat} : ∀ {n k : Nat}, rl f n = k + 1 → f k ≠ 0
  | 0, k, h => by cases h
  | n + 1, k, h => by
    unfold rl at h
    split at h
    · exact rl_top h
    · next c =>
      have : k = n := by omega
      rw [this]
      exact c
theorem rl_above {f : Nat → Nat} : ∀ {n k : Nat}, rl f n ≤ k → k < n → f k = 0
  | 0, k, _, h => by omega
  | n + 1, k, h1, h2 => by
    unfold rl at h1
    split at h1
    · next c =>
      by_cases e : k = n
      · rw [e]; exact c
      · exact rl_above h1 (by omega)
    · omega
theorem pd_sub {n : Nat} : nI n - nI 1 = pd n := by
  show _ = nI n + (-(nI 1))
  rw [Int32.sub_eq_add_neg]
theorem pd_dec {n : Nat} : nI n + (-(nI 1)) = pd n := rfl
section TUR
variable {G : GC} {e q : Nat} {mi : Nat → Nat → Int32} {ml : Nat → Nat → Int64} {y : Nat → Nat → Option Nat}
theorem p_degreeOf_loop {c : Nat} (hc : isR c) {f : Nat → Nat} (hf : Row mi c f) {K : Int32 → (Nat → Nat → Int32) → (Nat → Nat → Int64) → Prop} : ∀ n, n ≤ an c → K (pd (rl f n)) mi ml →
    wp G e tX m_X8_degreeOf 5 [(0, .ref c), (1, .int (pd n))] [] (mi, ml, RX y) (QI K) := by
  have hN := hc.2
  intro n
  induction n with
  | zero =>
    intro hn hK
    apply b_X8_degreeOf_5
    simp (disch := omega) only [s_le, s_lt, s_eq, s_eq0, s_in, s_ix, s_rm, s_div, s_pdlt, s_pdle, s_lepd, s_pdpd, s_pdlepd, s_pdadd, nI_add, pk_mul, pd_succ, Nat.not_lt_zero, Nat.zero_lt_succ, not_false_eq_true, not_true_eq_false, false_implies, true_implies, implies_true, and_true, true_and, Nat.reduceLT, Nat.reduceLeDiff, Nat.reduceAdd, Nat.reduceSub, Nat.zero_add, Nat.add_zero]
    exact hK
  | succ n ih =>
    intro hn hK
    have hk := hf n (by omega)
    have hk2 := hk.2
    apply b_X8_degreeOf_5
    unfold rl at hK
    simp (disch := omega) only [s_le, s_lt, s_eq, s_eq0, s_in, s_ix, s_rm, s_div, s_pdlt, s_pdle, s_lepd, s_pdpd, s_pdlepd, s_pdadd, nI_add, pk_mul, pd_succ, Nat.not_lt_zero, Nat.zero_lt_succ, not_false_eq_true, not_true_eq_false, false_implies, true_implies, implies_true, and_true, true_and, Nat.reduceLT, Nat.reduceLeDiff, Nat.reduceAdd, Nat.reduceSub, Nat.zero_add, Nat.add_zero, hk.1]
    refine ⟨hc.1, by omega, fun c1 => ?_, fun c1 => ?_⟩
    · rw [if_neg c1, pd_succ] at hK
      exact hK
    · rw [if_pos c1] at hK
      exact ih (by omega) hK
theorem p_degreeOf {c : Nat} (hc : isR c) {f : Nat → Nat} (hf : Row mi c f) {K : Int32 → (Nat → Nat → Int32) → (Nat → Nat → Int64) → Prop} (hK : K (pd (rl f (an c))) mi ml) : wpI G e 154 m_X8_degreeOf [.ref c] (mi, ml, RX y) K := by
  apply e_X8_degreeOf
  refine ⟨hc.1, ?_⟩
  rw [pd_sub]
  exact p_degreeOf_loop hc hf _ (Nat.le_refl _) hK
theorem p_clear_loop {c : Nat} (hc : isR c) (mi0 : Nat → Nat → Int32) {K : (Nat → Nat → Int32) → (Nat → Nat → Int64) → Prop} (hK : ∀ mi1 : Nat → Nat → Int32, (∀ o, o ≠ c → mi1 o = mi0 o) → Row mi1 c (fun _ => 0) → K mi1 ml) :
    ∀ (n i : Nat) (mi : Nat → Nat → Int32), i + n = an c → (∀ o, o ≠ c → mi o = mi0 o) → (∀ k, k < i → mi c k = nI 0) → wp G e tX m_X8_clear 2 [(0, .ref c), (1, .int (nI i))] [] (mi, ml, RX y) (QV K) := by
  have hN := hc.2
  intro n
  induction n with
  | zero =>
    intro i mi hi ho hz
    apply b_X8_clear_2
    simp (disch := omega) only [s_le, s_lt, s_eq, s_eq0, s_in, s_ix, s_rm, s_div, s_pdlt, s_pdle, s_lepd, s_pdpd, s_pdlepd, s_pdadd, nI_add, pk_mul, pd_succ, Nat.not_lt_zero, Nat.zero_lt_succ, not_false_eq_true, not_true_eq_false, false_implies, true_implies, implies_true, and_true, true_and, Nat.reduceLT, Nat.reduceLeDiff, Nat.reduceAdd, Nat.reduceSub, Nat.zero_add, Nat.add_zero]
    exact ⟨hc.1, fun _ => hK mi ho (fun k hk => ⟨hz k (by omega), show 0 < 2 ^ 31 by decide⟩), fun c1 => absurd c1 (by omega)⟩
  | succ n ih =>
    intro i mi hi ho hz
    apply b_X8_clear_2
    simp (disch := omega) only [s_le, s_lt, s_eq, s_eq0, s_in, s_ix, s_rm, s_div, s_pdlt, s_pdle, s_lepd, s_pdpd, s_pdlepd, s_pdadd, nI_add, pk_mul, pd_succ, Nat.not_lt_zero, Nat.zero_lt_succ, not_false_eq_true, not_true_eq_false, false_implies, true_implies, implies_true, and_true, true_and, Nat.reduceLT, Nat.reduceLeDiff, Nat.reduceAdd, Nat.reduceSub, Nat.zero_add, Nat.add_zero]
    refine ⟨hc.1, fun c1 => absurd c1 (by omega), fun _ => ⟨hc.1, by omega, ?_⟩⟩
    refine ih (i + 1) _ (by omega) (fun o h => by rw [u2_off h]; exact ho o h) (fun k hk => ?_)
    rw [u2_on]
    show (if k = i then _ else _) = _
    by_cases c1 : k = i
    · rw [if_pos c1]
    · rw [if_neg c1]
      exact hz k (by omega)
theorem p_clear {c : Nat} (hc : isR c) {K : (Nat → Nat → Int32) → (Nat → Nat → Int64) → Prop} (hK : ∀ mi1 : Nat → Nat → Int32, (∀ o, o ≠ c → mi1 o = mi o) → Row mi1 c (fun _ => 0) → K mi1 ml) : wpV G e 154 m_X8_clear [.ref c] (mi, ml, RX y) K := by
  apply e_X8_clear
  exact p_clear_loop hc mi hK (an c) 0 mi (by omega) (fun _ _ => rfl) (fun k hk => absurd hk (by omega))
theorem p_copy_loop {a c : Nat} (ha : isR a) (hc : isR c) (hac : a ≠ c) {f : Nat → Nat} (mi0 : Nat → Nat → Int32) (hf : Row mi0 a f) {K : (Nat → Nat → Int32) → (Nat → Nat → Int64) → Prop} (hK : ∀ mi1 : Nat → Nat → Int32, (∀ o, o ≠ c → mi1 o = mi0 o) → Row mi1 c (fun k => if k < an a then f k else 0) → K mi1 ml) :
    ∀ (n i : Nat) (mi : Nat → Nat → Int32), i + n = an c → (∀ o, o ≠ c → mi o = mi0 o) → (∀ k, k < i → mi c k = nI (if k < an a then f k else 0)) → wp G e tX m_X8_copy 2 [(0, .ref a), (1, .ref c), (2, .int (nI i))] [] (mi, ml, RX y) (QV K) := by
  have hN := hc.2
  have hM := ha.2
  intro n
  induction n with
  | zero =>
    intro i mi hi ho hz
    apply b_X8_copy_2
    simp (disch := omega) only [s_le, s_lt, s_eq, s_eq0, s_in, s_ix, s_rm, s_div, s_pdlt, s_pdle, s_lepd, s_pdpd, s_pdlepd, s_pdadd, nI_add, pk_mul, pd_succ, Nat.not_lt_zero, Nat.zero_lt_succ, not_false_eq_true, not_true_eq_false, false_implies, true_implies, implies_true, and_true, true_and, Nat.reduceLT, Nat.reduceLeDiff, Nat.reduceAdd, Nat.reduceSub, Nat.zero_add, Nat.add_zero]
    refine ⟨hc.1, fun _ => hK mi ho (fun k hk => ⟨hz k (by omega), ?_⟩), fun c1 => absurd c1 (by omega)⟩
    show (if k < an a then f k else 0) < _
    split
    · next c1 => exact (hf k c1).2
    · decide
  | succ n ih =>
    intro i mi hi ho hz
    have step : ∀ v, v = nI (if i < an a then f i else 0) → wp G e tX m_X8_copy 2 [(0, .ref a), (1, .ref c), (2, .int (nI (i + 1)))] [] (u2 mi c i v, ml, RX y) (QV K) := by
      intro v hv
      refine ih (i + 1) _ (by omega) (fun o h => by rw [u2_off h]; exact ho o h) (fun k hk => ?_)
      rw [u2_on]
      show (if k = i then _ else _) = _
      by_cases c1 : k = i
      · rw [if_pos c1, hv, c1]
      · rw [if_neg c1]
        exact hz k (by omega)
    apply b_X8_copy_2
    simp (disch := omega) only [s_le, s_lt, s_eq, s_eq0, s_in, s_ix, s_rm, s_div, s_pdlt, s_pdle, s_lepd, s_pdpd, s_pdlepd, s_pdadd, nI_add, pk_mul, pd_succ, Nat.not_lt_zero, Nat.zero_lt_succ, not_false_eq_true, not_true_eq_false, false_implies, true_implies, implies_true, and_true, true_and, Nat.reduceLT, Nat.reduceLeDiff, Nat.reduceAdd, Nat.reduceSub, Nat.zero_add, Nat.add_zero]
    refine ⟨hc.1, fun c1 => absurd c1 (by omega), fun _ => ⟨ha.1, fun c1 => ⟨hc.1, by omega, ?_⟩, fun c1 => ⟨ha.1, by omega, hc.1, by omega, ?_⟩⟩⟩
    · exact step _ (by rw [if_neg (by omega)])
    · exact step _ (by rw [if_pos (by omega), ho a hac]; exact (hf i (by omega)).1)
theorem p_copy {a c : Nat} (ha : isR a) (hc : isR c) (hac : a ≠ c) {f : Nat → Nat} (hf : Row mi a f) {K : (Nat → Nat → Int32) → (Nat → Nat → Int64) → Prop} (hK : ∀ mi1 : Nat → Nat → Int32, (∀ o, o ≠ c → mi1 o = mi o) → Row mi1 c (fun k => if k < an a then f k else 0) → K mi1 ml) : wpV G e 154 m_X8_copy [.ref a, .ref c] (mi, ml, RX y) K := by
  apply e_X8_copy
  exact p_copy_loop ha hc hac mi hf hK (an c) 0 mi (by omega) (fun _ _ => rfl) (fun k hk => absurd hk (by omega))
theorem p_tmix_loop {a b s : Nat} (ha : isR a) (hb : isR b) (hab : a ≠ b) (h12 : a ≠ 1 ∧ a ≠ 2) (hs : s < q) {f g : Nat → Nat} (mi0 : Nat → Nat → Int32) (h0 : Fg q mi0) (hf : Row mi0 a f) (hg : Row mi0 b g) (hfq : ∀ k, f k < q ^ 13) (hgq : ∀ k, g k < q ^ 13) {K : (Nat → Nat → Int32) → (Nat → Nat → Int64) → Prop}
    (hK : ∀ mi1 : Nat → Nat → Int32, (∀ o, o ≠ a → mi1 o = mi0 o) → Row mi1 a (fun k => if k < an b then cmb q s 13 (f k) (g k) else f k) → K mi1 ml) :
    ∀ (n i : Nat) (mi : Nat → Nat → Int32), i + n = an a → i ≤ an b → (∀ o, o ≠ a → mi o = mi0 o) → (∀ k, k < i → mi a k = nI (cmb q s 13 (f k) (g k))) → (∀ k, i ≤ k → mi a k = mi0 a k) → wp G e tX m_X8_mix 3 [(0, .ref 10), (1, .ref a), (2, .ref b), (3, .int (nI s)), (4, .int (nI i))] [] (mi, ml, RX y) (QV K) := by
  have hN := ha.2
  have hM := hb.2
  have h2 := h0.two
  have hp := h0.pow (Nat.le_refl 13)
  have fin : ∀ (i : Nat) (mi : Nat → Nat → Int32), (i = an a ∨ i = an b) → i ≤ an a → i ≤ an b → (∀ o, o ≠ a → mi o = mi0 o) → (∀ k, k < i → mi a k = nI (cmb q s 13 (f k) (g k))) → (∀ k, i ≤ k → mi a k = mi0 a k) → K mi ml := by
    intro i mi hi hia hib ho hz hz2
    refine hK mi ho (fun k hk => ⟨?_, ?_⟩)
    · show mi a k = nI (if k < an b then _ else _)
      by_cases c1 : k < i
      · rw [if_pos (by omega)]
        exact hz k c1
      · rw [if_neg (by omega), hz2 k (by omega)]
        exact (hf k hk).1
    · show (if k < an b then cmb q s 13 (f k) (g k) else f k) < _
      have := cmb_lt s h2.1 13 (f k) (g k)
      have := hfq k
      split <;> omega
  intro n
  induction n with
  | zero =>
    intro i mi hi hib ho hz hz2
    apply b_X8_mix_3
    simp (disch := omega) only [s_le, s_lt, s_eq, s_eq0, s_in, s_ix, s_rm, s_div, s_pdlt, s_pdle, s_lepd, s_pdpd, s_pdlepd, s_pdadd, nI_add, pk_mul, pd_succ, Nat.not_lt_zero, Nat.zero_lt_succ, not_false_eq_true, not_true_eq_false, false_implies, true_implies, implies_true, and_true, true_and, Nat.reduceLT, Nat.reduceLeDiff, Nat.reduceAdd, Nat.reduceSub, Nat.zero_add, Nat.add_zero]
    exact ⟨ha.1, fun _ => fin i mi (Or.inl (by omega)) (by omega) hib ho hz hz2, fun c1 => absurd c1 (by omega)⟩
  | succ n ih =>
    intro i mi hi hib ho hz hz2
    apply b_X8_mix_3
    simp (disch := omega) only [s_le, s_lt, s_eq, s_eq0, s_in, s_ix, s_rm, s_div, s_pdlt, s_pdle, s_lepd, s_pdpd, s_pdlepd, s_pdadd, nI_add, pk_mul, pd_succ, Nat.not_lt_zero, Nat.zero_lt_succ, not_false_eq_true, not_true_eq_false, false_implies, true_implies, implies_true, and_true, true_and, Nat.reduceLT, Nat.reduceLeDiff, Nat.reduceAdd, Nat.reduceSub, Nat.zero_add, Nat.add_zero]
    refine ⟨ha.1, fun c1 => absurd c1 (by omega), fun _ => ⟨hb.1, fun c1 => fin i mi (Or.inr (by omega)) (by omega) hib ho hz hz2, fun c1 => ⟨ha.1, by omega, hb.1, by omega, ?_⟩⟩⟩
    rw [hz2 i (Nat.le_refl _), ho b (fun z => hab z.symm), (hf i (by omega)).1, (hg i (by omega)).1]
    refine p_mix (h0.off (ho 1 (fun z => h12.1 z.symm)) (ho 2 (fun z => h12.2 z.symm))) (hfq i) (hgq i) hs ⟨ha.1, by omega, ?_⟩
    refine ih (i + 1) _ (by omega) (by omega) (fun o h => by rw [u2_off h]; exact ho o h) (fun k hk => ?_) (fun k hk => ?_)
    · rw [u2_on]
      show (if k = i then _ else _) = _
      by_cases c2 : k = i
      · rw [if_pos c2, c2]
      · rw [if_neg c2]
        exact hz k (by omega)
    · rw [u2_on]
      show (if k = i then _ else _) = _
      rw [if_neg (by omega)]
      exact hz2 k (by omega)
/-- c and s times b together -/
theorem p_tmix (h0 : Fg q mi) {a b s : Nat} (ha : isR a) (hb : isR b) (hab : a ≠ b) (h12 : a ≠ 1 ∧ a ≠ 2) (hs : s < q) {f g : Nat → Nat} (hf : Row mi a f) (hg : Row mi b g) (hfq : ∀ k, f k < q ^ 13) (hgq : ∀ k, g k < q ^ 13) {K : (Nat → Nat → Int32) → (Nat → Nat → Int64) → Prop}
    (hK : ∀ mi1 : Nat → Nat → Int32, (∀ o, o ≠ a → mi1 o = mi o) → Row mi1 a (fun k => if k < an b then cmb q s 13 (f k) (g k) else f k) → K mi1 ml) : wpV G e 154 m_X8_mix [.ref 10, .ref a, .ref b, .int (nI s)] (mi, ml, RX y) K := by
  apply e_X8_mix
  exact p_tmix_loop ha hb hab h12 hs mi h0 hf hg hfq hgq hK (an a) 0 mi (by omega) (Nat.zero_le _) (fun _ _ => rfl) (fun k hk => absurd hk (by omega)) (fun _ _ => rfl)
end TUR
