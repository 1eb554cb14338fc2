/-! the reference: rows of its work -/
def Wr (n : Nat) (mi : Nat → Nat → Int32) (r : Nat) (f : Nat → Nat) : Prop := r < 50 ∧ (∀ k, k < 25 → mi 161 (25 * r + k) = nI (f k)) ∧ (∀ k, 25 ≤ k → f k = 0) ∧ ∀ k, f k < n
def offV (r : Nat) (mi mi1 : Nat → Nat → Int32) : Prop := (∀ o, o ≠ 161 → mi1 o = mi o) ∧ ∀ j, (j < 25 * r ∨ 25 * r + 25 ≤ j) → mi1 161 j = mi 161 j
theorem offV.refl (r : Nat) (mi : Nat → Nat → Int32) : offV r mi mi := ⟨fun _ _ => rfl, fun _ _ => rfl⟩
theorem offV.trans {r : Nat} {a b c : Nat → Nat → Int32} (h : offV r a b) (h1 : offV r b c) : offV r a c := ⟨fun o ho => by rw [h1.1 o ho, h.1 o ho], fun j hj => by rw [h1.2 j hj, h.2 j hj]⟩
theorem offV.put {r k : Nat} {a b : Nat → Nat → Int32} {v : Int32} (h : offV r a b) (hk : k < 25) : offV r a (u2 b 161 (25 * r + k) v) := ⟨fun o ho => by rw [u2_off ho, h.1 o ho], fun j hj => by rw [u2_ne (by omega), h.2 j hj]⟩
theorem Wr.offV {n r r2 : Nat} {mi mi1 : Nat → Nat → Int32} {f : Nat → Nat} (h : Wr n mi r f) (ho : offV r2 mi mi1) (hne : r ≠ r2) : Wr n mi1 r f := ⟨h.1, fun k hk => by rw [ho.2 _ (by omega)]; exact h.2.1 k hk, h.2.2⟩
theorem Wr.same {n r : Nat} {mi mi1 : Nat → Nat → Int32} {f : Nat → Nat} (h : Wr n mi r f) (ho : mi1 161 = mi 161) : Wr n mi1 r f := ⟨h.1, fun k hk => by rw [ho]; exact h.2.1 k hk, h.2.2⟩
/-- sums in the world's figures -/
def ss (q : Nat) (t : Nat → Nat) : Nat → Nat
  | 0 => 0
  | n + 1 => cmb q 1 13 (ss q t n) (t n)
theorem ss_dg {q : Nat} (h2 : 2 ≤ q) {t : Nat → Nat} {k : Nat} (hk : k < 13) : ∀ n, dg q (ss q t n) k = sg (fun i => dg q (t i) k) n % q
  | 0 => by
    show dg q 0 k = 0 % q
    rw [dg_zero, Nat.zero_mod]
  | n + 1 => by
    show dg q (cmb q 1 13 (ss q t n) (t n)) k = (sg (fun i => dg q (t i) k) n + dg q (t n) k) % q
    rw [cmb_dg _ h2, if_pos hk, ss_dg h2 hk n, Nat.one_mul, Nat.mod_add_mod]
theorem ss_lt13 {q : Nat} (h2 : 2 ≤ q) {t : Nat → Nat} : ∀ n, ss q t n < q ^ 13
  | 0 => Nat.pow_pos (by omega)
  | n + 1 => cmb_lt _ h2 13 _ _
theorem ss_rev {q : Nat} (h2 : 2 ≤ q) (t : Nat → Nat) (n : Nat) : ss q (fun i => t (n - 1 - i)) n = ss q t n := by
  refine dg_ext h2 (ss_lt13 h2 n) (ss_lt13 h2 n) (fun k hk => ?_)
  rw [ss_dg h2 hk, ss_dg h2 hk, ← sg_rev (fun i => dg q (t i) k) n]
theorem ss_ext {q : Nat} {t u : Nat → Nat} : ∀ {n : Nat}, (∀ i, i < n → t i = u i) → ss q t n = ss q u n
  | 0, _ => rfl
  | n + 1, h => by
    show cmb q 1 13 (ss q t n) (t n) = cmb q 1 13 (ss q u n) (u n)
    rw [ss_ext (fun i hi => h i (by omega)), h n (by omega)]
theorem ss_more {q : Nat} (h2 : 2 ≤ q) {t : Nat → Nat} {a : Nat} : ∀ b, (∀ i, a ≤ i → t i = 0) → ss q t (a + b) = ss q t a
  | 0, _ => rfl
  | b + 1, h => by
    show cmb q 1 13 (ss q t (a + b)) (t (a + b)) = _
    rw [h (a + b) (by omega), cmb_0r h2 (ss_lt13 h2 _), ss_more h2 b h]
theorem ss_two {q : Nat} (h2 : 2 ≤ q) {t : Nat → Nat} {a b : Nat} (ha : ∀ i, a ≤ i → t i = 0) (hb : ∀ i, b ≤ i → t i = 0) : ss q t a = ss q t b := by
  rw [← ss_more h2 b ha, ← ss_more h2 a hb, Nat.add_comm]
theorem tmi_ss {q m d : Nat} {f h : Nat → Nat} (N : Nat) : ∀ r j, tmi q m d f h N r j (ss q (fun j => mu q m (f (N - j)) (tu q m d (h j) (N - j))) j) = ss q (fun j => mu q m (f (N - j)) (tu q m d (h j) (N - j))) (j + r)
  | 0, j => rfl
  | r + 1, j => by
    show tmi q m d f h N r (j + 1) (ss q _ (j + 1)) = _
    rw [tmi_ss N r (j + 1)]
    congr 1
    omega
/-- the terms of the k-th of f times h -/
def ct (q m d : Nat) (f h : Nat → Nat) (k i : Nat) : Nat := if i ≤ k then mu q m (f i) (tu q m d (h (k - i)) i) else 0
theorem cv_ss {q m d : Nat} (h2 : 2 ≤ q) {f h : Nat → Nat} (k : Nat) : cv q m d f h k = ss q (ct q m d f h k) (k + 1) := by
  have e := tmi_ss (q := q) (m := m) (d := d) (f := f) (h := h) k (k + 1) 0
  rw [Nat.zero_add] at e
  have e2 : cv q m d f h k = ss q (fun j => mu q m (f (k - j)) (tu q m d (h j) (k - j))) (k + 1) := e
  rw [e2, ← ss_rev h2]
  refine ss_ext (fun i hi => ?_)
  show mu q m (f (k - (k + 1 - 1 - i))) _ = _
  unfold ct
  rw [if_pos (by omega), show k - (k + 1 - 1 - i) = i by omega, show k + 1 - 1 - i = k - i by omega]
theorem cv_top2 {q m d n : Nat} (w : Wd q m d n) {f h : Nat → Nat} {k a : Nat} (ha : ∀ i, a ≤ i → f i = 0) : cv q m d f h k = ss q (ct q m d f h k) a := by
  have h2 := w.q2
  rw [cv_ss h2]
  refine ss_two h2 (fun i hi => ?_) (fun i hi => ?_)
  · unfold ct
    rw [if_neg (by omega)]
  · unfold ct
    split
    · rw [ha i hi, mu_0l h2]
    · rfl
section MRW
variable {G : GC} {e q m d n : Nat} {ml : Nat → Nat → Int64}
theorem Mw.offV {r : Nat} {mi mi1 : Nat → Nat → Int32} (h : Mw q m d n mi) (ho : offV r mi mi1) : Mw q m d n mi1 := h.off (by rw [ho.1 155 (by omega)]; exact ⟨rfl, rfl⟩) (by rw [ho.1 154 (by omega)]; exact ⟨rfl, rfl⟩) (ho.1 158 (by omega)) (ho.1 159 (by omega)) (ho.1 160 (by omega))
theorem m_clear {r : Nat} (hr : r < 50) {mi0 : Nat → Nat → Int32} (hn : 0 < n) {K : (Nat → Nat → Int32) → (Nat → Nat → Int64) → Prop} (hK : ∀ mi1, offV r mi0 mi1 → Wr n mi1 r (fun _ => 0) → K mi1 ml) : wpV G e 168 m_X10_clear [.ref 154, .int (nI r)] (mi0, ml, RX RM) K := by
  have loop : ∀ (k i : Nat) (mi : Nat → Nat → Int32), k + i = 25 → offV r mi0 mi → (∀ j, j < i → mi 161 (25 * r + j) = nI 0) → wp G e tM m_X10_clear 2 [(0, .ref 154), (1, .int (nI r)), (2, .int (nI i))] [] (mi, ml, RX RM) (QV K) := by
    intro k
    induction k with
    | zero =>
      intro i mi hi ho hz
      have : i = 25 := by omega
      subst this
      apply b_X10_clear_2
      simp (disch := omega) only [s_le, s_lt, s_eq, s_eq0, s_in, s_ix, s_rm, s_div, s_pdlt, s_pdle, s_lepd, s_pdpd, s_pdlepd, s_pdadd, nI_add, pk_mul, pd_succ, Nat.not_lt_zero, Nat.zero_lt_succ, not_false_eq_true, not_true_eq_false, false_implies, true_implies, implies_true, and_true, true_and, Nat.reduceLT, Nat.reduceLeDiff, Nat.reduceAdd, Nat.reduceSub, Nat.zero_add, Nat.add_zero, Nat.le_refl]
      exact hK mi ho ⟨hr, hz, fun _ _ => rfl, fun _ => hn⟩
    | succ k ih =>
      intro i mi hi ho hz
      have := ih (i + 1) (u2 mi 161 (25 * r + i) (nI 0)) (by omega) (ho.put (by omega)) (fun j hj => by
        by_cases c : j = i
        · rw [c, u2_at]
        · rw [u2_ne (by omega)]
          exact hz j (by omega))
      apply b_X10_clear_2
      simp (disch := omega) only [s_le, s_lt, s_eq, s_eq0, s_in, s_ix, s_rm, s_div, s_pdlt, s_pdle, s_lepd, s_pdpd, s_pdlepd, s_pdadd, nI_add, pk_mul, pd_succ, Nat.not_lt_zero, Nat.zero_lt_succ, not_false_eq_true, not_true_eq_false, false_implies, true_implies, implies_true, and_true, true_and, Nat.reduceLT, Nat.reduceLeDiff, Nat.reduceAdd, Nat.reduceSub, Nat.zero_add, Nat.add_zero]
      exact ⟨fun c => absurd c (by omega), fun _ => ⟨by omega, this⟩⟩
  apply e_X10_clear
  exact loop 25 0 mi0 rfl (offV.refl r mi0) (fun j hj => absurd hj (by omega))
theorem m_lay {r c : Nat} (hc : c < 50) (hrc : r ≠ c) {f : Nat → Nat} {mi0 : Nat → Nat → Int32} (hf : Wr n mi0 r f) {K : (Nat → Nat → Int32) → (Nat → Nat → Int64) → Prop} (hK : ∀ mi1, offV c mi0 mi1 → Wr n mi1 c f → K mi1 ml) : wpV G e 168 m_X10_lay [.ref 154, .int (nI r), .int (nI c)] (mi0, ml, RX RM) K := by
  have hr := hf.1
  have loop : ∀ (k i : Nat) (mi : Nat → Nat → Int32), k + i = 25 → offV c mi0 mi → (∀ j, j < i → mi 161 (25 * c + j) = nI (f j)) → wp G e tM m_X10_lay 2 [(0, .ref 154), (1, .int (nI r)), (2, .int (nI c)), (3, .int (nI i))] [] (mi, ml, RX RM) (QV K) := by
    intro k
    induction k with
    | zero =>
      intro i mi hi ho hz
      have : i = 25 := by omega
      subst this
      apply b_X10_lay_2
      simp (disch := omega) only [s_le, s_lt, s_eq, s_eq0, s_in, s_ix, s_rm, s_div, s_pdlt, s_pdle, s_lepd, s_pdpd, s_pdlepd, s_pdadd, nI_add, pk_mul, pd_succ, Nat.not_lt_zero, Nat.zero_lt_succ, not_false_eq_true, not_true_eq_false, false_implies, true_implies, implies_true, and_true, true_and, Nat.reduceLT, Nat.reduceLeDiff, Nat.reduceAdd, Nat.reduceSub, Nat.zero_add, Nat.add_zero, Nat.le_refl]
      exact hK mi ho ⟨hc, hz, hf.2.2⟩
    | succ k ih =>
      intro i mi hi ho hz
      have := ih (i + 1) (u2 mi 161 (25 * c + i) (nI (f i))) (by omega) (ho.put (by omega)) (fun j hj => by
        by_cases c : j = i
        · rw [c, u2_at]
        · rw [u2_ne (by omega)]
          exact hz j (by omega))
      apply b_X10_lay_2
      simp (disch := omega) only [s_le, s_lt, s_eq, s_eq0, s_in, s_ix, s_rm, s_div, s_pdlt, s_pdle, s_lepd, s_pdpd, s_pdlepd, s_pdadd, nI_add, pk_mul, pd_succ, Nat.not_lt_zero, Nat.zero_lt_succ, not_false_eq_true, not_true_eq_false, false_implies, true_implies, implies_true, and_true, true_and, Nat.reduceLT, Nat.reduceLeDiff, Nat.reduceAdd, Nat.reduceSub, Nat.zero_add, Nat.add_zero, (hf.offV ho hrc).2.1 i (by omega)]
      exact ⟨fun c => absurd c (by omega), fun _ => ⟨by omega, by omega, this⟩⟩
  apply e_X10_lay
  exact loop 25 0 mi0 rfl (offV.refl c mi0) (fun j hj => absurd hj (by omega))
theorem m_degreeAt {r : Nat} {f : Nat → Nat} {mi : Nat → Nat → Int32} (hn : n ≤ 128) (hf : Wr n mi r f) {K : Int32 → (Nat → Nat → Int32) → (Nat → Nat → Int64) → Prop} (hK : K (pd (rl f 25)) mi ml) : wpI G e 168 m_X10_degreeAt [.ref 154, .int (nI r)] (mi, ml, RX RM) K := by
  have hr := hf.1
  have loop : ∀ k, k ≤ 25 → K (pd (rl f k)) mi ml → wp G e tM m_X10_degreeAt 3 [(0, .ref 154), (1, .int (nI r)), (2, .int (pd k))] [] (mi, ml, RX RM) (QI K) := by
    intro k
    induction k with
    | zero =>
      intro _ hK
      apply b_X10_degreeAt_3
      exact ⟨fun _ => hK, fun c => absurd (by decide) c⟩
    | succ k ih =>
      intro hk hK
      have h1 := hf.2.2.2 k
      have h5 := hf.2.1 k (by omega)
      unfold rl at hK
      apply b_X10_degreeAt_3
      simp (disch := omega) only [s_le, s_lt, s_eq, s_eq0, s_in, s_ix, s_rm, s_div, s_pdlt, s_pdle, s_lepd, s_pdpd, s_pdlepd, s_pdadd, nI_add, pk_mul, pd_succ, Nat.not_lt_zero, Nat.zero_lt_succ, not_false_eq_true, not_true_eq_false, false_implies, true_implies, implies_true, and_true, true_and, Nat.reduceLT, Nat.reduceLeDiff, Nat.reduceAdd, Nat.reduceSub, Nat.zero_add, Nat.add_zero, h5, pd_dec]
      refine ⟨by omega, fun c => ?_, fun c => ?_⟩
      · rw [if_neg c, pd_succ] at hK
        exact hK
      · rw [if_pos c] at hK
        exact ih (by omega) hK
  apply e_X10_degreeAt
  exact loop 25 (Nat.le_refl _) hK
theorem m_sent {r x : Nat} {f : Nat → Nat} {mi : Nat → Nat → Int32} (h : Mw q m d n mi) (hf : Wr n mi r f) (hx : x < n) {K : Int32 → (Nat → Nat → Int32) → (Nat → Nat → Int64) → Prop} (hK : K (nI (vl q m d f x)) mi ml) : wpI G e 168 m_X10_sent [.ref 154, .int (nI r), .int (nI x)] (mi, ml, RX RM) K := by
  have hr := hf.1
  have w := h.1.1
  have h2 := w.q2
  have hn2 := h.two
  have hq2 := h.2.1.1.two
  have loop : ∀ (k i : Nat), k + i = 25 → wp G e tM m_X10_sent 5 [(0, .ref 154), (1, .int (nI r)), (2, .int (nI x)), (3, .int (nI (vls q m d f x i))), (4, .int (nI i))] [] (mi, ml, RX RM) (QI K) := by
    intro k
    induction k with
    | zero =>
      intro i hi
      have : i = 25 := by omega
      subst this
      apply b_X10_sent_5
      simp (disch := omega) only [s_le, s_lt, s_eq, s_eq0, s_in, s_ix, s_rm, s_div, s_pdlt, s_pdle, s_lepd, s_pdpd, s_pdlepd, s_pdadd, nI_add, pk_mul, pd_succ, Nat.not_lt_zero, Nat.zero_lt_succ, not_false_eq_true, not_true_eq_false, false_implies, true_implies, implies_true, and_true, true_and, Nat.reduceLT, Nat.reduceLeDiff, Nat.reduceAdd, Nat.reduceSub, Nat.zero_add, Nat.add_zero, Nat.le_refl]
      exact hK
    | succ k ih =>
      intro i hi
      have h1 := hf.2.2.2 i
      have h5 := hf.2.1 i (by omega)
      have hs := vls_lt w (f := f) hx i
      have := ih (i + 1) (by omega)
      apply b_X10_sent_5
      simp (disch := omega) only [s_le, s_lt, s_eq, s_eq0, s_in, s_ix, s_rm, s_div, s_pdlt, s_pdle, s_lepd, s_pdpd, s_pdlepd, s_pdadd, nI_add, pk_mul, pd_succ, Nat.not_lt_zero, Nat.zero_lt_succ, not_false_eq_true, not_true_eq_false, false_implies, true_implies, implies_true, and_true, true_and, Nat.reduceLT, Nat.reduceLeDiff, Nat.reduceAdd, Nat.reduceSub, Nat.zero_add, Nat.add_zero, h5]
      refine ⟨fun c => absurd c (by omega), fun _ => ⟨by omega, fun c => ?_, fun c => ⟨by omega, m_raise h hx (by omega) (m_mul h h1 (tu_lt w hx) (m_sumOf h.2.1.1 (w.lt13 hs) (w.lt13 (mu_lt w (tu_lt w hx))) (by omega) ?_))⟩⟩⟩
      · have e0 : f i = 0 := by omega
        have : vls q m d f x (i + 1) = vls q m d f x i := by
          show cmb q 1 13 (vls q m d f x i) (mu q m (f i) (tu q m d x i)) = _
          rw [e0, mu_0l h2, cmb_0r h2 (w.lt13 hs)]
        rw [← this]
        exact ih (i + 1) (by omega)
      · exact this
  apply e_X10_sent
  exact loop 25 0 rfl
end MRW
