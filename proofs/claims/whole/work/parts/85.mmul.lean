/-! the reference: multiply -/
/-- the k-th coefficient when i terms of f are done and j of the next -/
def cs (q m d : Nat) (f h : Nat → Nat) (i j k : Nat) : Nat := if k < 25 then (if i ≤ k ∧ k - i < j then ss q (ct q m d f h k) (i + 1) else ss q (ct q m d f h k) i) else 0
theorem ss_ltn {q m d n : Nat} (w : Wd q m d n) {t : Nat → Nat} (ht : ∀ i, t i < n) : ∀ k, ss q t k < n
  | 0 => by have := w.n2; show 0 < n; omega
  | k + 1 => cmb_ltn w (ss_ltn w ht k) (ht k)
theorem ct_lt {q m d n : Nat} (w : Wd q m d n) {f h : Nat → Nat} (hh : ∀ k, h k < n) (k i : Nat) : ct q m d f h k i < n := by
  unfold ct
  split
  · exact mu_lt w (tu_lt w (hh _))
  · have := w.n2; omega
theorem cs_lt {q m d n : Nat} (w : Wd q m d n) {f h : Nat → Nat} (hh : ∀ k, h k < n) (i j k : Nat) : cs q m d f h i j k < n := by
  unfold cs
  split
  · split
    · exact ss_ltn w (ct_lt w hh k) _
    · exact ss_ltn w (ct_lt w hh k) _
  · have := w.n2; omega
theorem cs_next {q m d n : Nat} (w : Wd q m d n) {f h : Nat → Nat} {i L : Nat} (hL : ∀ k, L ≤ k → h k = 0) (k : Nat) : cs q m d f h i L k = cs q m d f h (i + 1) 0 k := by
  have h2 := w.q2
  unfold cs
  by_cases c : k < 25
  · rw [if_pos c, if_pos c, if_neg (show ¬ (i + 1 ≤ k ∧ k - (i + 1) < 0) by omega)]
    by_cases c2 : i ≤ k ∧ k - i < L
    · rw [if_pos c2]
    · rw [if_neg c2]
      show _ = cmb q 1 13 (ss q _ i) (ct q m d f h k i)
      have : ct q m d f h k i = 0 := by
        unfold ct
        split
        · rw [hL (k - i) (by omega), tu_0 h2, mu_0r h2]
        · rfl
      rw [this, cmb_0r h2 (ss_lt13 h2 _)]
  · rw [if_neg c, if_neg c]
theorem cs_skip {q m d n : Nat} (w : Wd q m d n) {f h : Nat → Nat} {i : Nat} (hf : f i = 0) (k : Nat) : cs q m d f h i 0 k = cs q m d f h (i + 1) 0 k := by
  have h2 := w.q2
  unfold cs
  rw [if_neg (show ¬ (i ≤ k ∧ k - i < 0) by omega), if_neg (show ¬ (i + 1 ≤ k ∧ k - (i + 1) < 0) by omega)]
  have : ct q m d f h k i = 0 := by
    unfold ct
    rw [hf, mu_0l h2]
    split <;> rfl
  show (if k < 25 then ss q (ct q m d f h k) i else 0) = if k < 25 then cmb q 1 13 (ss q (ct q m d f h k) i) (ct q m d f h k i) else 0
  rw [this, cmb_0r h2 (ss_lt13 h2 _)]
section MML
variable {G : GC} {e q m d n : Nat} {ml : Nat → Nat → Int64} {K : Int32 → (Nat → Nat → Int32) → (Nat → Nat → Int64) → Prop}
theorem pd_ltc {a b : Nat} (ha : a < 2 ^ 30) (hb : b < 2 ^ 30) : (pd a < nI b) = (a ≤ b) := by
  simp (disch := omega) only [s_le, s_lt, s_eq, s_eq0, s_in, s_ix, s_rm, s_div, s_pdlt, s_pdle, s_lepd, s_pdpd, s_pdlepd, s_pdadd, nI_add, pk_mul, pd_succ, Nat.not_lt_zero, Nat.zero_lt_succ, not_false_eq_true, not_true_eq_false, false_implies, true_implies, implies_true, and_true, true_and, Nat.reduceLT, Nat.reduceLeDiff, Nat.reduceAdd, Nat.reduceSub, Nat.zero_add, Nat.add_zero, Nat.lt_succ_iff]
theorem m_mul_in {a b c : Nat} {f h : Nat → Nat} (mi0 : Nat → Nat → Int32) (h0 : Mw q m d n mi0) (hf : Wr n mi0 a f) (hh : Wr n mi0 b h) (hac : a ≠ c) (hbc : b ≠ c) (hc : c < 50) {i : Nat} (hfit : i + rl h 25 ≤ 25)
    (hK : ∀ mi1, offV c mi0 mi1 → Wr n mi1 c (cs q m d f h (i + 1) 0) → wp G e tM m_X10_multiply 44 [(0, .ref 154), (1, .int (nI a)), (2, .int (nI b)), (3, .int (nI c)), (4, .int (nI (i + 1)))] [] (mi1, ml, RX RM) (QI K)) :
    ∀ (r j : Nat) (mi : Nat → Nat → Int32), r + j = rl h 25 → offV c mi0 mi → Wr n mi c (cs q m d f h i j) → wp G e tM m_X10_multiply 75 [(0, .ref 154), (1, .int (nI a)), (2, .int (nI b)), (3, .int (nI c)), (4, .int (nI i)), (5, .int (nI j))] [] (mi, ml, RX RM) (QI K) := by
  have w := h0.1.1
  have h2 := w.q2
  have hn2 := h0.two
  have hr25 := rl_le h 25
  have ha := hf.1
  have hb := hh.1
  intro r
  induction r with
  | zero =>
    intro j mi hj ho hc2
    have : j = rl h 25 := by omega
    subst this
    have hLz : ∀ k, rl h 25 ≤ k → h k = 0 := fun k hk => by
      by_cases c : k < 25
      · exact rl_above hk c
      · exact hh.2.2.1 k (by omega)
    apply b_X10_multiply_75
    refine m_degreeAt hn2.2 (hh.offV ho hbc) ?_
    rw [pd_ltc (by omega) (by omega)]
    simp (disch := omega) only [s_le, s_lt, s_eq, s_eq0, s_in, s_ix, s_rm, s_div, s_pdlt, s_pdle, s_lepd, s_pdpd, s_pdlepd, s_pdadd, nI_add, pk_mul, pd_succ, Nat.not_lt_zero, Nat.zero_lt_succ, not_false_eq_true, not_true_eq_false, false_implies, true_implies, implies_true, and_true, true_and, Nat.reduceLT, Nat.reduceLeDiff, Nat.reduceAdd, Nat.reduceSub, Nat.zero_add, Nat.add_zero]
    refine ⟨fun _ => hK mi ho ?_, fun c => absurd (Nat.le_refl _) c⟩
    have e : cs q m d f h i (rl h 25) = cs q m d f h (i + 1) 0 := funext (fun k => cs_next w hLz k)
    rw [← e]
    exact hc2
  | succ r ih =>
    intro j mi hj ho hc2
    have hM := h0.offV ho
    have hfm := hf.offV ho hac
    have hhm := hh.offV ho hbc
    have e1 := hfm.2.1 i (by omega)
    have e2 := hhm.2.1 j (by omega)
    have e3 := hc2.2.1 (i + j) (by omega)
    have hcl := cs_lt w (f := f) hh.2.2.2 i j (i + j)
    have htl := tu_lt w (i := i) (hh.2.2.2 j)
    have es : cmb q 1 13 (cs q m d f h i j (i + j)) (mu q m (f i) (tu q m d (h j) i)) = cs q m d f h i (j + 1) (i + j) := by
      unfold cs
      rw [if_pos (by omega), if_neg (by omega), if_pos (by omega), if_pos (by omega)]
      show _ = cmb q 1 13 (ss q _ i) (ct q m d f h (i + j) i)
      unfold ct
      rw [if_pos (by omega), show i + j - i = j by omega]
    have hnew : Wr n (u2 mi 161 (25 * c + (i + j)) (nI (cs q m d f h i (j + 1) (i + j)))) c (cs q m d f h i (j + 1)) := by
      refine ⟨hc, fun k hk => ?_, fun k hk => ?_, cs_lt w hh.2.2.2 _ _⟩
      · by_cases cc : k = i + j
        · rw [cc, u2_at]
        · rw [u2_ne (by omega), hc2.2.1 k hk]
          unfold cs
          rw [if_pos hk, if_pos hk]
          by_cases c4 : i ≤ k ∧ k - i < j
          · rw [if_pos c4, if_pos (by omega)]
          · rw [if_neg c4, if_neg (by omega)]
      · unfold cs
        rw [if_neg (by omega)]
    have next := ih (j + 1) (u2 mi 161 (25 * c + (i + j)) (nI (cs q m d f h i (j + 1) (i + j)))) (by omega) (ho.put (by omega)) hnew
    rw [← es, ← Nat.add_assoc] at next
    rw [← Nat.add_assoc] at e3
    apply b_X10_multiply_75
    refine m_degreeAt hn2.2 hhm ?_
    rw [pd_ltc (by omega) (by omega)]
    simp (disch := omega) only [s_le, s_lt, s_eq, s_eq0, s_in, s_ix, s_rm, s_div, s_pdlt, s_pdle, s_lepd, s_pdpd, s_pdlepd, s_pdadd, nI_add, pk_mul, pd_succ, Nat.not_lt_zero, Nat.zero_lt_succ, not_false_eq_true, not_true_eq_false, false_implies, true_implies, implies_true, and_true, true_and, Nat.reduceLT, Nat.reduceLeDiff, Nat.reduceAdd, Nat.reduceSub, Nat.zero_add, Nat.add_zero, e1, e2, e3]
    refine ⟨fun c => absurd c (by omega), fun _ => ⟨by omega, by omega, by omega, m_raise hM (hh.2.2.2 j) (by omega) (m_mul hM (hf.2.2.2 i) htl (m_sumOf hM.2.1.1 (w.lt13 hcl) (w.lt13 (mu_lt w htl)) (by omega) ?_))⟩⟩
    exact ⟨by omega, next⟩
def fitsM (f h : Nat → Nat) : Prop := rl f 25 = 0 ∨ rl h 25 = 0 ∨ rl f 25 + rl h 25 ≤ 26
theorem m_mul_out {a b c : Nat} {f h : Nat → Nat} (mi0 : Nat → Nat → Int32) (h0 : Mw q m d n mi0) (hf : Wr n mi0 a f) (hh : Wr n mi0 b h) (hac : a ≠ c) (hbc : b ≠ c) (hc : c < 50) (hfit : rl f 25 + rl h 25 ≤ 26) (hh1 : 1 ≤ rl h 25)
    (hK : ∀ mi1, offV c mi0 mi1 → Wr n mi1 c (cv q m d f h) → K (nI 1) mi1 ml) :
    ∀ (r i : Nat) (mi : Nat → Nat → Int32), r + i = rl f 25 → offV c mi0 mi → Wr n mi c (cs q m d f h i 0) → wp G e tM m_X10_multiply 44 [(0, .ref 154), (1, .int (nI a)), (2, .int (nI b)), (3, .int (nI c)), (4, .int (nI i))] [] (mi, ml, RX RM) (QI K) := by
  have w := h0.1.1
  have h2 := w.q2
  have hn2 := h0.two
  have hr25 := rl_le h 25
  have hf25 := rl_le f 25
  have ha := hf.1
  have hb := hh.1
  have hLf : ∀ k, rl f 25 ≤ k → f k = 0 := fun k hk => by
    by_cases c : k < 25
    · exact rl_above hk c
    · exact hf.2.2.1 k (by omega)
  have hLh : ∀ k, rl h 25 ≤ k → h k = 0 := fun k hk => by
    by_cases c : k < 25
    · exact rl_above hk c
    · exact hh.2.2.1 k (by omega)
  intro r
  induction r with
  | zero =>
    intro i mi hi ho hc2
    have : i = rl f 25 := by omega
    subst this
    have e : cs q m d f h (rl f 25) 0 = cv q m d f h := by
      funext k
      unfold cs
      by_cases c : k < 25
      · rw [if_pos c, if_neg (by omega), ← cv_top2 w hLf]
      · rw [if_neg c, cv_top w hLf hLh (by omega)]
    rw [e] at hc2
    apply b_X10_multiply_44
    refine m_degreeAt hn2.2 (hf.offV ho hac) ?_
    rw [pd_ltc (by omega) (by omega)]
    simp (disch := omega) only [s_le, s_lt, s_eq, s_eq0, s_in, s_ix, s_rm, s_div, s_pdlt, s_pdle, s_lepd, s_pdpd, s_pdlepd, s_pdadd, nI_add, pk_mul, pd_succ, Nat.not_lt_zero, Nat.zero_lt_succ, not_false_eq_true, not_true_eq_false, false_implies, true_implies, implies_true, and_true, true_and, Nat.reduceLT, Nat.reduceLeDiff, Nat.reduceAdd, Nat.reduceSub, Nat.zero_add, Nat.add_zero]
    exact ⟨fun _ => ⟨Or.inr rfl, hK mi ho hc2⟩, fun c => absurd (Nat.le_refl _) c⟩
  | succ r ih =>
    intro i mi hi ho hc2
    have hfm := hf.offV ho hac
    have e1 := hfm.2.1 i (by omega)
    have hlt := hf.2.2.2 i
    apply b_X10_multiply_44
    refine m_degreeAt hn2.2 hfm ?_
    rw [pd_ltc (by omega) (by omega)]
    simp (disch := omega) only [s_le, s_lt, s_eq, s_eq0, s_in, s_ix, s_rm, s_div, s_pdlt, s_pdle, s_lepd, s_pdpd, s_pdlepd, s_pdadd, nI_add, pk_mul, pd_succ, Nat.not_lt_zero, Nat.zero_lt_succ, not_false_eq_true, not_true_eq_false, false_implies, true_implies, implies_true, and_true, true_and, Nat.reduceLT, Nat.reduceLeDiff, Nat.reduceAdd, Nat.reduceSub, Nat.zero_add, Nat.add_zero, e1]
    refine ⟨fun c => absurd c (by omega), fun _ => ⟨by omega, fun c => ?_, fun c => ?_⟩⟩
    · exact m_mul_in mi0 h0 hf hh hac hbc hc (by omega) (fun mi1 ho1 hc1 => ih (i + 1) mi1 (by omega) ho1 hc1) (rl h 25) 0 mi (by omega) ho hc2
    · refine ih (i + 1) mi (by omega) ho ?_
      have e : cs q m d f h i 0 = cs q m d f h (i + 1) 0 := funext (fun k => cs_skip w c k)
      rw [← e]
      exact hc2
theorem m_multiply {a b c : Nat} {f h : Nat → Nat} {mi : Nat → Nat → Int32} (h0 : Mw q m d n mi) (hf : Wr n mi a f) (hh : Wr n mi b h) (hac : a ≠ c) (hbc : b ≠ c) (hc : c < 50)
    (h1 : fitsM f h → ∀ mi1, offV c mi mi1 → Wr n mi1 c (cv q m d f h) → K (nI 1) mi1 ml) (hno : ¬ fitsM f h → ∀ mi1, offV c mi mi1 → Wr n mi1 c (fun _ => 0) → K (nI 0) mi1 ml) : wpI G e 168 m_X10_multiply [.ref 154, .int (nI a), .int (nI b), .int (nI c)] (mi, ml, RX RM) K := by
  have w := h0.1.1
  have h2 := w.q2
  have hn2 := h0.two
  have hr25 := rl_le h 25
  have hf25 := rl_le f 25
  have hLf : ∀ k, rl f 25 ≤ k → f k = 0 := fun k hk => by
    by_cases c : k < 25
    · exact rl_above hk c
    · exact hf.2.2.1 k (by omega)
  have hLh : ∀ k, rl h 25 ≤ k → h k = 0 := fun k hk => by
    by_cases c : k < 25
    · exact rl_above hk c
    · exact hh.2.2.1 k (by omega)
  apply e_X10_multiply
  refine m_clear (n := n) hc (by omega) (fun mi1 ho hz => ?_)
  have hfm := hf.offV ho hac
  have hhm := hh.offV ho hbc
  refine m_degreeAt hn2.2 hfm ?_
  rw [pd_ltc (by omega) (by omega)]
  refine ⟨fun z => ⟨Or.inr rfl, h1 (Or.inl (by omega)) mi1 ho ?_⟩, fun z => m_degreeAt hn2.2 hhm ?_⟩
  · have e : cv q m d f h = fun _ => 0 := funext (fun k => by
      rw [cv_top2 w (fun i hi => hLf i (by omega)) (a := 0)]
      rfl)
    rw [e]
    exact hz
  · have e5 : (nI 0 ≤ pd (rl h 25)) = (1 ≤ rl h 25) := by
      simp (disch := omega) only [s_le, s_lt, s_eq, s_eq0, s_in, s_ix, s_rm, s_div, s_pdlt, s_pdle, s_lepd, s_pdpd, s_pdlepd, s_pdadd, nI_add, pk_mul, pd_succ, Nat.not_lt_zero, Nat.zero_lt_succ, not_false_eq_true, not_true_eq_false, false_implies, true_implies, implies_true, and_true, true_and, Nat.reduceLT, Nat.reduceLeDiff, Nat.reduceAdd, Nat.reduceSub, Nat.zero_add, Nat.add_zero]
    rw [e5]
    refine ⟨fun z2 => m_degreeAt hn2.2 hfm (m_degreeAt hn2.2 hhm ?_), fun z2 => ⟨Or.inr rfl, h1 (Or.inr (Or.inl (by omega))) mi1 ho ?_⟩⟩
    · obtain ⟨x, hx⟩ : ∃ x, rl f 25 = x + 1 := ⟨rl f 25 - 1, by omega⟩
      obtain ⟨y, hy⟩ : ∃ y, rl h 25 = y + 1 := ⟨rl h 25 - 1, by omega⟩
      rw [hx, hy]
      simp (disch := omega) only [s_le, s_lt, s_eq, s_eq0, s_in, s_ix, s_rm, s_div, s_pdlt, s_pdle, s_lepd, s_pdpd, s_pdlepd, s_pdadd, nI_add, pk_mul, pd_succ, Nat.not_lt_zero, Nat.zero_lt_succ, not_false_eq_true, not_true_eq_false, false_implies, true_implies, implies_true, and_true, true_and, Nat.reduceLT, Nat.reduceLeDiff, Nat.reduceAdd, Nat.reduceSub, Nat.zero_add, Nat.add_zero]
      refine ⟨fun z3 => ?_, fun z3 => ⟨Or.inl rfl, hno (fun hft => ?_) mi1 ho hz⟩⟩
      · refine m_mul_out mi h0 hf hh hac hbc hc (by omega) (by omega) (h1 (Or.inr (Or.inr (by omega)))) (rl f 25) 0 mi1 (by omega) ho ?_
        have e : cs q m d f h 0 0 = fun _ => 0 := funext (fun k => by
          unfold cs
          split
          · rw [if_neg (by omega)]
            rfl
          · rfl)
        rw [e]
        exact hz
      · unfold fitsM at hft
        omega
    · have e : cv q m d f h = fun _ => 0 := funext (fun k => by
        unfold cv
        refine tmi_nil w _ _ _ _ (by omega) (fun i _ _ => Or.inr (hLh i (by omega))))
      rw [e]
      exact hz
end MML
