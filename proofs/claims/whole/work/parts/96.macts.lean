/-! the reference: layActs -/
/-- r steps are left: how long the row is, and that they fit -/
def trC (D r : Nat) (f : Nat → Nat) : Prop := (rl f 25 = 0 ∧ (r - 1) * D ≤ 24) ∨ ∃ j, rl f 25 = j * D + 1 ∧ (j + r) * D ≤ 24
def trN (q m d : Nat) (g : Nat → Nat) (a k : Nat) (f : Nat → Nat) : Nat → Nat := up1 (cv q m d f g) 0 (cmb q 1 13 (cv q m d f g 0) (dg q a k))
theorem q_le_n {q m d n : Nat} (w : Wd q m d n) : q ≤ n := by
  have := Nat.pow_le_pow_right (n := q) (by have := w.q2; omega) w.2.2.2.2.1
  rw [Nat.pow_one, ← w.nq] at this
  exact this
theorem trN_ok {q m d n : Nat} (hp : Pw q m d n) {g f : Nat → Nat} {a k D : Nat} (hg : ∀ i, g i < n) (hf : ∀ i, f i < n) (hg0 : ∀ i, 25 ≤ i → g i = 0) (hf0 : ∀ i, 25 ≤ i → f i = 0) (hD : rl g 25 = D + 1) (hD1 : 1 ≤ D) (hC : trC D (k + 1) f) :
    fitsM f g ∧ ¬ (0 < rl f 25 ∧ 0 < rl g 25 ∧ 26 < rl f 25 + rl g 25) ∧ (∀ i, trN q m d g a k f i < n) ∧ (∀ i, 25 ≤ i → trN q m d g a k f i = 0) ∧ trC D k (trN q m d g a k f) := by
  have w := hp.1
  have h2 := w.q2
  have hqn := q_le_n w
  have hr25 := rl_le f 25
  have hzg : ∀ i, D + 1 ≤ i → g i = 0 := fun i hi => by
    by_cases c : i < 25
    · exact rl_above (by omega) c
    · exact hg0 i (by omega)
  have hzf : ∀ i, rl f 25 ≤ i → f i = 0 := fun i hi => by
    by_cases c : i < 25
    · exact rl_above hi c
    · exact hf0 i (by omega)
  have hlt : ∀ i, trN q m d g a k f i < n := fun i => by
    unfold trN up1
    split
    · exact cmb_ltn w (cv_lt w hg 0) (by have := dg_lt (q := q) (n := a) (k := k) h2; omega)
    · exact cv_lt w hg i
  rcases hC with ⟨c1, c2⟩ | ⟨j, c1, c2⟩
  · have hcv : ∀ i, cv q m d f g i = 0 := fun i => cv_top w (F := 0) (L := i + 1 + D) (fun k _ => hzf k (by omega)) (fun k hk => hzg k (by omega)) (k := i + D) (by omega) |> fun _ => by
      rw [cv_top2 w (a := 0) (fun i _ => hzf i (by omega))]
      rfl
    have hn0 : ∀ i, i ≠ 0 → trN q m d g a k f i = 0 := fun i hi => by
      unfold trN up1
      rw [if_neg hi]
      exact hcv i
    refine ⟨Or.inl c1, by omega, hlt, fun i hi => hn0 i (by omega), ?_⟩
    rw [Nat.add_sub_cancel] at c2
    by_cases c : trN q m d g a k f 0 = 0
    · refine Or.inl ⟨?_, ?_⟩
      · have : ∀ N, rl (trN q m d g a k f) N = 0 := by
          intro N
          induction N with
          | zero => rfl
          | succ N ih =>
            unfold rl
            by_cases c3 : N = 0
            · rw [c3] at ih ⊢
              rw [if_pos c]
              exact ih
            · rw [if_pos (hn0 N c3)]
              exact ih
        exact this 25
      · exact Nat.le_trans (Nat.mul_le_mul_right _ (by omega)) c2
    · refine Or.inr ⟨0, ?_, by rw [Nat.zero_add]; exact c2⟩
      rw [Nat.zero_mul]
      exact rl_is c (by omega) (fun i h1 _ => hn0 i (by omega))
  · have e1 : (j + (k + 1)) * D = j * D + D + k * D := by rw [Nat.add_mul, Nat.add_mul, Nat.one_mul]; omega
    rw [e1] at c2
    have hfF : f (j * D) ≠ 0 := rl_top c1
    have hgL : g D ≠ 0 := rl_top hD
    obtain ⟨l1, l2⟩ := cv_lead hp hf hg hfF hgL (fun i hi => hzf i (by omega)) (fun i hi => hzg i (by omega))
    refine ⟨Or.inr (Or.inr (by omega)), by omega, hlt, fun i hi => ?_, Or.inr ⟨j + 1, ?_, ?_⟩⟩
    · unfold trN up1
      rw [if_neg (by omega)]
      exact l2 i (by omega)
    · have e2 : (j + 1) * D = j * D + D := by rw [Nat.add_mul, Nat.one_mul]
      rw [e2]
      refine rl_is ?_ (by omega) (fun i h1 _ => ?_)
      · unfold trN up1
        rw [if_neg (by omega)]
        exact l1
      · unfold trN up1
        rw [if_neg (by omega)]
        exact l2 i (by omega)
    · rw [Nat.add_mul, Nat.add_mul, Nat.one_mul]
      omega
section MLA
variable {G : GC} {e n q m d : Nat} {ml : Nat → Nat → Int64} {K : Int32 → (Nat → Nat → Int32) → (Nat → Nat → Int64) → Prop}
theorem m_la_loop {c a D : Nat} {g : Nat → Nat} (mi0 : Nat → Nat → Int32) (hM : Mw q m d n mi0) (hc : c < 50) (hc0 : c ≠ 0) (hc3 : c ≠ 3) (ha : a < q ^ 13) (hg : Wr n mi0 0 g) (hD : rl g 25 = D + 1) (hD1 : 1 ≤ D) :
    ∀ (r : Nat) (f : Nat → Nat) (mi : Nat → Nat → Int32), r ≤ 13 → trC D r f → off2 c 3 mi0 mi → Wr n mi c f → (∀ mi1, off2 c 3 mi0 mi1 → (trnl q m d g a r f).1 = true → Wr n mi1 c (trnl q m d g a r f).2 → K (nI 1) mi1 ml) →
      wp G e tM m_X10_layActs 42 [(0, .ref 154), (2, .int (nI a)), (3, .int (nI c)), (4, .int (pd r))] [] (mi, ml, RX RM) (QI K) := by
  have w := hM.1.1
  have h2 := w.q2
  have hn2 := hM.two
  have hq := hM.2.1.1
  intro r
  induction r with
  | zero =>
    intro f mi _ hC ho hf hK
    apply b_X10_layActs_42
    exact ⟨fun _ => ⟨Or.inr rfl, hK mi ho rfl hf⟩, fun z => absurd (by decide) z⟩
  | succ k ih =>
    intro f mi hr hC ho hf hK
    have hM1 := hM.off2 ho
    have hg1 := hg.off2 ho (by omega) (by omega)
    obtain ⟨t1, t2, t3, t4, t5⟩ := trN_ok (a := a) hM.1 hg.2.2.2 hf.2.2.2 hg.2.2.1 hf.2.2.1 hD hD1 hC
    have et : trnl q m d g a (k + 1) f = trnl q m d g a k (trN q m d g a k f) := by
      show (if _ then _ else _) = _
      rw [if_neg t2]
      rfl
    rw [et] at hK
    apply b_X10_layActs_42
    rw [pd_succ]
    refine ⟨fun z => absurd z (by rw [s_lt (by omega) (by omega)]; omega), fun _ => ?_⟩
    refine m_multiply (a := c) (b := 0) (c := 3) hM1 hf hg1 hc3 (by omega) (by omega) (fun _ mi1 o1 w1 => ?_) (fun z => absurd t1 z)
    refine m_lay (r := 3) (c := c) hc (by omega) w1 (fun mi2 o2 w2 => ?_)
    have hM2 := (hM1.offV o1).offV o2
    have hdl := dg_lt (q := q) (n := a) (k := k) h2
    have hqn := q_le_n w
    have e0 := w2.2.1 0 (by omega)
    rw [Nat.add_zero] at e0
    simp (disch := omega) only [s_le, s_lt, s_eq, s_eq0, s_in, s_ix, s_rm, s_div, s_pdlt, s_pdle, s_lepd, s_pdpd, s_pdlepd, s_pdadd, nI_add, pk_mul, pd_succ, Nat.not_lt_zero, Nat.zero_lt_succ, not_false_eq_true, not_true_eq_false, false_implies, true_implies, implies_true, and_true, true_and, Nat.reduceLT, Nat.reduceLeDiff, Nat.reduceAdd, Nat.reduceSub, Nat.zero_add, Nat.add_zero]
    refine ⟨by omega, m_figure hM2.2.1.1 ha (by omega) ?_⟩
    simp (disch := omega) only [s_le, s_lt, s_eq, s_eq0, s_in, s_ix, s_rm, s_div, s_pdlt, s_pdle, s_lepd, s_pdpd, s_pdlepd, s_pdadd, nI_add, pk_mul, pd_succ, Nat.not_lt_zero, Nat.zero_lt_succ, not_false_eq_true, not_true_eq_false, false_implies, true_implies, implies_true, and_true, true_and, Nat.reduceLT, Nat.reduceLeDiff, Nat.reduceAdd, Nat.reduceSub, Nat.zero_add, Nat.add_zero, e0]
    refine m_sumOf hM2.2.1.1 (w.lt13 (cv_lt w hg.2.2.2 0)) (w.lt13 (show dg q a k < n by omega)) (by omega) ⟨by omega, ?_⟩
    rw [pd_dec]
    have hoV := (offV.refl c mi2).put (k := 0) (v := nI (cmb q 1 13 (cv q m d f g 0) (dg q a k))) (by omega)
    rw [Nat.add_zero] at hoV
    refine ih _ _ (by omega) t5 ((((ho.trans o1.two2).trans o2.two1)).trans hoV.two1) ⟨hc, fun i hi => ?_, t4, t3⟩ hK
    by_cases ci : i = 0
    · subst ci
      rw [Nat.add_zero, u2_at]
      rfl
    · rw [u2_ne (by omega), w2.2.1 i hi]
      unfold trN up1
      rw [if_neg ci]
end MLA
