/-! the reference: trace, great -/
def trV (q d : Nat) (f : Nat → Nat) : Nat → Nat := fun k => if k + d < 25 then up1 f (2 * d) (cmb q 1 13 (f (2 * d)) 1) (k + d) else 0
def TrcOK : Prop := ∀ q m d n (g : Nat → Nat), Pw q m d n → Rmo n g → rl g 25 = 3 → ∀ k, trV q d (trn q m d g (gno q m d n g (mch q m d (g 0)))).2 k = (trn q m d g (gtr q m d n g (mch q m d (g 0)))).2 k
theorem dg_low {q : Nat} (h2 : 2 ≤ q) (x L k : Nat) : dg q (x % q ^ L) k = if k < L then dg q x k else 0 := by
  by_cases c : k < L
  · rw [if_pos c]
    unfold dg
    obtain ⟨r, rfl⟩ : ∃ r, L = k + (r + 1) := ⟨L - (k + 1), by omega⟩
    rw [Nat.pow_add, Nat.mod_mul_right_div_self, Nat.mod_mod_of_dvd _ ⟨q ^ r, by rw [Nat.pow_succ, Nat.mul_comm]⟩]
  · rw [if_neg c]
    exact dg_big (Nat.mod_lt _ (Nat.pow_pos (by omega))) (by omega) h2
theorem cmb_undo {q s A B : Nat} (h2 : 2 ≤ q) (hA : A < q ^ 13) (hs1 : s ≤ q) : cmb q (q - s) 13 (cmb q s 13 A B) B = A := by
  refine dg_ext h2 (cmb_lt _ h2 13 _ _) hA (fun k hk => ?_)
  rw [cmb_dg _ h2, if_pos hk, cmb_dg _ h2, if_pos hk, Nat.mod_add_mod, Nat.add_assoc, ← Nat.add_mul, Nat.add_sub_cancel' hs1, Nat.add_mul_mod_self_left, Nat.mod_eq_of_lt (dg_lt h2)]
theorem mu_fl {q m d n a b : Nat} (w : Wd q m d n) (ha : a < q) (hb : b < n) : mu q m a b = cmb q a 13 0 b := by
  have h2 := w.q2
  have hqn := q_le_n w
  have key := k_scal w (kt (show 0 < n by omega)) (kt hb) a
  letI := kR w
  have e1 : (kt (show 0 < n by omega) + (OfNat.ofNat a : KT n) * kt hb) = kt (show a < n by omega) * kt hb := by
    have e2 : (OfNat.ofNat a : KT n) = kt (show a < n by omega) := by
      apply Subtype.ext
      show (rg_nat (α := KT n) _ _ _ a).1 = a
      rw [k_nat w, Nat.mod_eq_of_lt ha]
    have e3 : (kt (show 0 < n by omega) : KT n) = 0 := rfl
    rw [e2, e3]
    grind
  rw [e1] at key
  exact key
theorem top_low {q x L : Nat} (h2 : 2 ≤ q) (hx : x < q ^ 13) (hl : ln q 13 x = L + 1) : x = cmb q (dg q x L) 13 (x % q ^ L) (q ^ L) ∧ x = x % q ^ L + dg q x L * q ^ L := by
  have hdl := dg_lt (q := q) (n := x) (k := L) h2
  refine ⟨dg_ext h2 hx (cmb_lt _ h2 13 _ _) (fun k hk => ?_), ?_⟩
  · rw [cmb_dg _ h2, if_pos hk, dg_pwk h2, dg_low h2]
    by_cases c : k = L
    · rw [if_pos c, c, if_neg (by omega), Nat.zero_add, Nat.mul_one, Nat.mod_eq_of_lt hdl]
    · rw [if_neg c, Nat.mul_zero, Nat.add_zero]
      by_cases c2 : k < L
      · rw [if_pos c2, Nat.mod_eq_of_lt (dg_lt h2)]
      · rw [if_neg c2, dg_ge_ln h2 hx (by omega), Nat.zero_mod]
  · have e := (dg_ln h2 hx hl).2
    unfold dg
    rw [Nat.mod_eq_of_lt e]
    have := Nat.div_add_mod x (q ^ L)
    rw [Nat.mul_comm] at this
    omega
section MGT
variable {G : GC} {e n q m d : Nat} {ml : Nat → Nat → Int64} {A : Ast} {K : Int32 → (Nat → Nat → Int32) → (Nat → Nat → Int64) → Prop}
theorem lead2 (hp : Pw q m d n) {g : Nat → Nat} (hg : Rmo n g) (h3 : rl g 25 = 3) {x L : Nat} (hx : x < q ^ 13) (hl : ln q 13 x = L + 1) : Ac q m d g x (2 * L) = mu q m (dg q x L) (gpw q m d g L (2 * L)) ∧ gpw q m d g L (2 * L) ≠ 0 ∧ (∀ k, Ac q m d g (x % q ^ L) k = cmb q (q - dg q x L) 13 (Ac q m d g x k) (gpw q m d g L k)) ∧ ∀ k, 2 * L < k → Ac q m d g x k = 0 := by
  have w := hp.1
  have h2 := w.q2
  have hqn := q_le_n w
  have hl13 := ln_le q 13 x
  have hgD : g 2 ≠ 0 := rl_top h3
  have hg0 : ∀ i, 2 < i → g i = 0 := fun i hi => by
    by_cases c : i < 25
    · exact rl_above (by omega) c
    · exact hg.2.1 i (by omega)
  have hdeg := fun i => gpw_deg hp hg.1 hgD hg0 i
  have hdl := dg_lt (q := q) (n := x) (k := L) h2
  have ex := (top_low h2 hx hl).1
  have elin : ∀ k, Ac q m d g x k = cmb q (dg q x L) 13 (Ac q m d g (x % q ^ L) k) (gpw q m d g L k) := fun k => by
    conv => lhs; rw [ex]
    rw [Ac_lin h2, Ac_pow w hg.1 (by omega)]
  have hz : ∀ y k N, (∀ i, N ≤ i → dg q y i = 0) → N ≤ 13 → (∀ i, i < N → i * 2 < k) → Ac q m d g y k = 0 := fun y k N hN hN13 hk => by
    unfold Ac
    have e1 := lsm_more h2 (h := dg q y) (t := fun i => gpw q m d g i k) hN (13 - N)
    rw [show N + (13 - N) = 13 by omega] at e1
    rw [e1]
    have key : ∀ M, M ≤ N → lsm q (dg q y) (fun i => gpw q m d g i k) M = 0 := by
      intro M
      induction M with
      | zero => intro _; rfl
      | succ M ih =>
        intro hM
        show cmb q (dg q y M) 13 (lsm q (dg q y) _ M) (gpw q m d g M k) = 0
        rw [ih (by omega), (hdeg M).2 k (hk M (by omega)), cmb_zero _ h2]
    exact key N (Nat.le_refl _)
  refine ⟨?_, ?_, fun k => ?_, fun k hk => ?_⟩
  · rw [elin, hz (x % q ^ L) (2 * L) L (fun i hi => by rw [dg_low h2, if_neg (by omega)]) (by omega) (fun i hi => by omega), mu_fl w hdl (gpw_lt w hg.1 L _)]
  · have := (hdeg L).1
    rw [Nat.mul_comm] at this
    exact this
  · rw [elin k, cmb_undo h2 (w.lt13 (Ac_lt w hg.1 _ k)) (by omega)]
  · exact hz x k (L + 1) (fun i hi => dg_ge_ln h2 hx (by omega)) (by omega) (fun i hi => by omega)
theorem m_tr_shift {i : Nat} {R : Nat → Nat} {mi0 : Nat → Nat → Int32} (hM0 : Mw q m d n mi0) (hR : Wr n mi0 1 R) (hK : ∀ mi1, offV 4 mi0 mi1 → Wr n mi1 4 (fun k => if k + d < 25 then R (k + d) else 0) → wp G e tM m_X10_trace 93 [(0, .ref 154), (1, .int (nI i)), (3, .int (nI 0))] [] (mi1, ml, RX RM) (QI K)) : ∀ (r k : Nat) (mi : Nat → Nat → Int32), r + k = 25 → d ≤ k → offV 4 mi0 mi → (∀ j, j < 25 → mi 161 (25 * 4 + j) = nI (if j + d < k then R (j + d) else 0)) → wp G e tM m_X10_trace 56 [(0, .ref 154), (1, .int (nI i)), (3, .int (nI k))] [] (mi, ml, RX RM) (QI K) := by
  have w := hM0.1.1
  have hd7 := w.d7
  have hn := hM0.two
  intro r
  induction r with
  | zero =>
    intro k mi hk _ ho hT
    have hk : k = 25 := by omega
    subst hk
    have := hK mi ho ⟨by omega, hT, fun j hj => if_neg (by omega), fun j => by
      have := hR.2.2.2 (j + d)
      simp only
      split <;> omega⟩
    apply b_X10_trace_56
    simp (disch := omega) only [s_le, s_lt, s_eq, s_eq0, s_in, s_ix, s_rm, s_div, s_pdlt, s_pdle, s_lepd, s_pdpd, s_pdlepd, s_pdadd, nI_add, pk_mul, pd_succ, Nat.not_lt_zero, Nat.zero_lt_succ, not_false_eq_true, not_true_eq_false, false_implies, true_implies, implies_true, and_true, true_and, Nat.reduceLT, Nat.reduceLeDiff, Nat.reduceAdd, Nat.reduceSub, Nat.zero_add, Nat.add_zero, Nat.le_refl]
    exact this
  | succ r ih =>
    intro k mi hk hdk ho hT
    have hM := hM0.offV ho
    have e4 := hM.2.1.2.2.1
    have e1 := (hR.offV ho (by omega)).2.1 k (by omega)
    rw [show 25 * 1 + k = 25 + k by omega] at e1
    have es : nI 100 + nI k - nI d = nI (25 * 4 + (k - d)) := by
      rw [nI_add, s_sub (by omega)]
      congr 1
      omega
    have := ih (k + 1) (u2 mi 161 (25 * 4 + (k - d)) (nI (R k))) (by omega) (by omega) (ho.put (by omega)) (fun j hj => by
      by_cases c : j = k - d
      · rw [c, u2_at, if_pos (by omega), show k - d + d = k by omega]
      · rw [u2_ne (by omega), hT j hj]
        by_cases c2 : j + d < k
        · rw [if_pos c2, if_pos (by omega)]
        · rw [if_neg c2, if_neg (by omega)])
    apply b_X10_trace_56
    rw [e4, es]
    simp (disch := omega) only [s_le, s_lt, s_eq, s_eq0, s_in, s_ix, s_rm, s_div, s_pdlt, s_pdle, s_lepd, s_pdpd, s_pdlepd, s_pdadd, nI_add, pk_mul, pd_succ, Nat.not_lt_zero, Nat.zero_lt_succ, not_false_eq_true, not_true_eq_false, false_implies, true_implies, implies_true, and_true, true_and, Nat.reduceLT, Nat.reduceLeDiff, Nat.reduceAdd, Nat.reduceSub, Nat.zero_add, Nat.add_zero, e1]
    exact ⟨fun z => absurd z (by omega), fun _ => ⟨by omega, by omega, this⟩⟩
theorem m_tr_peel {i a : Nat} {mi0 : Nat → Nat → Int32} (hM0 : Mw q m d n mi0) (h0 : Ma 155 A mi0) (hi : i < 10) (hg : Rmo n (amd A i)) (h3 : rl (amd A i) 25 = 3) (ha : a < q ^ 13) (hK : ∀ mi1, offS mi0 mi1 → K (nI a) mi1 ml) : ∀ (r x : Nat) (mi : Nat → Nat → Int32), x < q ^ 13 → ln q 13 x ≤ r → x = a % q ^ (ln q 13 x) → offS mi0 mi → Wr n mi 4 (fun k => Ac q m d (amd A i) x k) → wp G e tM m_X10_trace 93 [(0, .ref 154), (1, .int (nI i)), (3, .int (nI (a - x)))] [] (mi, ml, RX RM) (QI K) := by
  have w := hM0.1.1
  have h2 := w.q2
  have hqn := q_le_n w
  have hn := hM0.two
  have hp := hM0.1
  have hq2 := hM0.2.1.1.two
  have h31 := pow_lt31 (M := 13) w.hq (Nat.le_refl _)
  intro r
  induction r with
  | zero =>
    intro x mi hx hl hax ho hW
    have hx0 : x = 0 := by
      by_cases c : x = 0
      · exact c
      · have := ln_pos hx (by omega)
        omega
    subst hx0
    have hr : rl (fun k => Ac q m d (amd A i) 0 k) 25 = 0 := by
      have : (fun k => Ac q m d (amd A i) 0 k) = fun _ => 0 := funext (fun k => Ac_zero h2 _ k)
      rw [this]
      rfl
    apply b_X10_trace_93
    refine m_degreeAt (by omega) hW ?_
    rw [hr, Nat.sub_zero]
    refine ⟨fun _ => hK mi ho, fun z => absurd ?_ z⟩
    rw [pd_zero]
    decide
  | succ r ih =>
    intro x mi hx hl hax ho hW
    have hM := hM0.offS ho
    by_cases hx0 : x = 0
    · subst hx0
      have hr : rl (fun k => Ac q m d (amd A i) 0 k) 25 = 0 := by
        have : (fun k => Ac q m d (amd A i) 0 k) = fun _ => 0 := funext (fun k => Ac_zero h2 _ k)
        rw [this]
        rfl
      apply b_X10_trace_93
      refine m_degreeAt (by omega) hW ?_
      rw [hr, Nat.sub_zero]
      refine ⟨fun _ => hK mi ho, fun z => absurd ?_ z⟩
      rw [pd_zero]
      decide
    · obtain ⟨L, hL⟩ : ∃ L, ln q 13 x = L + 1 := ⟨ln q 13 x - 1, by have := ln_pos hx (by omega); omega⟩
      have hL13 := ln_le q 13 x
      obtain ⟨l1, l2, l3, l4⟩ := lead2 hp hg h3 hx hL
      obtain ⟨t1, t2⟩ := top_low h2 hx hL
      have hdp := (dg_ln h2 hx hL).1
      have hdl := dg_lt (q := q) (n := x) (k := L) h2
      have hpL : 1 ≤ q ^ L := Nat.pow_pos (by omega)
      have hlow : x % q ^ L < q ^ L := Nat.mod_lt _ hpL
      have h13 : q ^ L ≤ q ^ 13 := Nat.pow_le_pow_right (by omega) (by omega)
      have hlnL : ln q 13 (q ^ L) = L + 1 := ln_eq h2 (Nat.le_refl _) (Nat.pow_lt_pow_right (by omega) (by omega)) (Nat.pow_lt_pow_right (by omega) (by omega))
      have hqL13 : q ^ L < q ^ 13 := Nat.pow_lt_pow_right (by omega) (by omega)
      have hne : Ac q m d (amd A i) x (2 * L) ≠ 0 := by
        rw [l1]
        have := mu_pos hp (show dg q x L < n by omega) (gpw_lt w hg.1 L (2 * L)) (by omega) (by omega)
        omega
      have hr : rl (fun k => Ac q m d (amd A i) x k) 25 = 2 * L + 1 := rl_is (f := fun k => Ac q m d (amd A i) x k) hne (by omega) (fun j hj _ => l4 j hj)
      have eAx : ∀ k, (trn q m d (amd A i) (q ^ L)).2 k = gpw q m d (amd A i) L k := fun k => by
        rw [trn_Ac hp hqL13 hg.1 (fun k hk => hg.2.1 k (by omega)) (D := 2) h3 (by omega) (by rw [hlnL]; omega), Ac_pow w hg.1 (by omega)]
      obtain ⟨y1, -, -, -⟩ := trn_yes hp hqL13 (by omega) hg.1 (fun k hk => hg.2.1 k (by omega)) (D := 2) h3 (by omega) (by rw [hlnL]; omega)
      apply b_X10_trace_93
      refine m_degreeAt (by omega) hW ?_
      rw [hr, pd_succ]
      have e20 : 2 * L / 2 = L := by omega
      simp (disch := omega) only [s_le, s_lt, s_eq, s_eq0, s_in, s_ix, s_rm, s_div, s_pdlt, s_pdle, s_lepd, s_pdpd, s_pdlepd, s_pdadd, nI_add, pk_mul, pd_succ, Nat.not_lt_zero, Nat.zero_lt_succ, not_false_eq_true, not_true_eq_false, false_implies, true_implies, implies_true, and_true, true_and, Nat.reduceLT, Nat.reduceLeDiff, Nat.reduceAdd, Nat.reduceSub, Nat.zero_add, Nat.add_zero, e20]
      refine m_degreeAt (by omega) hW ?_
      rw [hr, pd_succ]
      simp (disch := omega) only [s_le, s_lt, s_eq, s_eq0, s_in, s_ix, s_rm, s_div, s_pdlt, s_pdle, s_lepd, s_pdpd, s_pdlepd, s_pdadd, nI_add, pk_mul, pd_succ, Nat.not_lt_zero, Nat.zero_lt_succ, not_false_eq_true, not_true_eq_false, false_implies, true_implies, implies_true, and_true, true_and, Nat.reduceLT, Nat.reduceLeDiff, Nat.reduceAdd, Nat.reduceSub, Nat.zero_add, Nat.add_zero, e20]
      refine ⟨by omega, m_power hM.2.1.1 (by omega) ?_⟩
      refine m_layActs hM (h0.offS (Or.inl rfl) ho) hi hg.1 hg.2.1 hg.2.2 hqL13 (by omega) (by omega) (by omega) (fun _ mi1 o1 w1 => ?_) (fun z => absurd (y1.symm.trans z) (by decide))
      have hM1 := hM.offS o1.toS
      have hW1 : Wr n mi1 4 (fun k => Ac q m d (amd A i) x k) := ⟨hW.1, fun k hk => by rw [o1.2 _ (by omega) (by omega) (by omega)]; exact hW.2.1 k hk, hW.2.2⟩
      have f1 := hW1.2.1 (2 * L) (by omega)
      have f2 := w1.2.1 (2 * L) (by omega)
      rw [eAx] at f2
      rw [show 25 * 4 + 2 * L = 100 + 2 * L by omega] at f1
      rw [show 25 * 5 + 2 * L = 125 + 2 * L by omega] at f2
      have gl := gpw_lt w hg.1 L (2 * L)
      have hinv := hM1.2.2.2.1 _ gl
      have hril := rinv_lt (q := q) (m := m) (n := n) (b := gpw q m d (amd A i) L (2 * L)) w.pos
      have ec : mu q m (Ac q m d (amd A i) x (2 * L)) (rinv q m n (gpw q m d (amd A i) L (2 * L))) = dg q x L := by
        rw [l1, mu_assoc w (by omega) gl hril, mu_rinv hp gl (by omega), mu_1r w (by omega)]
      simp (disch := omega) only [s_le, s_lt, s_eq, s_eq0, s_in, s_ix, s_rm, s_div, s_pdlt, s_pdle, s_lepd, s_pdpd, s_pdlepd, s_pdadd, nI_add, pk_mul, pd_succ, Nat.not_lt_zero, Nat.zero_lt_succ, not_false_eq_true, not_true_eq_false, false_implies, true_implies, implies_true, and_true, true_and, Nat.reduceLT, Nat.reduceLeDiff, Nat.reduceAdd, Nat.reduceSub, Nat.zero_add, Nat.add_zero, f1, f2, hinv]
      refine ⟨by omega, by omega, by omega, m_mul hM1 (Ac_lt w hg.1 x _) hril ?_⟩
      rw [ec]
      refine m_power hM1.2.1.1 (by omega) ?_
      have hsum : cmb q (dg q x L) 13 (a - x) (q ^ L) = a - x % q ^ L := by
        have hd := Nat.div_add_mod a (q ^ (L + 1))
        have hax2 : x = a % q ^ (L + 1) := by rw [hL] at hax; exact hax
        rw [← hax2] at hd
        have e7 : a - x = a / q ^ (L + 1) * q ^ (L + 1) := by rw [Nat.mul_comm]; omega
        have hle : a - x + q ^ (L + 1) ≤ q ^ 13 := by
          rw [e7]
          have hq13 : q ^ 13 = q ^ (12 - L) * q ^ (L + 1) := by rw [← Nat.pow_add, show 12 - L + (L + 1) = 13 by omega]
          have : a / q ^ (L + 1) < q ^ (12 - L) := by
            rw [Nat.div_lt_iff_lt_mul (Nat.pow_pos (by omega)), ← hq13]
            exact ha
          have h9 : (a / q ^ (L + 1) + 1) * q ^ (L + 1) ≤ q ^ (12 - L) * q ^ (L + 1) := Nat.mul_le_mul_right _ this
          rw [Nat.add_mul, Nat.one_mul, ← hq13] at h9
          exact h9
        rw [cmb_put h2 hdl (by omega) ⟨a / q ^ (L + 1), e7⟩ hle]
        have hxa : x ≤ a := Nat.le_trans (Nat.le_of_eq hax2) (Nat.mod_le _ _)
        omega
      refine m_sumOf hM1.2.1.1 (by omega) (by omega) (by omega) ?_
      rw [hsum, hM1.2.1.1.2]
      have es : nI q - nI (dg q x L) = nI (q - dg q x L) := s_sub (by omega)
      rw [es]
      refine m_add (a := 4) (b := 5) hM1 hW1 w1 (by omega) (by omega) (fun mi2 o2 w2 => ?_)
      have hll : ln q 13 (x % q ^ L) ≤ L := ln_le_lt h2 hlow
      refine ih (x % q ^ L) mi2 (by omega) (by omega) ?_ ((ho.trans o1.toS).trans o2.toS) ?_
      · have hax2 : x = a % q ^ (L + 1) := by rw [hL] at hax; exact hax
        have e8 : x % q ^ L = a % q ^ L := by
          rw [hax2, Nat.mod_mod_of_dvd _ ⟨q, by rw [Nat.pow_succ]⟩]
        have hlt := ln_lt (q := q) (m := 13) (a := x % q ^ L) (by omega)
        have e9 : x % q ^ L % q ^ ln q 13 (x % q ^ L) = x % q ^ L := Nat.mod_eq_of_lt hlt
        rw [e8] at e9 ⊢
        rw [Nat.mod_mod_of_dvd _ (Nat.pow_dvd_pow q (by rw [← e8]; exact hll))] at e9
        exact e9.symm
      · have e10 : (fun k => Ac q m d (amd A i) (x % q ^ L) k) = fun k => cmb q (q - dg q x L) 13 (Ac q m d (amd A i) x k) ((trn q m d (amd A i) (q ^ L)).2 k) := funext fun k => by rw [eAx, l3]
        rw [e10]
        exact w2
theorem gno_ok (hC : ChrOK) (hU : UniOK) (hp : Pw q m d n) {g : Nat → Nat} (hg : ∀ k, g k < n) (h1 : 1 ≤ g 2) : gno q m d n g (mch q m d (g 0)) < q ^ (d + 1) := by
  have w := hp.1
  have h2 := w.q2
  have hd7 := w.d7
  have hqn := q_le_n w
  obtain ⟨c1, c2, c3⟩ := hC q m d n (g 0) hp (hg 0)
  obtain ⟨o1, o2, -, -⟩ := orb_is hp (hg 0)
  have hgu : gu q m d n (g 2) < q := by
    refine gu_lt h2 ?_
    rw [gun_fig hp h1 (hg 2) (hU q m d n (g 2) hp h1 (hg 2))]
    exact iv_lt w.hq (hU q m d n (g 2) hp h1 (hg 2))
  generalize mch q m d (g 0) = c at *
  generalize orb q m d (g 0) = L at *
  have hc13 : c < q ^ 13 := Nat.lt_of_lt_of_le c3 (Nat.pow_le_pow_right (by omega) (by omega))
  have hcL : c < q ^ (L + 1) := by
    have := ln_lt (q := q) hc13
    rw [c2] at this
    exact this
  have hdL : d / L * L ≤ d := Nat.div_mul_le_self d L
  have key : ∀ r j p, p < q ^ (j * L + 1) → (j + r) * L ≤ d → gnl q c r p < q ^ ((j + r) * L + 1) := by
    intro r
    induction r with
    | zero => intro j p hp _; exact hp
    | succ r ih =>
      intro j p hp hfit
      have e1 : (j + (r + 1)) * L = j * L + L + r * L := by rw [Nat.add_mul, Nat.add_mul, Nat.one_mul]; omega
      have hlt : prd q p c < q ^ ((j + 1) * L + 1) := by
        have := prd_lt h2 hp hcL (by omega) (by omega)
        rw [show (j + 1) * L + 1 = L + 1 - 1 + (j * L + 1) by rw [Nat.add_mul, Nat.one_mul]; omega]
        exact this
      have := ih (j + 1) _ hlt (by rw [show j + 1 + r = j + (r + 1) by omega]; exact hfit)
      rw [show j + 1 + r = j + (r + 1) by omega] at this
      exact this
  unfold gno
  rw [if_neg (by omega), c2, Nat.add_sub_cancel]
  have := key (d / L) 0 (gu q m d n (g 2)) (by rw [Nat.zero_mul, Nat.zero_add, Nat.pow_one]; exact hgu) (by rw [Nat.zero_add]; exact hdL)
  rw [Nat.zero_add] at this
  exact Nat.lt_of_lt_of_le this (Nat.pow_le_pow_right (by omega) (by omega))
theorem m_trace (hC : ChrOK) (hU : UniOK) (hT : TrcOK) {i : Nat} {mi0 : Nat → Nat → Int32} (hM0 : Mw q m d n mi0) (h0 : Ma 155 A mi0) (hi : i < 10) (hg : Rmo n (amd A i)) (h3 : rl (amd A i) 25 = 3) (hK : ∀ mi1, offS mi0 mi1 → K (nI (gtr q m d n (amd A i) (mch q m d (amd A i 0)))) mi1 ml) : wpI G e 168 m_X10_trace [.ref 154, .int (nI i)] (mi0, ml, RX RM) K := by
  have w := hM0.1.1
  have h2 := w.q2
  have hd7 := w.d7
  have hn := hM0.two
  have hqn := q_le_n w
  have hp := hM0.1
  have hg21 : amd A i 2 ≠ 0 := rl_top h3
  have hb := gno_ok hC hU hp hg.1 (g := amd A i) (by omega)
  have hT1 := hT q m d n (amd A i) hp hg h3
  generalize hbb : gno q m d n (amd A i) (mch q m d (amd A i 0)) = b at *
  have hb13 : b < q ^ 13 := Nat.lt_of_lt_of_le hb (Nat.pow_le_pow_right (by omega) (by omega))
  have hlb : ln q 13 b ≤ d + 1 := ln_le_lt h2 hb
  have ha13 : gtr q m d n (amd A i) (mch q m d (amd A i 0)) < q ^ 13 := by
    unfold gtr
    exact cmb_lt _ h2 13 _ _
  generalize hgt : gtr q m d n (amd A i) (mch q m d (amd A i 0)) = a at *
  have hrow : (∀ k, (trn q m d (amd A i) b).2 k < n) ∧ (∀ k, 25 ≤ k → (trn q m d (amd A i) b).2 k = 0) ∧ (trn q m d (amd A i) b).1 = true := by
    by_cases c : b = 0
    · have e1 : trn q m d (amd A i) b = (true, fun _ => 0) := by
        unfold trn
        rw [c, ln_zero h2]
        rfl
      rw [e1]
      exact ⟨fun _ => w.pos, fun _ _ => rfl, rfl⟩
    · obtain ⟨t1, -, t3, t4⟩ := trn_yes hp hb13 (by omega) hg.1 (fun k hk => hg.2.1 k (by omega)) (D := 2) h3 (by omega) (by omega)
      exact ⟨t3, t4, t1⟩
  apply e_X10_trace
  refine m_norm hC hU hM0 h0 hi hg.1 (by omega) (fun mi1 o1 => ?_)
  rw [hbb]
  have hM1 := hM0.offC o1
  refine m_layActs hM1 (h0.off (o1 155 (by omega))) hi hg.1 hg.2.1 hg.2.2 hb13 (by omega) (by omega) (by omega) (fun _ mi2 o2 w2 => ?_) (fun z => absurd (hrow.2.2.symm.trans z) (by decide))
  have hM2 := hM1.offS o2.toS
  have e4 := hM2.2.1.2.2.1
  have f1 := w2.2.1 (2 * d) (by omega)
  rw [show 25 * 1 + 2 * d = 25 + 2 * d by omega] at f1
  have hrl := hrow.1 (2 * d)
  rw [e4]
  simp (disch := omega) only [s_le, s_lt, s_eq, s_eq0, s_in, s_ix, s_rm, s_div, s_pdlt, s_pdle, s_lepd, s_pdpd, s_pdlepd, s_pdadd, nI_add, pk_mul, pd_succ, Nat.not_lt_zero, Nat.zero_lt_succ, not_false_eq_true, not_true_eq_false, false_implies, true_implies, implies_true, and_true, true_and, Nat.reduceLT, Nat.reduceLeDiff, Nat.reduceAdd, Nat.reduceSub, Nat.zero_add, Nat.add_zero, f1]
  refine ⟨by omega, m_sumOf hM2.2.1.1 (w.lt13 hrl) (w.lt13 (show 1 < n by omega)) (by omega) ⟨by omega, ?_⟩⟩
  generalize hR : up1 (trn q m d (amd A i) b).2 (2 * d) (cmb q 1 13 ((trn q m d (amd A i) b).2 (2 * d)) 1) = R
  have hWR : Wr n (u2 mi2 161 (25 + 2 * d) (nI (cmb q 1 13 ((trn q m d (amd A i) b).2 (2 * d)) 1))) 1 R := by
    refine ⟨by omega, fun k hk => ?_, fun k hk => ?_, fun k => ?_⟩
    · rw [← hR]
      unfold up1
      by_cases c : k = 2 * d
      · rw [if_pos c, c, show 25 * 1 + 2 * d = 25 + 2 * d by omega, u2_at]
      · rw [if_neg c, u2_ne (by omega)]
        exact w2.2.1 k hk
    · rw [← hR]
      unfold up1
      rw [if_neg (by omega)]
      exact hrow.2.1 k hk
    · rw [← hR]
      unfold up1
      split
      · exact cmb_ltn w hrl (by omega)
      · exact hrow.1 k
  have oS : offS mi0 (u2 mi2 161 (25 + 2 * d) (nI (cmb q 1 13 ((trn q m d (amd A i) b).2 (2 * d)) 1))) := (o1.toS.trans o2.toS).trans (offS.w (fun o z => u2_off z))
  generalize u2 mi2 161 (25 + 2 * d) (nI (cmb q 1 13 ((trn q m d (amd A i) b).2 (2 * d)) 1)) = mi3 at *
  have hM3 := hM0.offS oS
  refine m_clear (n := n) (r := 4) (by omega) (by omega) (fun mi4 o4 w4 => ?_)
  have hM4 := hM3.offV o4
  have e44 := hM4.2.1.2.2.1
  rw [e44]
  refine m_tr_shift (R := R) hM4 (hWR.offV o4 (by omega)) (fun mi5 o5 w5 => ?_) (25 - d) d mi4 (by omega) (Nat.le_refl _) (offV.refl _ _) (fun j hj => by rw [if_neg (by omega)]; exact w4.2.1 j hj)
  have hl13 := ln_le q 13 a
  have := m_tr_peel (G := G) (e := e) (ml := ml) (K := K) hM0 h0 hi hg h3 ha13 hK 13 a mi5 ha13 hl13 (Nat.mod_eq_of_lt (ln_lt ha13)).symm ((oS.trans o4.toS).trans o5.toS) (by
    have e10 : (fun k => Ac q m d (amd A i) a k) = fun k => if k + d < 25 then R (k + d) else 0 := funext fun k => by
      rw [← trn_Ac hp ha13 hg.1 (fun k hk => hg.2.1 k (by omega)) (D := 2) h3 (by omega) (by omega), ← hT1 k, ← hR]
      rfl
    rw [e10]
    exact w5)
  rw [Nat.sub_self] at this
  exact this
theorem m_great (hC : ChrOK) (hU : UniOK) (hT : TrcOK) {s : Cst} {mi0 : Nat → Nat → Int32} (hs : A = cN s) (hM : Mw q m d n mi0) (hq : aq (cN s) = q) (hm : am (cN s) = m) (hd : dO (cN s) = d) (hnO : nO (cN s) = n) (h : Ma 155 A mi0) (h10 : kc (aks A) 0 (adn A) ≤ 10) (hl : ∀ i, i < kc (aks A) 0 (adn A) → Rmo n (amd A i)) {v1 v2 : Int32} (hK : ∀ mi1, offS mi0 mi1 → K (fGreat s v1 v2) mi1 ml) : wpI G e 168 m_X10_great [.ref 154, .int v1, .int v2] (mi0, ml, RX RM) K := by
  subst hs
  have hn := hM.two
  unfold fGreat at hK
  rw [hq, hm, hd, hnO] at hK
  apply e_X10_great
  refine m_isModule h h10 (fun i hi hv hlt => ⟨fun z => absurd z (by decide), fun _ => ?_⟩) (fun hno => ⟨fun _ => ?_, fun z => absurd rfl z⟩)
  · rw [hi] at hK
    dsimp only at hK
    subst hv
    have hR := hl i hlt
    obtain ⟨c1, -, -⟩ := hC q m d n (amd (cN s) i 0) hM.1 (hR.1 0)
    rw [c1] at hK
    dsimp only at hK
    have e2 := h.2.2.2.2.2.2.2.1 i (by omega) 2 (by omega)
    have e3 := h.2.2.2.2.2.2.2.1 i (by omega) 3 (by omega)
    have b2 := hR.1 2
    have b3 := hR.1 3
    have hr4 := hR.rl4
    have r4 : rl (amd (cN s) i) 4 = if amd (cN s) i 3 = 0 then (if amd (cN s) i 2 = 0 then rl (amd (cN s) i) 2 else 3) else 4 := rfl
    have r2 := rl_le (amd (cN s) i) 2
    have nope : (rl (amd (cN s) i) 4 ≠ 3 ∨ (v2 ≠ nI 0 ∧ v2 ≠ nI 1)) → K NONE mi0 ml := fun z => by
      have := hK mi0 (offS.refl _)
      rcases z with z | ⟨z1, z2⟩
      · rw [if_neg z] at this
        exact this
      · rw [if_neg z1, if_neg z2] at this
        split at this <;> exact this
    refine m_isIn (a := 0) (lo := 0) (hi := 1) (by omega) (by omega) (fun k hv2 _ hk => ⟨fun z => absurd z (by decide), fun _ => ?_⟩) (fun hno => ⟨fun _ => nope (Or.inr ⟨hno 0 (by omega) (by omega), hno 1 (by omega) (by omega)⟩), fun z => absurd rfl z⟩)
    subst hv2
    simp (disch := omega) only [s_le, s_lt, s_eq, s_eq0, s_in, s_ix, s_rm, s_div, s_pdlt, s_pdle, s_lepd, s_pdpd, s_pdlepd, s_pdadd, nI_add, pk_mul, pd_succ, Nat.not_lt_zero, Nat.zero_lt_succ, not_false_eq_true, not_true_eq_false, false_implies, true_implies, implies_true, and_true, true_and, Nat.reduceLT, Nat.reduceLeDiff, Nat.reduceAdd, Nat.reduceSub, Nat.zero_add, Nat.add_zero, e2, e3]
    refine ⟨by omega, fun z => nope (Or.inl ?_), fun z => ⟨by omega, fun z2 => ?_, fun z2 => nope (Or.inl ?_)⟩⟩
    · rw [r4, if_pos z]
      split <;> omega
    · have h3 : rl (amd (cN s) i) 4 = 3 := by rw [r4, if_pos (by omega), if_neg z]
      have h325 : rl (amd (cN s) i) 25 = 3 := by omega
      refine ⟨fun y => ?_, fun y => ?_⟩
      · have hk0 : k = 0 := by omega
        subst hk0
        refine m_trace hC hU hT hM h (by omega) hR h325 (fun mi1 o1 => ?_)
        have := hK mi1 o1
        rw [if_pos h3, if_pos rfl] at this
        exact this
      · have hk0 : k = 1 := by omega
        subst hk0
        refine m_norm hC hU hM h (by omega) hR.1 (by omega) (fun mi1 o1 => ?_)
        have := hK mi1 o1.toS
        rw [if_pos h3, if_neg (by decide), if_pos rfl] at this
        exact this
    · rw [r4, if_neg (by omega)]
      omega
  · rw [hno] at hK
    exact hK mi0 (offS.refl _)
end MGT
