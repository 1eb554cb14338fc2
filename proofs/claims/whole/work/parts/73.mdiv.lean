/-! the reference: rests, common ones, factors, poly -/
theorem cmb_mod {q s : Nat} (h2 : 2 ≤ q) (a b : Nat) : cmb q (s % q) 13 a b = cmb q s 13 a b := by
  refine dg_ext h2 (cmb_lt _ h2 13 _ _) (cmb_lt _ h2 13 _ _) (fun k hk => ?_)
  rw [cmb_dg _ h2, cmb_dg _ h2, if_pos hk, if_pos hk]
  have e : (s % q) * dg q b k % q = s * dg q b k % q := Nat.mod_mul_mod _ _ _
  rw [Nat.add_mod, e, ← Nat.add_mod]
theorem rs_eq {q b t lb : Nat} (h2 : 2 ≤ q) : ∀ (n a : Nat), n ≤ 13 → a < q ^ n → rs q b t lb n a = rs q b t lb (ln q 13 a) a ∧ ∀ w, qs q b t lb n a w = qs q b t lb (ln q 13 a) a w
  | 0, a, _, ha => by
    have : a = 0 := by simpa using ha
    rw [this, ln_zero h2]
    exact ⟨rfl, fun _ => rfl⟩
  | n + 1, a, hn, ha => by
    have ha13 : a < q ^ 13 := Nat.lt_of_lt_of_le ha (Nat.pow_le_pow_right (by omega) hn)
    by_cases c : a < q ^ n
    · obtain ⟨i1, i2⟩ := rs_eq (b := b) (t := t) (lb := lb) h2 n a (by omega) c
      have hd : dg q a n = 0 := dg_big c (Nat.le_refl n) h2
      have e0 : ∀ x, cmb q ((q - 0 * t % q) % q) 13 a x = a := fun x => by
        rw [Nat.zero_mul, Nat.zero_mod, Nat.sub_zero, Nat.mod_self, cmb_a h2 x ha13]
      have small : ∀ m, m < lb → rs q b t lb m a = a ∧ ∀ w, qs q b t lb m a w = w := by
        intro m hm
        cases m with
        | zero => exact ⟨rfl, fun _ => rfl⟩
        | succ m =>
          unfold rs qs
          rw [if_pos hm]
          exact ⟨rfl, fun w => by rw [if_pos hm]⟩
      rw [← i1]
      refine ⟨?_, fun w => ?_⟩
      · conv => lhs; unfold rs
        split
        · next c1 => exact ((small n (by omega)).1).symm
        · rw [hd, e0]
      · rw [← i2 w]
        conv => lhs; unfold qs
        split
        · next c1 => exact ((small n (by omega)).2 w).symm
        · rw [hd, e0, Nat.zero_mul, Nat.zero_mod, Nat.zero_mul, Nat.add_zero]
    · have hl := ln_eq h2 (Nat.le_of_not_lt c) ha ha13
      rw [hl]
      exact ⟨rfl, fun _ => rfl⟩
theorem cmb_put {q w c j : Nat} (h2 : 2 ≤ q) (hc : c < q) (hj : j < 13) (hw : ∃ u, w = u * q ^ (j + 1)) (hl : w + q ^ (j + 1) ≤ q ^ 13) : cmb q c 13 w (q ^ j) = w + c * q ^ j := by
  obtain ⟨u, hu⟩ := hw
  have e1 : w + c * q ^ j = (u * q + c) * q ^ j := by
    rw [hu, Nat.add_mul, Nat.pow_succ]
    ac_rfl
  have hlt : w + c * q ^ j < q ^ 13 := by
    have h3 : c * q ^ j < q * q ^ j := Nat.mul_lt_mul_of_pos_right hc (Nat.pow_pos (by omega))
    rw [Nat.pow_succ, Nat.mul_comm] at hl
    omega
  refine dg_ext h2 (cmb_lt _ h2 13 _ _) hlt (fun k hk => ?_)
  have e2 : dg q w k = if j + 1 ≤ k then dg q u (k - (j + 1)) else 0 := by rw [hu, dg_mulpow h2]
  have e3 : dg q (q ^ j) k = if j ≤ k then dg q 1 (k - j) else 0 := by
    have := dg_mulpow (q := q) (x := 1) (n := j) (k := k) h2
    rw [Nat.one_mul] at this
    exact this
  rw [cmb_dg _ h2, if_pos hk, e1, dg_mulpow h2, e2, e3]
  rcases Nat.lt_trichotomy k j with z | z | z
  · rw [if_neg (by omega), if_neg (by omega), if_neg (by omega), Nat.mul_zero]
    rfl
  · subst z
    rw [if_neg (by omega), if_pos (Nat.le_refl k), if_pos (Nat.le_refl k), Nat.sub_self, dg_0, dg_0, Nat.mod_eq_of_lt (show 1 < q by omega), Nat.mul_one, Nat.zero_add, Nat.mul_comm, Nat.mul_add_mod]
  · obtain ⟨i, hi⟩ : ∃ i, k = j + 1 + i := ⟨k - (j + 1), by omega⟩
    rw [if_pos (by omega), if_pos (by omega), if_pos (by omega), show k - (j + 1) = i by omega, show k - j = i + 1 by omega, dg_succ, dg_succ]
    have e4 : (1 : Nat) / q = 0 := Nat.div_eq_of_lt (by omega)
    have e5 : (u * q + c) / q = u := by
      rw [Nat.mul_comm, Nat.mul_add_div (by omega), Nat.div_eq_of_lt hc, Nat.add_zero]
    rw [e4, e5, dg_zero, Nat.mul_zero, Nat.add_zero, Nat.mod_eq_of_lt (dg_lt h2)]
def offD (mi mi1 : Nat → Nat → Int32) : Prop := (∀ o, o ≠ 154 → mi1 o = mi o) ∧ ∀ k, k ≠ 9 → k ≠ 10 → mi1 154 k = mi 154 k
theorem offD.refl (mi : Nat → Nat → Int32) : offD mi mi := ⟨fun _ _ => rfl, fun _ _ _ => rfl⟩
theorem offD.trans {a b c : Nat → Nat → Int32} (h : offD a b) (h1 : offD b c) : offD a c := ⟨fun o ho => by rw [h1.1 o ho, h.1 o ho], fun k k1 k2 => by rw [h1.2 k k1 k2, h.2 k k1 k2]⟩
theorem Mq.off {q : Nat} {mi mi1 : Nat → Nat → Int32} (h : Mq q mi) (ho : mi1 155 = mi 155) : Mq q mi1 := ⟨h.1, by rw [ho]; exact h.2⟩
theorem Mq.offD {q : Nat} {mi mi1 : Nat → Nat → Int32} (h : Mq q mi) (ho : offD mi mi1) : Mq q mi1 := h.off (ho.1 155 (by omega))
def lfi (q x : Nat) : Nat → Nat → Option Nat
  | 0, _ => none
  | r + 1, v => if rst q x v = 0 then some v else lfi q x r (v + 1)
def lfo (q x : Nat) : Nat → Nat → Nat
  | 0, _ => x
  | r + 1, e => if ln q 13 x - 1 < 2 * e then x else match lfi q x (q ^ e) (q ^ e) with
    | some v => v
    | none => lfo q x r (e + 1)
/-- the least monic factor -/
def lft (q x : Nat) : Nat := lfo q x 6 1
section MP3
variable {G : GC} {e q : Nat} {mi : Nat → Nat → Int32} {ml : Nat → Nat → Int64}
theorem fst_ln {q b : Nat} (h0 : 0 < ln q 13 b) : dg q b (ln q 13 b - 1) = fst q b := by
  obtain ⟨k, hk⟩ : ∃ k, ln q 13 b = k + 1 := ⟨ln q 13 b - 1, by omega⟩
  rw [hk, Nat.add_sub_cancel, fst_top hk]
theorem m_divide_loop (mi0 : Nat → Nat → Int32) (h0 : Mq q mi0) {b : Nat} (hb : b < q ^ 13) (hb0 : 0 < b) {K : (Nat → Nat → Int32) → (Nat → Nat → Int64) → Prop} {R Q : Nat}
    (hK : ∀ mi1, offD mi0 mi1 → mi1 154 10 = nI R → mi1 154 9 = nI Q → K mi1 ml) :
    ∀ (n a w : Nat) (mi : Nat → Nat → Int32), ln q 13 a ≤ n → a < q ^ 13 → w < q ^ 13 → (ln q 13 b ≤ ln q 13 a → (∃ u, w = u * q ^ (ln q 13 a + 1 - ln q 13 b)) ∧ w + q ^ (ln q 13 a + 1 - ln q 13 b) ≤ q ^ 13) → offD mi0 mi → mi 154 10 = nI a → mi 154 9 = nI w →
      rs q b (iv q (fst q b)) (ln q 13 b) (ln q 13 a) a = R → qs q b (iv q (fst q b)) (ln q 13 b) (ln q 13 a) a w = Q →
      wp G e tM m_X10_divide 28 [(0, .ref 154), (2, .int (nI b)), (3, .int (nI (ln q 13 b - 1))), (4, .int (nI (iv q (fst q b))))] [] (mi, ml, RX RM) (QV K) := by
  have h2 := h0.two
  have h31 := pow_lt31 (M := 13) h0.1 (Nat.le_refl _)
  have hlb := ln_pos hb hb0
  have hlb13 := ln_le q 13 b
  have hfl := fst_lt h2.1 b
  have hfp := fst_pos h2.1 hb hb0
  have hiv := iv_lt h0.1 hfl
  intro n
  induction n with
  | zero =>
    intro a w mi hn ha hw hu ho h10 h9 hR hQ
    have ha0 : a = 0 := (ln_zero_iff h2.1 ha).mp (by omega)
    subst ha0
    rw [ln_zero h2.1] at hR hQ
    apply b_X10_divide_28
    rw [h10]
    simp (disch := omega) only [s_le, s_lt, s_eq, s_eq0, s_in, s_ix, s_rm, s_div, s_pdlt, s_pdle, s_lepd, s_pdpd, s_pdlepd, s_pdadd, nI_add, pk_mul, pd_succ, Nat.not_lt_zero, Nat.zero_lt_succ, not_false_eq_true, not_true_eq_false, false_implies, true_implies, implies_true, and_true, true_and, Nat.reduceLT, Nat.reduceLeDiff, Nat.reduceAdd, Nat.reduceSub, Nat.zero_add, Nat.add_zero]
    exact hK mi ho (by rw [h10]; exact congrArg nI hR) (by rw [h9]; exact congrArg nI hQ)
  | succ n ih =>
    intro a w mi hn ha hw hu ho h10 h9 hR hQ
    have hM := h0.offD ho
    apply b_X10_divide_28
    rw [h10]
    simp (disch := omega) only [s_le, s_lt, s_eq, s_eq0, s_in, s_ix, s_rm, s_div, s_pdlt, s_pdle, s_lepd, s_pdpd, s_pdlepd, s_pdadd, nI_add, pk_mul, pd_succ, Nat.not_lt_zero, Nat.zero_lt_succ, not_false_eq_true, not_true_eq_false, false_implies, true_implies, implies_true, and_true, true_and, Nat.reduceLT, Nat.reduceLeDiff, Nat.reduceAdd, Nat.reduceSub, Nat.zero_add, Nat.add_zero]
    refine ⟨fun z => ?_, fun z => m_degree hM ha ?_⟩
    · have ha0 : a = 0 := by omega
      subst ha0
      rw [ln_zero h2.1] at hR hQ
      exact hK mi ho (by rw [h10]; exact congrArg nI hR) (by rw [h9]; exact congrArg nI hQ)
    have hla := ln_pos ha (by omega)
    have hla13 := ln_le q 13 a
    obtain ⟨k, hk⟩ : ∃ k, ln q 13 a = k + 1 := ⟨ln q 13 a - 1, by omega⟩
    obtain ⟨l, hl⟩ : ∃ l, ln q 13 b = l + 1 := ⟨ln q 13 b - 1, by omega⟩
    rw [hk] at hR hQ hu ⊢
    rw [hl] at hR hQ hu ih ⊢
    rw [Nat.add_sub_cancel] at ih
    rw [Nat.add_sub_cancel, Nat.add_sub_cancel]
    simp (disch := omega) only [s_le, s_lt, s_eq, s_eq0, s_in, s_ix, s_rm, s_div, s_pdlt, s_pdle, s_lepd, s_pdpd, s_pdlepd, s_pdadd, nI_add, pk_mul, pd_succ, Nat.not_lt_zero, Nat.zero_lt_succ, not_false_eq_true, not_true_eq_false, false_implies, true_implies, implies_true, and_true, true_and, Nat.reduceLT, Nat.reduceLeDiff, Nat.reduceAdd, Nat.reduceSub, Nat.zero_add, Nat.add_zero]
    refine ⟨fun z2 => ?_, fun z2 => ?_⟩
    · unfold rs at hR
      rw [if_pos (by omega)] at hR
      unfold qs at hQ
      rw [if_pos (by omega)] at hQ
      exact hK mi ho (by rw [h10, hR]) (by rw [h9, hQ])
    · unfold rs at hR
      rw [if_neg (by omega)] at hR
      unfold qs at hQ
      rw [if_neg (by omega)] at hQ
      have ekl : k + 1 - (l + 1) = k - l := by omega
      have ekl2 : k + 1 + 1 - (l + 1) = k - l + 1 := by omega
      rw [ekl] at hR hQ
      rw [ekl2] at hu
      have hu := hu (by omega)
      rw [h10]
      refine m_degree hM ha ?_
      rw [h10]
      refine m_degree hM ha ?_
      rw [hk, Nat.add_sub_cancel]
      refine m_figure hM ha (by omega) ?_
      have hdg := dg_lt (n := a) (k := k) h2.1
      have hmul := mul_small hdg hiv h2.2
      have hc : dg q a k * iv q (fst q b) % q < q := mod_q_lt h2.1 _
      have hM2 := hM.2
      rw [s_sub (by omega)]
      simp (disch := omega) only [s_le, s_lt, s_eq, s_eq0, s_in, s_ix, s_rm, s_div, s_pdlt, s_pdle, s_lepd, s_pdpd, s_pdlepd, s_pdadd, nI_add, pk_mul, pd_succ, Nat.not_lt_zero, Nat.zero_lt_succ, not_false_eq_true, not_true_eq_false, false_implies, true_implies, implies_true, and_true, true_and, Nat.reduceLT, Nat.reduceLeDiff, Nat.reduceAdd, Nat.reduceSub, Nat.zero_add, Nat.add_zero, hM2]
      refine ⟨by omega, m_power hM (by omega) ?_⟩
      have hpk : q ^ (k - l) < q ^ 13 := Nat.pow_lt_pow_right (by omega) (by omega)
      rw [h9]
      refine m_sumOf hM hw hpk (Nat.le_of_lt hc) ?_
      have hbs : b * q ^ (k - l) < q ^ (k + 1) := by
        have e1 : b * q ^ (k - l) < q ^ (l + 1) * q ^ (k - l) := Nat.mul_lt_mul_of_pos_right (by rw [← hl]; exact ln_lt hb) (Nat.pow_pos (by omega))
        rw [← Nat.pow_add, show l + 1 + (k - l) = k + 1 by omega] at e1
        exact e1
      have hbs13 : b * q ^ (k - l) < q ^ 13 := Nat.lt_of_lt_of_le hbs (Nat.pow_le_pow_right (by omega) (by omega))
      have hM3 : ∀ v, Mq q (u2 mi 154 9 v) := fun v => hM.off (u2_off (by omega))
      refine m_shifted (hM3 _) (by omega) ?_
      rw [u2_off (show 155 ≠ 154 by omega), u2_ne (show 10 ≠ 9 by omega), h10, hM2, s_sub (Nat.le_of_lt hc)]
      refine m_sumOf (hM3 _) ha hbs13 (by omega) ?_
      have ea : cmb q (q - dg q a k * iv q (fst q b) % q) 13 a (b * q ^ (k - l)) = cmb q ((q - dg q a k * iv q (fst q b) % q) % q) 13 a (b * q ^ (k - l)) := (cmb_mod h2.1 _ _).symm
      rw [ea]
      have ew := cmb_put (w := w) (c := dg q a k * iv q (fst q b) % q) (j := k - l) h2.1 hc (by omega) hu.1 hu.2
      rw [ew]
      have hsm : cmb q ((q - dg q a k * iv q (fst q b) % q) % q) 13 a (b * q ^ (k - l)) < q ^ k := by
        have h3 := ln_lt ha
        rw [hk] at h3
        refine lt_dg h2.1 (n := k + 1) (cmb_small h2.1 h3 hbs) (fun j hj1 hj2 => ?_)
        have hjk : j = k := by omega
        subst hjk
        rw [cmb_dg _ h2.1, if_pos (by omega), dg_mul h2.1 _ _ _ (by omega)]
        have e1 : j - (j - l) = l := by omega
        have e2 : dg q b l = fst q b := (fst_top hl).symm
        rw [e1, e2]
        exact top_gone h0.1 hdg hfl hiv (iv_mul h0.1 hfl (by omega))
      obtain ⟨i1, i2⟩ := rs_eq (b := b) (t := iv q (fst q b)) (lb := l + 1) h2.1 k _ (by omega) hsm
      rw [i1] at hR
      rw [i2] at hQ
      have hlt2 := ln_le_lt (m := 13) h2.1 hsm
      refine ih _ _ _ (by omega) (cmb_lt _ h2.1 13 _ _) ?_ (fun hle => ?_) ⟨fun o oo => by rw [u2_off oo, u2_off oo]; exact ho.1 o oo, fun j j9 j10 => by rw [u2_ne j10, u2_ne j9]; exact ho.2 j j9 j10⟩ u2_at (by rw [u2_ne (by omega), u2_at]) hR hQ
      · rw [← ew]
        exact cmb_lt _ h2.1 13 _ _
      · obtain ⟨⟨u, hu1⟩, hu2⟩ := hu
        obtain ⟨j, hj⟩ : ∃ j, k - l = j + (ln q 13 (cmb q ((q - dg q a k * iv q (fst q b) % q) % q) 13 a (b * q ^ (k - l))) + 1 - (l + 1)) := ⟨k - l - (ln q 13 (cmb q ((q - dg q a k * iv q (fst q b) % q) % q) 13 a (b * q ^ (k - l))) + 1 - (l + 1)), by omega⟩
        generalize ln q 13 (cmb q ((q - dg q a k * iv q (fst q b) % q) % q) 13 a (b * q ^ (k - l))) + 1 - (l + 1) = z9 at hj
        have e1 : w + dg q a k * iv q (fst q b) % q * q ^ (k - l) = (u * q + dg q a k * iv q (fst q b) % q) * q ^ (k - l) := by
          rw [hu1, Nat.add_mul, Nat.pow_succ]
          ac_rfl
        refine ⟨⟨(u * q + dg q a k * iv q (fst q b) % q) * q ^ j, ?_⟩, ?_⟩
        · rw [e1, hj, Nat.pow_add]
          ac_rfl
        · have e2 : q ^ z9 ≤ q ^ (k - l) := Nat.pow_le_pow_right (by omega) (by omega)
          have e3 : (dg q a k * iv q (fst q b) % q + 1) * q ^ (k - l) ≤ q * q ^ (k - l) := Nat.mul_le_mul_right _ (by omega)
          rw [Nat.add_mul, Nat.one_mul] at e3
          rw [Nat.pow_succ, Nat.mul_comm] at hu2
          omega
theorem m_divide (h : Mq q mi) {a b : Nat} (ha : a < q ^ 13) (hb : b < q ^ 13) (hb0 : 0 < b) {K : (Nat → Nat → Int32) → (Nat → Nat → Int64) → Prop}
    (hK : ∀ mi1, offD mi mi1 → mi1 154 10 = nI (rst q a b) → mi1 154 9 = nI (quo q a b) → K mi1 ml) : wpV G e 168 m_X10_divide [.ref 154, .int (nI a), .int (nI b)] (mi, ml, RX RM) K := by
  have h2 := h.two
  have hlb := ln_pos hb hb0
  have hla := ln_le q 13 a
  have hM : Mq q (u2 (u2 mi 154 9 (nI 0)) 154 10 (nI a)) := h.off (by rw [u2_off (by omega), u2_off (by omega)])
  apply e_X10_divide
  refine m_degree hM hb (m_figure hM hb (by have := ln_le q 13 b; omega) ?_)
  rw [fst_ln hlb]
  refine m_unit hM (fst_lt h2.1 b) (by have := fst_pos h2.1 hb hb0; omega) ?_
  refine m_divide_loop mi h hb hb0 hK 13 a 0 _ hla ha (Nat.pow_pos (by omega)) (fun _ => ⟨⟨0, by rw [Nat.zero_mul]⟩, ?_⟩) ⟨fun o oo => by rw [u2_off oo, u2_off oo], fun j j9 j10 => by rw [u2_ne j10, u2_ne j9]⟩ u2_at (by rw [u2_ne (by omega), u2_at]) rfl rfl
  rw [Nat.zero_add]
  exact Nat.pow_le_pow_right (by omega) (by omega)
variable {K : Int32 → (Nat → Nat → Int32) → (Nat → Nat → Int64) → Prop}
theorem m_rest (h : Mq q mi) {a b : Nat} (ha : a < q ^ 13) (hb : b < q ^ 13) (hb0 : 0 < b) (hK : ∀ mi1, offD mi mi1 → K (nI (rst q a b)) mi1 ml) : wpI G e 168 m_X10_rest [.ref 154, .int (nI a), .int (nI b)] (mi, ml, RX RM) K := by
  apply e_X10_rest
  refine m_divide h ha hb hb0 (fun mi1 ho h10 h9 => ?_)
  rw [h10]
  exact hK mi1 ho
theorem m_by (h : Mq q mi) {a b : Nat} (ha : a < q ^ 13) (hb : b < q ^ 13) (hb0 : 0 < b) (hK : ∀ mi1, offD mi mi1 → K (nI (quo q a b)) mi1 ml) : wpI G e 168 m_X10_by [.ref 154, .int (nI a), .int (nI b)] (mi, ml, RX RM) K := by
  apply e_X10_by
  refine m_divide h ha hb hb0 (fun mi1 ho h10 h9 => ?_)
  rw [h9]
  exact hK mi1 ho
theorem m_monic (h : Mq q mi) {a : Nat} (ha : a < q ^ 13) (hK : K (nI (mon q a)) mi ml) : wpI G e 168 m_X10_monic [.ref 154, .int (nI a)] (mi, ml, RX RM) K := by
  have h2 := h.two
  have h31 := pow_lt31 (M := 13) h.1 (Nat.le_refl _)
  have hla := ln_le q 13 a
  apply e_X10_monic
  simp (disch := omega) only [s_le, s_lt, s_eq, s_eq0, s_in, s_ix, s_rm, s_div, s_pdlt, s_pdle, s_lepd, s_pdpd, s_pdlepd, s_pdadd, nI_add, pk_mul, pd_succ, Nat.not_lt_zero, Nat.zero_lt_succ, not_false_eq_true, not_true_eq_false, false_implies, true_implies, implies_true, and_true, true_and, Nat.reduceLT, Nat.reduceLeDiff, Nat.reduceAdd, Nat.reduceSub, Nat.zero_add, Nat.add_zero]
  refine ⟨fun z => m_degree h ha (m_figure h ha (by omega) ?_), fun z => ?_⟩
  · have hl := ln_pos ha (by omega)
    rw [fst_ln hl]
    refine m_unit h (fst_lt h2.1 a) (by have := fst_pos h2.1 ha (by omega); omega) ?_
    exact m_sumOf h (Nat.pow_pos (by omega)) ha (Nat.le_of_lt (iv_lt h.1 (fst_lt h2.1 a))) hK
  · have e0 : mon q a = 0 := by
      rw [z]
      unfold mon
      exact cmb_zero _ h2.1 13
    rw [e0] at hK
    exact hK
theorem rst_ln {a b : Nat} (hq : q = 2 ∨ q = 3 ∨ q = 5) (ha : a < q ^ 13) (hb : b < q ^ 13) (h0 : 0 < b) : ln q 13 (rst q a b) < ln q 13 b := by
  have h2 : 2 ≤ q := by omega
  have h1 := rst_small hq ha hb h0
  have h3 := ln_le_lt (m := 13) h2 h1
  have := ln_pos hb h0
  omega
theorem m_common_loop (mi0 : Nat → Nat → Int32) (h0 : Mq q mi0) : ∀ (n a b : Nat) (mi : Nat → Nat → Int32), ln q 13 b < n → a < q ^ 13 → b < q ^ 13 → offD mi0 mi → (∀ mi1, offD mi0 mi1 → K (nI (gcl q n a b)) mi1 ml) → wp G e tM m_X10_common 5 [(0, .ref 154), (3, .int (nI a)), (4, .int (nI b))] [] (mi, ml, RX RM) (QI K) := by
  have h2 := h0.two
  have h31 := pow_lt31 (M := 13) h0.1 (Nat.le_refl _)
  intro n
  induction n with
  | zero => intro a b mi hn; omega
  | succ n ih =>
    intro a b mi hn ha hb ho hK
    have hM := h0.offD ho
    unfold gcl at hK
    apply b_X10_common_5
    simp (disch := omega) only [s_le, s_lt, s_eq, s_eq0, s_in, s_ix, s_rm, s_div, s_pdlt, s_pdle, s_lepd, s_pdpd, s_pdlepd, s_pdadd, nI_add, pk_mul, pd_succ, Nat.not_lt_zero, Nat.zero_lt_succ, not_false_eq_true, not_true_eq_false, false_implies, true_implies, implies_true, and_true, true_and, Nat.reduceLT, Nat.reduceLeDiff, Nat.reduceAdd, Nat.reduceSub, Nat.zero_add, Nat.add_zero]
    refine ⟨fun z => ?_, fun z => ?_⟩
    · rw [if_pos (by omega)] at hK
      exact m_monic hM ha (hK mi ho)
    · rw [if_neg (by omega)] at hK
      refine m_rest hM ha hb (by omega) (fun mi1 ho1 => ?_)
      have := rst_ln h0.1 ha hb (by omega)
      exact ih b _ mi1 (by omega) hb (rst_lt h2.1 ha) (ho.trans ho1) hK
theorem m_common (h : Mq q mi) {a b : Nat} (ha : a < q ^ 13) (hb : b < q ^ 13) (hK : ∀ mi1, offD mi mi1 → K (nI (gcn q a b)) mi1 ml) : wpI G e 168 m_X10_common [.ref 154, .int (nI a), .int (nI b)] (mi, ml, RX RM) K := by
  have := ln_le q 13 b
  apply e_X10_common
  exact m_common_loop mi h 26 a b mi (by omega) ha hb (offD.refl mi) hK
theorem m_lfi_loop (mi0 : Nat → Nat → Int32) (h0 : Mq q mi0) {x nn ee : Nat} (hx : x < q ^ 13) (he : ee ≤ 12) (h1 : 1 ≤ ee) : ∀ (r v : Nat) (mi : Nat → Nat → Int32), r + v = 2 * q ^ ee → q ^ ee ≤ v → offD mi0 mi →
    (∀ mi1 v1, offD mi0 mi1 → lfi q x r v = some v1 → K (nI v1) mi1 ml) → (∀ mi1, offD mi0 mi1 → lfi q x r v = none → wp G e tM m_X10_leastFactor 16 [(0, .ref 154), (1, .int (nI x)), (2, .int (nI nn)), (3, .int (nI (q ^ (ee + 1)))), (4, .int (nI (ee + 1)))] [] (mi1, ml, RX RM) (QI K)) →
    wp G e tM m_X10_leastFactor 27 [(0, .ref 154), (1, .int (nI x)), (2, .int (nI nn)), (3, .int (nI (q ^ ee))), (4, .int (nI ee)), (5, .int (nI v))] [] (mi, ml, RX RM) (QI K) := by
  have h2 := h0.two
  have h31 := pow_lt31 (M := 13) h0.1 (Nat.le_refl _)
  have hp : q ^ ee * 2 ≤ q ^ ee * q := Nat.mul_le_mul_left _ h2.1
  have hp2 : q ^ ee * q ≤ q ^ 13 := by rw [← Nat.pow_succ]; exact Nat.pow_le_pow_right (by omega) (by omega)
  have hp0 : 0 < q ^ ee := Nat.pow_pos (by omega)
  intro r
  induction r with
  | zero =>
    intro v mi hr hv ho hs hn
    have hM := (h0.offD ho).2
    have := hn mi ho rfl
    rw [Nat.pow_succ] at this
    apply b_X10_leastFactor_27
    simp (disch := omega) only [s_le, s_lt, s_eq, s_eq0, s_in, s_ix, s_rm, s_div, s_pdlt, s_pdle, s_lepd, s_pdpd, s_pdlepd, s_pdadd, nI_add, pk_mul, pd_succ, Nat.not_lt_zero, Nat.zero_lt_succ, not_false_eq_true, not_true_eq_false, false_implies, true_implies, implies_true, and_true, true_and, Nat.reduceLT, Nat.reduceLeDiff, Nat.reduceAdd, Nat.reduceSub, Nat.zero_add, Nat.add_zero, hM]
    exact ⟨fun _ => this, fun z => absurd (show 2 * q ^ ee ≤ v by omega) z⟩
  | succ r ih =>
    intro v mi hr hv ho hs hn
    have hM := h0.offD ho
    unfold lfi at hs hn
    apply b_X10_leastFactor_27
    simp (disch := omega) only [s_le, s_lt, s_eq, s_eq0, s_in, s_ix, s_rm, s_div, s_pdlt, s_pdle, s_lepd, s_pdpd, s_pdlepd, s_pdadd, nI_add, pk_mul, pd_succ, Nat.not_lt_zero, Nat.zero_lt_succ, not_false_eq_true, not_true_eq_false, false_implies, true_implies, implies_true, and_true, true_and, Nat.reduceLT, Nat.reduceLeDiff, Nat.reduceAdd, Nat.reduceSub, Nat.zero_add, Nat.add_zero]
    refine ⟨fun z => absurd z (by omega), fun _ => ?_⟩
    have hr13 := rst_lt (b := v) h2.1 hx
    refine m_rest hM hx (by omega) (by omega) (fun mi1 ho1 => ?_)
    simp (disch := omega) only [s_le, s_lt, s_eq, s_eq0, s_in, s_ix, s_rm, s_div, s_pdlt, s_pdle, s_lepd, s_pdpd, s_pdlepd, s_pdadd, nI_add, pk_mul, pd_succ, Nat.not_lt_zero, Nat.zero_lt_succ, not_false_eq_true, not_true_eq_false, false_implies, true_implies, implies_true, and_true, true_and, Nat.reduceLT, Nat.reduceLeDiff, Nat.reduceAdd, Nat.reduceSub, Nat.zero_add, Nat.add_zero]
    refine ⟨fun z => ?_, fun z => ?_⟩
    · rw [if_neg z] at hn
      refine ih (v + 1) mi1 (by omega) (by omega) (ho.trans ho1) (fun mi2 v1 a b => hs mi2 v1 a (by rw [if_neg z]; exact b)) hn
    · exact hs mi1 v (ho.trans ho1) (by rw [if_pos z])
theorem m_lfo_loop (mi0 : Nat → Nat → Int32) (h0 : Mq q mi0) {x : Nat} (hx : x < q ^ 13) : ∀ (r ee : Nat) (mi : Nat → Nat → Int32), r + ee = 7 → 1 ≤ ee → offD mi0 mi → (∀ mi1, offD mi0 mi1 → K (nI (lfo q x r ee)) mi1 ml) →
    wp G e tM m_X10_leastFactor 16 [(0, .ref 154), (1, .int (nI x)), (2, .int (nI (ln q 13 x - 1))), (3, .int (nI (q ^ ee))), (4, .int (nI ee))] [] (mi, ml, RX RM) (QI K) := by
  have h2 := h0.two
  have hl := ln_le q 13 x
  intro r
  induction r with
  | zero =>
    intro ee mi hr h1 ho hK
    apply b_X10_leastFactor_16
    simp (disch := omega) only [s_le, s_lt, s_eq, s_eq0, s_in, s_ix, s_rm, s_div, s_pdlt, s_pdle, s_lepd, s_pdpd, s_pdlepd, s_pdadd, nI_add, pk_mul, pd_succ, Nat.not_lt_zero, Nat.zero_lt_succ, not_false_eq_true, not_true_eq_false, false_implies, true_implies, implies_true, and_true, true_and, Nat.reduceLT, Nat.reduceLeDiff, Nat.reduceAdd, Nat.reduceSub, Nat.zero_add, Nat.add_zero]
    exact ⟨fun _ => hK mi ho, fun z => absurd (show ln q 13 x - 1 < 2 * ee by omega) z⟩
  | succ r ih =>
    intro ee mi hr h1 ho hK
    unfold lfo at hK
    apply b_X10_leastFactor_16
    simp (disch := omega) only [s_le, s_lt, s_eq, s_eq0, s_in, s_ix, s_rm, s_div, s_pdlt, s_pdle, s_lepd, s_pdpd, s_pdlepd, s_pdadd, nI_add, pk_mul, pd_succ, Nat.not_lt_zero, Nat.zero_lt_succ, not_false_eq_true, not_true_eq_false, false_implies, true_implies, implies_true, and_true, true_and, Nat.reduceLT, Nat.reduceLeDiff, Nat.reduceAdd, Nat.reduceSub, Nat.zero_add, Nat.add_zero]
    refine ⟨fun z => ?_, fun z => ?_⟩
    · rw [if_pos z] at hK
      exact hK mi ho
    · rw [if_neg z] at hK
      refine m_lfi_loop mi0 h0 hx (by omega) h1 (q ^ ee) (q ^ ee) mi (by omega) (Nat.le_refl _) ho (fun mi1 v1 ho1 hv1 => ?_) (fun mi1 ho1 hv1 => ?_)
      · rw [hv1] at hK
        exact hK mi1 ho1
      · rw [hv1] at hK
        exact ih (ee + 1) mi1 (by omega) (by omega) ho1 hK
theorem m_leastFactor (h : Mq q mi) {x : Nat} (hx : x < q ^ 13) (hK : ∀ mi1, offD mi mi1 → K (nI (lft q x)) mi1 ml) : wpI G e 168 m_X10_leastFactor [.ref 154, .int (nI x)] (mi, ml, RX RM) K := by
  apply e_X10_leastFactor
  refine m_degree h hx ?_
  have hM := h.2
  simp (disch := omega) only [s_le, s_lt, s_eq, s_eq0, s_in, s_ix, s_rm, s_div, s_pdlt, s_pdle, s_lepd, s_pdpd, s_pdlepd, s_pdadd, nI_add, pk_mul, pd_succ, Nat.not_lt_zero, Nat.zero_lt_succ, not_false_eq_true, not_true_eq_false, false_implies, true_implies, implies_true, and_true, true_and, Nat.reduceLT, Nat.reduceLeDiff, Nat.reduceAdd, Nat.reduceSub, Nat.zero_add, Nat.add_zero, hM]
  have := m_lfo_loop (G := G) (e := e) (K := K) (ml := ml) mi h hx 6 1 mi rfl (Nat.le_refl 1) (offD.refl mi) hK
  rw [Nat.pow_one] at this
  exact this
def isPr (q x : Nat) : Bool := decide (2 ≤ ln q 13 x ∧ fst q x = 1 ∧ lft q x = x)
theorem lfo_lt (hq : q = 2 ∨ q = 3 ∨ q = 5) {x : Nat} (hx : x < q ^ 13) : ∀ r ee, r + ee ≤ 12 → lfo q x r ee < q ^ 13
  | 0, _, _ => hx
  | r + 1, ee, h => by
    have h2 : 2 ≤ q := by omega
    unfold lfo
    split
    · exact hx
    have hin : ∀ r v v1, r + v ≤ q ^ 13 → lfi q x r v = some v1 → v1 < q ^ 13 := by
      intro r
      induction r with
      | zero => intro v v1 _ h; cases h
      | succ r ih =>
        intro v v1 hv h
        unfold lfi at h
        split at h
        · have := Option.some.inj h
          omega
        · exact ih (v + 1) v1 (by omega) h
    have hp : q ^ ee * 2 ≤ q ^ ee * q := Nat.mul_le_mul_left _ h2
    have hp2 : q ^ ee * q ≤ q ^ 13 := by rw [← Nat.pow_succ]; exact Nat.pow_le_pow_right (by omega) (by omega)
    split
    · next v hv => exact hin _ _ _ (by omega) hv
    · exact lfo_lt hq hx r (ee + 1) (by omega)
theorem m_isPrime (h : Mq q mi) {x : Nat} (hx : x < q ^ 13) (hK : ∀ mi1, offD mi mi1 → K (nI (if isPr q x = true then 1 else 0)) mi1 ml) : wpI G e 168 m_X10_isPrime [.ref 154, .int (nI x)] (mi, ml, RX RM) K := by
  have h2 := h.two
  have h31 := pow_lt31 (M := 13) h.1 (Nat.le_refl _)
  have hl := ln_le q 13 x
  have hiff : isPr q x = true ↔ (2 ≤ ln q 13 x ∧ fst q x = 1 ∧ lft q x = x) := decide_eq_true_iff
  have no : ¬ isPr q x = true → ∀ mi1, offD mi mi1 → isB (nI 0) ∧ K (nI 0) mi1 ml := fun z mi1 ho => by
    have := hK mi1 ho
    rw [if_neg z] at this
    exact ⟨Or.inl rfl, this⟩
  apply e_X10_isPrime
  refine m_degree h hx ?_
  simp (disch := omega) only [s_le, s_lt, s_eq, s_eq0, s_in, s_ix, s_rm, s_div, s_pdlt, s_pdle, s_lepd, s_pdpd, s_pdlepd, s_pdadd, nI_add, pk_mul, pd_succ, Nat.not_lt_zero, Nat.zero_lt_succ, not_false_eq_true, not_true_eq_false, false_implies, true_implies, implies_true, and_true, true_and, Nat.reduceLT, Nat.reduceLeDiff, Nat.reduceAdd, Nat.reduceSub, Nat.zero_add, Nat.add_zero]
  refine ⟨fun z => no (fun z2 => by have := hiff.mp z2; omega) mi (offD.refl mi), fun z => m_figure h hx (by omega) ?_⟩
  have hf := fst_lt h2.1 x
  rw [fst_ln (by omega)]
  simp (disch := omega) only [s_le, s_lt, s_eq, s_eq0, s_in, s_ix, s_rm, s_div, s_pdlt, s_pdle, s_lepd, s_pdpd, s_pdlepd, s_pdadd, nI_add, pk_mul, pd_succ, Nat.not_lt_zero, Nat.zero_lt_succ, not_false_eq_true, not_true_eq_false, false_implies, true_implies, implies_true, and_true, true_and, Nat.reduceLT, Nat.reduceLeDiff, Nat.reduceAdd, Nat.reduceSub, Nat.zero_add, Nat.add_zero]
  refine ⟨fun z2 => no (fun z3 => z2 (hiff.mp z3).2.1) mi (offD.refl mi), fun z2 => m_leastFactor h hx (fun mi1 ho1 => ?_)⟩
  have hlf := lfo_lt (x := x) h.1 hx 6 1 (by omega)
  have hlf2 : lft q x < 2 ^ 31 := by unfold lft; omega
  simp (disch := omega) only [s_le, s_lt, s_eq, s_eq0, s_in, s_ix, s_rm, s_div, s_pdlt, s_pdle, s_lepd, s_pdpd, s_pdlepd, s_pdadd, nI_add, pk_mul, pd_succ, Nat.not_lt_zero, Nat.zero_lt_succ, not_false_eq_true, not_true_eq_false, false_implies, true_implies, implies_true, and_true, true_and, Nat.reduceLT, Nat.reduceLeDiff, Nat.reduceAdd, Nat.reduceSub, Nat.zero_add, Nat.add_zero]
  refine ⟨fun z3 => no (fun z4 => z3 (hiff.mp z4).2.2) mi1 ho1, fun z3 => ⟨Or.inr rfl, ?_⟩⟩
  have := hK mi1 ho1
  rw [if_pos (hiff.mpr ⟨by omega, z2, z3⟩)] at this
  exact this
end MP3
