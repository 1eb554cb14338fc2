/-! the reference: norm -/
/-- g2 by all its turns is a figure -/
def UniOK : Prop := ∀ q m d n g2, Pw q m d n → 1 ≤ g2 → g2 < n → gul q m d g2 d 0 1 < q
section MNM
variable {q m d n : Nat}
theorem gul_pos (hp : Pw q m d n) {g2 : Nat} (h1 : 1 ≤ g2) (hg : g2 < n) : ∀ r j p, 1 ≤ p → p < n → 1 ≤ gul q m d g2 r j p
  | 0, _, _, h, _ => h
  | r + 1, j, p, h, hpn => gul_pos hp h1 hg r (j + 1) _ (mu_pos hp hpn (tu_lt hp.1 hg) h (tu_pos hp h1 hg)) (mu_lt hp.1 (tu_lt hp.1 hg))
theorem mu_fig (w : Wd q m d n) {a b : Nat} (ha : a < q) (hb : b < q) : mu q m a b = a * b % q := by
  have h2 := w.q2
  have hqn := q_le_n w
  have key := k_scal w (kt (show 0 < n by omega)) (kt (show b < n by omega)) a
  letI := kR w
  have e1 : (kt (show 0 < n by omega) + (OfNat.ofNat a : KT n) * kt (show b < n by omega)) = kt (show a < n by omega) * kt (show b < n by omega) := by
    have e2 : (OfNat.ofNat a : KT n) = kt (show a < n by omega) := by
      apply Subtype.ext
      show (rg_nat (α := KT n) _ _ _ a).1 = a
      rw [k_nat w, Nat.mod_eq_of_lt ha]
    have e3 : (kt (show 0 < n by omega) : KT n) = 0 := rfl
    rw [e2, e3]
    grind
  rw [e1] at key
  have k2 : mu q m a b = cmb q a 13 0 b := key
  rw [k2, cmb_fig h2 (by omega) hb, Nat.zero_add]
theorem rinv_fig (hp : Pw q m d n) {a : Nat} (h1 : 1 ≤ a) (ha : a < q) : rinv q m n a = iv q a := by
  have w := hp.1
  have h2 := w.q2
  have hqn := q_le_n w
  have hi := iv_lt w.hq ha
  refine inv_one w (b := a) (by omega) (rinv_lt w.pos) (by omega) (mu_rinv hp (by omega) h1) ?_
  rw [mu_fig w ha hi, iv_mul w.hq ha (by omega)]
theorem gun_fig (hp : Pw q m d n) {g2 : Nat} (h1 : 1 ≤ g2) (hg : g2 < n) (hU : gul q m d g2 d 0 1 < q) : gun q m d n g2 = iv q (gul q m d g2 d 0 1) := by
  have w := hp.1
  have hn := w.n2
  unfold gun dv
  rw [mu_1l w (rinv_lt w.pos)]
  exact rinv_fig hp (gul_pos hp h1 hg _ _ _ (Nat.le_refl _) (by omega)) hU
/-- powers of c, from e on -/
theorem gnl_mul {c L e : Nat} (h2 : 2 ≤ q) (hc : c < q ^ (L + 1)) (hL : L ≤ 12) : ∀ r j p, p < q ^ (j * L + 1) → (j + r) * L ≤ 12 → gnl q c r (cmb q e 13 0 p) = cmb q e 13 0 (gnl q c r p)
  | 0, _, _, _, _ => rfl
  | r + 1, j, p, hp, hfit => by
    have e1 : (j + (r + 1)) * L = j * L + L + r * L := by rw [Nat.add_mul, Nat.add_mul, Nat.one_mul]; omega
    have up : ∀ M, M ≤ 13 → ∀ z, z < q ^ M → z < q ^ 13 := fun M hM z hz => Nat.lt_of_lt_of_le hz (Nat.pow_le_pow_right (by omega) hM)
    have hp13 := up _ (by omega) _ hp
    have hc13 := up _ (by omega) _ hc
    have hl1 := ln_le_lt (m := 13) h2 hp
    have hl2 := ln_le_lt (m := 13) h2 hc
    have hcp : cmb q e 13 0 p < q ^ (j * L + 1) := cmb_small h2 (Nat.pow_pos (by omega)) hp
    have hl3 := ln_le_lt (m := 13) h2 hcp
    have es : prd q (cmb q e 13 0 p) c = cmb q e 13 0 (prd q p c) := by
      refine dg_ext h2 (prd_lt13 h2 (up _ (by omega) _ hcp) hc13 (by omega)) (cmb_lt _ h2 13 _ _) (fun k hk => ?_)
      rw [prd_dg h2 (up _ (by omega) _ hcp) hc13 (by omega) hk, cmb_dg _ h2, if_pos hk, prd_dg h2 hp13 hc13 (by omega) hk, dg_zero, Nat.zero_add, Nat.mul_mod_mod]
      unfold pc
      rw [← sg_mulc]
      have key : ∀ N, N ≤ k + 1 → sg (fun i => dg q (cmb q e 13 0 p) i * dg q c (k - i)) N % q = sg (fun i => e * (dg q p i * dg q c (k - i))) N % q := by
        intro N
        induction N with
        | zero => intro _; rfl
        | succ N ih =>
          intro hN
          show (sg _ N + dg q (cmb q e 13 0 p) N * dg q c (k - N)) % q = (sg _ N + e * (dg q p N * dg q c (k - N))) % q
          rw [Nat.add_mod, ih (by omega), cmb_dg _ h2, if_pos (by omega), dg_zero, Nat.zero_add, Nat.mod_mul_mod, ← Nat.add_mod, Nat.mul_assoc]
      exact key _ (Nat.le_refl _)
    show gnl q c r (prd q (cmb q e 13 0 p) c) = cmb q e 13 0 (gnl q c r (prd q p c))
    rw [es]
    have hlt : prd q p c < q ^ ((j + 1) * L + 1) := by
      have := prd_lt h2 hp hc (by omega) (by omega)
      rw [show (j + 1) * L + 1 = L + 1 - 1 + (j * L + 1) by rw [Nat.add_mul, Nat.one_mul]; omega]
      exact this
    exact gnl_mul h2 hc hL r (j + 1) _ hlt (by rw [show j + 1 + r = j + (r + 1) by omega]; exact hfit)
end MNM
section MNR
variable {G : GC} {e n q m d : Nat} {ml : Nat → Nat → Int64} {A : Ast} {K : Int32 → (Nat → Nat → Int32) → (Nat → Nat → Int64) → Prop}
theorem m_nm_all {i : Nat} {v : Nat} {mi : Nat → Nat → Int32} (hM : Mw q m d n mi) (h : Ma 155 A mi) (hi : i < 10) (hl : ∀ k, amd A i k < n) (h1 : 1 ≤ amd A i 2) (hU : gul q m d (amd A i 2) d 0 1 < q) (hv : v < q ^ 13) (hK : K (nI (cmb q (gu q m d n (amd A i 2)) 13 0 v)) mi ml) : ∀ (r j p : Nat), r + j = d → p < n → gul q m d (amd A i 2) r j p = gul q m d (amd A i 2) d 0 1 → wp G e tM m_X10_norm 55 [(0, .ref 154), (1, .int (nI i)), (3, .int (nI v)), (4, .int (nI p)), (5, .int (nI j))] [] (mi, ml, RX RM) (QI K) := by
  have w := hM.1.1
  have h2 := w.q2
  have hn := hM.two
  have hd7 := w.d7
  have hq := hM.2.1.1
  have hq2 := hq.two
  have hb := hq.2
  have e4 := hM.2.1.2.2.1
  intro r
  induction r with
  | zero =>
    intro j p hj hp he
    have : j = d := by omega
    subst this
    have he : p = gul q m j (amd A i 2) j 0 1 := he
    rw [← he] at hU
    have hp1 : p ≠ 0 := by
      have := gul_pos hM.1 h1 (hl 2) j 0 1 (Nat.le_refl _) (by omega)
      omega
    have hg : gun q m j n (amd A i 2) = iv q p := by rw [gun_fig hM.1 h1 (hl 2) (by rw [← he]; exact hU), he]
    have hil := iv_lt hq.1 hU
    unfold gu at hK
    rw [hg] at hK
    have es : nI q - nI (iv q p) = nI (q - iv q p) := s_sub (by omega)
    have hml : (q - iv q p) % q ≤ q := Nat.le_of_lt (Nat.mod_lt _ (by omega))
    apply b_X10_norm_55
    rw [e4]
    simp (disch := omega) only [s_le, s_lt, s_eq, s_eq0, s_in, s_ix, s_rm, s_div, s_pdlt, s_pdle, s_lepd, s_pdpd, s_pdlepd, s_pdadd, nI_add, pk_mul, pd_succ, Nat.not_lt_zero, Nat.zero_lt_succ, not_false_eq_true, not_true_eq_false, false_implies, true_implies, implies_true, and_true, true_and, Nat.reduceLT, Nat.reduceLeDiff, Nat.reduceAdd, Nat.reduceSub, Nat.zero_add, Nat.add_zero, Nat.le_refl]
    refine ⟨by omega, fun z => ?_, fun z => ?_⟩
    · rw [if_pos (by omega)] at hK
      refine m_unit hq hU hp1 ?_
      rw [hb, es]
      simp (disch := omega) only [s_le, s_lt, s_eq, s_eq0, s_in, s_ix, s_rm, s_div, s_pdlt, s_pdle, s_lepd, s_pdpd, s_pdlepd, s_pdadd, nI_add, pk_mul, pd_succ, Nat.not_lt_zero, Nat.zero_lt_succ, not_false_eq_true, not_true_eq_false, false_implies, true_implies, implies_true, and_true, true_and, Nat.reduceLT, Nat.reduceLeDiff, Nat.reduceAdd, Nat.reduceSub, Nat.zero_add, Nat.add_zero]
      exact ⟨by omega, m_sumOf hq (Nat.pow_pos (by omega)) hv hml hK⟩
    · rw [if_neg (by omega)] at hK
      exact m_unit hq hU hp1 (m_sumOf hq (Nat.pow_pos (by omega)) hv (by omega) hK)
  | succ r ih =>
    intro j p hj hp he
    have e2 := h.2.2.2.2.2.2.2.1 i hi 2 (by omega)
    have := ih (j + 1) (mu q m p (tu q m d (amd A i 2) j)) (by omega) (mu_lt w (tu_lt w (hl 2))) he
    apply b_X10_norm_55
    rw [e4]
    simp (disch := omega) only [s_le, s_lt, s_eq, s_eq0, s_in, s_ix, s_rm, s_div, s_pdlt, s_pdle, s_lepd, s_pdpd, s_pdlepd, s_pdadd, nI_add, pk_mul, pd_succ, Nat.not_lt_zero, Nat.zero_lt_succ, not_false_eq_true, not_true_eq_false, false_implies, true_implies, implies_true, and_true, true_and, Nat.reduceLT, Nat.reduceLeDiff, Nat.reduceAdd, Nat.reduceSub, Nat.zero_add, Nat.add_zero, e2]
    refine ⟨fun z => absurd z (by omega), fun _ => ⟨by omega, m_raise hM (hl 2) (by omega) (m_mul hM hp (tu_lt w (hl 2)) ?_)⟩⟩
    exact this
theorem m_norm (hC : ChrOK) (hU : UniOK) {i : Nat} {mi0 : Nat → Nat → Int32} (hM0 : Mw q m d n mi0) (h0 : Ma 155 A mi0) (hi : i < 10) (hl : ∀ k, amd A i k < n) (h1 : 1 ≤ amd A i 2) (hK : ∀ mi1, offC mi0 mi1 → K (nI (gno q m d n (amd A i) (mch q m d (amd A i 0)))) mi1 ml) : wpI G e 168 m_X10_norm [.ref 154, .int (nI i)] (mi0, ml, RX RM) K := by
  have w := hM0.1.1
  have h2 := w.q2
  have hd7 := w.d7
  have hn := hM0.two
  have hq2 := hM0.2.1.1.two
  obtain ⟨c1, c2, c3⟩ := hC q m d n (amd A i 0) hM0.1 (hl 0)
  obtain ⟨o1, o2, -, -⟩ := orb_is hM0.1 (hl 0)
  have hU1 := hU q m d n (amd A i 2) hM0.1 h1 (hl 2)
  have hc31 := pow_lt31 (M := 13) w.hq (Nat.le_refl _)
  generalize hcc : mch q m d (amd A i 0) = c at *
  generalize hoo : orb q m d (amd A i 0) = L at *
  have hc13 : c < q ^ 13 := Nat.lt_of_lt_of_le c3 (Nat.pow_le_pow_right (by omega) (by omega))
  have hcL : c < q ^ (L + 1) := by
    have := ln_lt (q := q) hc13
    rw [c2] at this
    exact this
  have hdL : d / L * L ≤ d := Nat.div_mul_le_self d L
  have hdl := Nat.div_le_self d L
  generalize hQ : d / L = Q at *
  have e1 := h0.2.2.2.2.2.2.2.1 i hi 0 (by omega)
  rw [Nat.add_zero] at e1
  have hgu : gu q m d n (amd A i 2) < q := by
    refine gu_lt h2 ?_
    rw [gun_fig hM0.1 h1 (hl 2) hU1]
    exact iv_lt w.hq hU1
  have hfin : cmb q (gu q m d n (amd A i 2)) 13 0 (gnl q c (Q) 1) = gno q m d n (amd A i) c := by
    have e9 : cmb q (gu q m d n (amd A i 2)) 13 0 1 = gu q m d n (amd A i 2) := by rw [cmb_fig h2 (by omega) (by omega), Nat.zero_add, Nat.mul_one, Nat.mod_eq_of_lt hgu]
    have := gnl_mul (e := gu q m d n (amd A i 2)) h2 hcL (by omega) (Q) 0 1 (by rw [Nat.zero_mul, Nat.zero_add, Nat.pow_one]; omega) (by rw [Nat.zero_add]; omega)
    rw [e9] at this
    rw [← this]
    unfold gno
    rw [if_neg (by omega), c2, Nat.add_sub_cancel, hQ]
  rw [← hfin] at hK
  have loop : ∀ (r j p : Nat) (mi : Nat → Nat → Int32), r + j = Q → offC mi0 mi → p < q ^ (j * L + 1) → gnl q c r p = gnl q c (Q) 1 → wp G e tM m_X10_norm 21 [(0, .ref 154), (1, .int (nI i)), (2, .int (nI c)), (3, .int (nI p)), (4, .int (nI j))] [] (mi, ml, RX RM) (QI K) := by
    intro r
    induction r with
    | zero =>
      intro j p mi hj ho hp he
      have hjQ : j = Q := by omega
      rw [hjQ] at hp ⊢
      have he : p = gnl q c (Q) 1 := he
      have hM := hM0.offC ho
      have e4 := hM.2.1.2.2.1
      have hp13 : p < q ^ 13 := Nat.lt_of_lt_of_le hp (Nat.pow_le_pow_right (by omega) (by omega))
      apply b_X10_norm_21
      refine m_degree hM.2.1.1 hc13 ?_
      rw [c2, Nat.add_sub_cancel, e4]
      have hQ2 : nI d / nI L = nI Q := by rw [s_div (by omega) (by omega) (by omega), hQ]
      rw [hQ2]
      simp (disch := omega) only [s_le, s_lt, s_eq, s_eq0, s_in, s_ix, s_rm, s_div, s_pdlt, s_pdle, s_lepd, s_pdpd, s_pdlepd, s_pdadd, nI_add, pk_mul, pd_succ, Nat.not_lt_zero, Nat.zero_lt_succ, not_false_eq_true, not_true_eq_false, false_implies, true_implies, implies_true, and_true, true_and, Nat.reduceLT, Nat.reduceLeDiff, Nat.reduceAdd, Nat.reduceSub, Nat.zero_add, Nat.add_zero, Nat.le_refl]
      refine ⟨by omega, ?_⟩
      exact m_nm_all hM (h0.off (ho 155 (by omega))) hi hl h1 hU1 hp13 (by rw [he]; exact hK mi ho) d 0 1 (by omega) (by omega) rfl
    | succ r ih =>
      intro j p mi hj ho hp he
      have hM := hM0.offC ho
      have e4 := hM.2.1.2.2.1
      have hj1 : (j + 1) * L ≤ Q * L := Nat.mul_le_mul_right _ (by omega)
      rw [Nat.add_mul, Nat.one_mul] at hj1
      have hp13 : p < q ^ 13 := Nat.lt_of_lt_of_le hp (Nat.pow_le_pow_right (by omega) (by omega))
      have hl1 := ln_le_lt (m := 13) h2 hp
      have hlt : prd q p c < q ^ ((j + 1) * L + 1) := by
        have := prd_lt h2 hp hcL (by omega) (by omega)
        rw [show (j + 1) * L + 1 = L + 1 - 1 + (j * L + 1) by rw [Nat.add_mul, Nat.one_mul]; omega]
        exact this
      apply b_X10_norm_21
      refine m_degree hM.2.1.1 hc13 ?_
      rw [c2, Nat.add_sub_cancel, e4]
      have hQ2 : nI d / nI L = nI Q := by rw [s_div (by omega) (by omega) (by omega), hQ]
      rw [hQ2]
      simp (disch := omega) only [s_le, s_lt, s_eq, s_eq0, s_in, s_ix, s_rm, s_div, s_pdlt, s_pdle, s_lepd, s_pdpd, s_pdlepd, s_pdadd, nI_add, pk_mul, pd_succ, Nat.not_lt_zero, Nat.zero_lt_succ, not_false_eq_true, not_true_eq_false, false_implies, true_implies, implies_true, and_true, true_and, Nat.reduceLT, Nat.reduceLeDiff, Nat.reduceAdd, Nat.reduceSub, Nat.zero_add, Nat.add_zero]
      refine ⟨by omega, fun z => absurd z (by omega), fun _ => ?_⟩
      refine m_times hM.2.1.1 hp13 hc13 ?_
      rw [tms_fit h2 hp13 (by omega)]
      exact ih (j + 1) _ mi (by omega) ho hlt he
  apply e_X10_norm
  simp (disch := omega) only [s_le, s_lt, s_eq, s_eq0, s_in, s_ix, s_rm, s_div, s_pdlt, s_pdle, s_lepd, s_pdpd, s_pdlepd, s_pdadd, nI_add, pk_mul, pd_succ, Nat.not_lt_zero, Nat.zero_lt_succ, not_false_eq_true, not_true_eq_false, false_implies, true_implies, implies_true, and_true, true_and, Nat.reduceLT, Nat.reduceLeDiff, Nat.reduceAdd, Nat.reduceSub, Nat.zero_add, Nat.add_zero, e1]
  refine ⟨by omega, m_characteristic hM0.1 (hl 0) hM0 (fun mi1 o1 => ?_)⟩
  rw [hcc]
  exact loop (Q) 0 1 mi1 rfl o1 (by rw [Nat.zero_mul, Nat.zero_add, Nat.pow_one]; omega) rfl
end MNR
