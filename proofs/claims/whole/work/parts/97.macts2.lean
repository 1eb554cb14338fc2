/-! the reference: layActs, acts -/
theorem trN_rl {q m d n : Nat} (hp : Pw q m d n) {g f : Nat → Nat} {a k D j : Nat} (hg : ∀ i, g i < n) (hf : ∀ i, f i < n) (hg0 : ∀ i, 25 ≤ i → g i = 0) (hf0 : ∀ i, 25 ≤ i → f i = 0) (hD : rl g 25 = D + 1) (hD1 : 1 ≤ D) (c1 : rl f 25 = j * D + 1) (hfit : j * D + D ≤ 24) :
    (∀ i, trN q m d g a k f i < n) ∧ (∀ i, 25 ≤ i → trN q m d g a k f i = 0) ∧ rl (trN q m d g a k f) 25 = (j + 1) * D + 1 := by
  have w := hp.1
  have h2 := w.q2
  have hqn := q_le_n w
  have hzg : ∀ i, D + 1 ≤ i → g i = 0 := fun i hi => by
    by_cases c : i < 25
    · exact rl_above (by omega) c
    · exact hg0 i (by omega)
  have hzf : ∀ i, rl f 25 ≤ i → f i = 0 := fun i hi => by
    by_cases c : i < 25
    · exact rl_above hi c
    · exact hf0 i (by omega)
  have hfF : f (j * D) ≠ 0 := rl_top c1
  have hgL : g D ≠ 0 := rl_top hD
  obtain ⟨l1, l2⟩ := cv_lead hp hf hg hfF hgL (fun i hi => hzf i (by omega)) (fun i hi => hzg i (by omega))
  refine ⟨fun i => ?_, fun i hi => ?_, ?_⟩
  · unfold trN up1
    split
    · exact cmb_ltn w (cv_lt w hg 0) (by have := dg_lt (q := q) (n := a) (k := k) h2; omega)
    · exact cv_lt w hg i
  · unfold trN up1
    rw [if_neg (by omega)]
    exact l2 i (by omega)
  · have e2 : (j + 1) * D = j * D + D := by rw [Nat.add_mul, Nat.one_mul]
    rw [e2]
    refine rl_is ?_ (by omega) (fun i h1 _ => ?_)
    · unfold trN up1
      rw [if_neg (by omega)]
      exact l1
    · unfold trN up1
      rw [if_neg (by omega)]
      exact l2 i (by omega)
theorem trl_no {q m d n : Nat} (hp : Pw q m d n) {g : Nat → Nat} {a D : Nat} (hg : ∀ i, g i < n) (hg0 : ∀ i, 25 ≤ i → g i = 0) (hD : rl g 25 = D + 1) (hD1 : 1 ≤ D) : ∀ (k j : Nat) (f : Nat → Nat), (∀ i, f i < n) → (∀ i, 25 ≤ i → f i = 0) → rl f 25 = j * D + 1 → 24 < (j + k) * D → (trnl q m d g a k f).1 = false
  | 0, j, f, _, _, c1, hbig => by
    have := rl_le f 25
    rw [Nat.add_zero] at hbig
    omega
  | k + 1, j, f, hf, hf0, c1, hbig => by
    have et : trnl q m d g a (k + 1) f = if 0 < rl f 25 ∧ 0 < rl g 25 ∧ 26 < rl f 25 + rl g 25 then (false, f) else trnl q m d g a k (trN q m d g a k f) := rfl
    rw [et]
    split
    · rfl
    · next c =>
      obtain ⟨t1, t2, t3⟩ := trN_rl (a := a) (k := k) hp hg hf hg0 hf0 hD hD1 c1 (by omega)
      exact trl_no hp hg hg0 hD hD1 k (j + 1) _ t1 t2 t3 (by rw [show j + 1 + k = j + (k + 1) by omega]; exact hbig)
theorem trn_no {q m d n : Nat} (hp : Pw q m d n) {g : Nat → Nat} {a D : Nat} (ha : a < q ^ 13) (h0 : 0 < a) (hg : ∀ i, g i < n) (hg0 : ∀ i, 25 ≤ i → g i = 0) (hD : rl g 25 = D + 1) (hD1 : 1 ≤ D) (hbig : 24 < D * (ln q 13 a - 1)) : (trn q m d g a).1 = false := by
  have w := hp.1
  have h2 := w.q2
  have hn2 := w.n2
  have hqn := q_le_n w
  obtain ⟨k, hk⟩ : ∃ k, ln q 13 a = k + 1 := ⟨ln q 13 a - 1, by have := ln_pos ha h0; omega⟩
  have hd := (dg_ln h2 ha hk).1
  rw [hk, Nat.add_sub_cancel, Nat.mul_comm] at hbig
  unfold trn
  rw [hk]
  have r0 : rl (fun _ => 0) 25 = 0 := rfl
  have et : trnl q m d g a (k + 1) (fun _ => 0) = trnl q m d g a k (trN q m d g a k (fun _ => 0)) := by
    show (if _ then _ else _) = _
    rw [if_neg (by rw [r0]; omega)]
    rfl
  rw [et]
  have hcv : ∀ i, cv q m d (fun _ => 0) g i = 0 := fun i => by
    rw [cv_top2 w (a := 0) (fun _ _ => rfl)]
    rfl
  have hdl := dg_lt (q := q) (n := a) (k := k) h2
  have e0 : trN q m d g a k (fun _ => 0) 0 = dg q a k := by
    unfold trN up1
    rw [if_pos rfl, hcv, cmb_one h2 (w.lt13 (show dg q a k < n by omega))]
  have en : ∀ i, i ≠ 0 → trN q m d g a k (fun _ => 0) i = 0 := fun i hi => by
    unfold trN up1
    rw [if_neg hi, hcv]
  refine trl_no hp hg hg0 hD hD1 k 0 _ (fun i => ?_) (fun i hi => en i (by omega)) ?_ (by rw [Nat.zero_add]; exact hbig)
  · by_cases c : i = 0
    · rw [c, e0]; omega
    · rw [en i c]; omega
  · rw [Nat.zero_mul]
    exact rl_is (by rw [e0]; omega) (by omega) (fun i h1 _ => en i (by omega))
def off3 (c : Nat) (mi mi1 : Nat → Nat → Int32) : Prop := (∀ o, o ≠ 161 → mi1 o = mi o) ∧ ∀ j, 25 ≤ j → (j < 75 ∨ 100 ≤ j) → (j < 25 * c ∨ 25 * c + 25 ≤ j) → mi1 161 j = mi 161 j
section MLB
variable {G : GC} {e n q m d : Nat} {mi : Nat → Nat → Int32} {ml : Nat → Nat → Int64} {A : Ast} {K : Int32 → (Nat → Nat → Int32) → (Nat → Nat → Int64) → Prop}
theorem m_layActs (hM : Mw q m d n mi) (h : Ma 155 A mi) {i a c : Nat} (hi : i < 10) (hl : ∀ k, amd A i k < n) (hz : ∀ k, 4 ≤ k → amd A i k = 0) (h2r : 2 ≤ rl (amd A i) 25) (ha : a < q ^ 13) (hc : c < 50) (hc0 : c ≠ 0) (hc3 : c ≠ 3)
    (hK1 : (trn q m d (amd A i) a).1 = true → ∀ mi1, off3 c mi mi1 → Wr n mi1 c (trn q m d (amd A i) a).2 → K (nI 1) mi1 ml) (hK0 : (trn q m d (amd A i) a).1 = false → ∀ mi1, off3 c mi mi1 → K (nI 0) mi1 ml) : wpI G e 168 m_X10_layActs [.ref 154, .int (nI i), .int (nI a), .int (nI c)] (mi, ml, RX RM) K := by
  have w := hM.1.1
  have h2 := w.q2
  have hn2 := hM.two
  have h31 := pow_lt31 (M := 13) hM.2.1.1.1 (Nat.le_refl _)
  have hr25 := rl_le (amd A i) 25
  obtain ⟨D, hD⟩ : ∃ D, rl (amd A i) 25 = D + 1 := ⟨rl (amd A i) 25 - 1, by omega⟩
  apply e_X10_layActs
  refine m_layModule h hi (by omega) hl hz (fun mi1 o1 w1 => m_clear (n := n) hc (by omega) (fun mi2 o2 w2 => ?_))
  have hM2 := (hM.offV o1).offV o2
  have w12 := w1.offV o2 (by omega)
  have o3 : off3 c mi mi2 := ⟨fun o ho => by rw [o2.1 o ho, o1.1 o ho], fun j j1 j2 j3 => by rw [o2.2 j j3, o1.2 j (by omega)]⟩
  have hll := ln_le q 13 a
  simp (disch := omega) only [s_le, s_lt, s_eq, s_eq0, s_in, s_ix, s_rm, s_div, s_pdlt, s_pdle, s_lepd, s_pdpd, s_pdlepd, s_pdadd, nI_add, pk_mul, pd_succ, Nat.not_lt_zero, Nat.zero_lt_succ, not_false_eq_true, not_true_eq_false, false_implies, true_implies, implies_true, and_true, true_and, Nat.reduceLT, Nat.reduceLeDiff, Nat.reduceAdd, Nat.reduceSub, Nat.zero_add, Nat.add_zero]
  refine ⟨fun z => m_degreeAt hn2.2 w12 (m_degree hM2.2.1.1 ha ?_), fun z => ⟨Or.inr rfl, ?_⟩⟩
  · rw [hD, pd_succ, pk_mul]
    have hpr : D * (ln q 13 a - 1) ≤ 25 * 13 := Nat.mul_le_mul (by omega) (by omega)
    have hlp := ln_pos ha (by omega)
    rw [s_le (by omega) (by omega)]
    refine ⟨fun z2 => m_degree hM2.2.1.1 ha ?_, fun z2 => ⟨Or.inl rfl, hK0 (trn_no hM.1 ha (by omega) hl (fun k hk => hz k (by omega)) hD (by omega) (by omega)) mi2 o3⟩⟩
    obtain ⟨k, hk⟩ : ∃ k, ln q 13 a = k + 1 := ⟨ln q 13 a - 1, by omega⟩
    have ek : nI (ln q 13 a - 1) = pd (ln q 13 a) := by rw [hk, Nat.add_sub_cancel, pd_succ]
    rw [ek]
    refine m_la_loop mi2 hM2 hc hc0 hc3 ha w12 hD (by omega) (ln q 13 a) (fun _ => 0) mi2 hll (Or.inl ⟨rfl, by rw [Nat.mul_comm]; exact z2⟩) (off2.refl c 3 mi2) w2 (fun mi3 o4 t1 w3 => hK1 t1 mi3 ⟨fun o ho => by rw [o4.1 o ho, o3.1 o ho], fun j j1 j2 j3 => by rw [o4.2 j j3 (by omega), o3.2 j j1 j2 j3]⟩ w3)
  · have e0 : a = 0 := by omega
    subst e0
    have et : trn q m d (amd A i) 0 = (true, fun _ => 0) := by
      unfold trn
      rw [ln_zero h2]
      rfl
    rw [et] at hK1
    exact hK1 rfl mi2 o3 w2
end MLB
