/-! what the numbers must tell; the reference: nought, height, about -/
def ChrOK : Prop := ∀ q m d n g0, Pw q m d n → g0 < n → chc q m d g0 = some (mch q m d g0) ∧ ln q 13 (mch q m d g0) = orb q m d g0 + 1 ∧ mch q m d g0 < q ^ (d + 1)
def PtsOK : Prop := ∀ q m d n (g : Nat → Nat) (H : TBt), Pw q m d n → (∀ k, g k < n) → HesOf q m d n g H → hes q H d d = pts q m d g
def NspOK : Prop := ∀ q m d n (g : Nat → Nat) a r, Pw q m d n → (∀ k, g k < n) → a < q ^ 13 → RkOf q d d (tb0 q (snd q m d g a)) r → d - r = nsp q m d g a
/-- what the reference writes on: its rows, tables and two numbers -/
def offS (mi mi1 : Nat → Nat → Int32) : Prop := (∀ o, o ≠ 154 → o ≠ 161 → o ≠ 164 → o ≠ 165 → o ≠ 166 → o ≠ 167 → mi1 o = mi o) ∧ ∀ k, k ≠ 9 → k ≠ 10 → mi1 154 k = mi 154 k
theorem offS.refl (mi : Nat → Nat → Int32) : offS mi mi := ⟨fun _ _ _ _ _ _ _ => rfl, fun _ _ _ => rfl⟩
theorem offS.trans {a b c : Nat → Nat → Int32} (h : offS a b) (h1 : offS b c) : offS a c := ⟨fun o z1 z2 z3 z4 z5 z6 => by rw [h1.1 o z1 z2 z3 z4 z5 z6, h.1 o z1 z2 z3 z4 z5 z6], fun k a b => by rw [h1.2 k a b, h.2 k a b]⟩
theorem offD.toS {a b : Nat → Nat → Int32} (h : offD a b) : offS a b := ⟨fun o z _ _ _ _ _ => h.1 o z, h.2⟩
theorem offV.toS {r : Nat} {a b : Nat → Nat → Int32} (h : offV r a b) : offS a b := ⟨fun o _ z _ _ _ _ => h.1 o z, fun k _ _ => by rw [h.1 154 (by omega)]⟩
theorem off2.toS {r s : Nat} {a b : Nat → Nat → Int32} (h : off2 r s a b) : offS a b := ⟨fun o _ z _ _ _ _ => h.1 o z, fun k _ _ => by rw [h.1 154 (by omega)]⟩
theorem off3.toS {r : Nat} {a b : Nat → Nat → Int32} (h : off3 r a b) : offS a b := ⟨fun o _ z _ _ _ _ => h.1 o z, fun k _ _ => by rw [h.1 154 (by omega)]⟩
theorem offC.toS {a b : Nat → Nat → Int32} (h : offC a b) : offS a b := ⟨fun o _ _ z _ _ _ => h o z, fun k _ _ => by rw [h 154 (by omega)]⟩
theorem offB.toS {a b : Nat → Nat → Int32} (h : offB a b) : offS a b := ⟨fun o _ _ _ z _ _ => h o z, fun k _ _ => by rw [h 154 (by omega)]⟩
theorem offF.toS {a b : Nat → Nat → Int32} (h : offF a b) : offS a b := ⟨fun o _ _ _ z z2 _ => h o z z2, fun k _ _ => by rw [h 154 (by omega) (by omega)]⟩
theorem offS.w {a b : Nat → Nat → Int32} (h : ∀ o, o ≠ 161 → b o = a o) : offS a b := ⟨fun o _ z _ _ _ _ => h o z, fun k _ _ => by rw [h 154 (by omega)]⟩
section OFS
variable {G : GC} {e n q m d : Nat} {mi mi1 : Nat → Nat → Int32} {A : Ast} {c : Nat}
theorem Mw.offS (h : Mw q m d n mi) (ho : offS mi mi1) : Mw q m d n mi1 := h.off (by rw [ho.1 155 (by omega) (by omega) (by omega) (by omega) (by omega) (by omega)]; exact ⟨rfl, rfl⟩) ⟨ho.2 3 (by omega) (by omega), ho.2 4 (by omega) (by omega)⟩ (ho.1 158 (by omega) (by omega) (by omega) (by omega) (by omega) (by omega)) (ho.1 159 (by omega) (by omega) (by omega) (by omega) (by omega) (by omega)) (ho.1 160 (by omega) (by omega) (by omega) (by omega) (by omega) (by omega))
theorem Ma.offS (hc : c = 155 ∨ c = 156) (h : Ma c A mi) (ho : offS mi mi1) : Ma c A mi1 := h.off (ho.1 c (by omega) (by omega) (by omega) (by omega) (by omega) (by omega))
end OFS
/-- a module's row -/
def Rmo (n : Nat) (g : Nat → Nat) : Prop := (∀ k, g k < n) ∧ (∀ k, 4 ≤ k → g k = 0) ∧ 2 ≤ rl g 25
theorem Rmo.rl4 {n : Nat} {g : Nat → Nat} (h : Rmo n g) : rl g 25 = rl g 4 := rl_ext (by omega) h.2.1
section TRY
variable {n q m d : Nat}
theorem trl_yes (hp : Pw q m d n) {g : Nat → Nat} {a D : Nat} (hg : ∀ i, g i < n) (hg0 : ∀ i, 25 ≤ i → g i = 0) (hD : rl g 25 = D + 1) (hD1 : 1 ≤ D) : ∀ (k j : Nat) (f : Nat → Nat), (∀ i, f i < n) → (∀ i, 25 ≤ i → f i = 0) → rl f 25 = j * D + 1 → (j + k) * D ≤ 24 → (trnl q m d g a k f).1 = true ∧ rl (trnl q m d g a k f).2 25 = (j + k) * D + 1 ∧ (∀ i, (trnl q m d g a k f).2 i < n) ∧ ∀ i, 25 ≤ i → (trnl q m d g a k f).2 i = 0
  | 0, j, f, hf, hf0, c1, _ => ⟨rfl, c1, hf, hf0⟩
  | k + 1, j, f, hf, hf0, c1, hbig => by
    have e1 : (j + (k + 1)) * D = j * D + D + k * D := by rw [Nat.add_mul, Nat.add_mul, Nat.one_mul]; omega
    have et : trnl q m d g a (k + 1) f = if 0 < rl f 25 ∧ 0 < rl g 25 ∧ 26 < rl f 25 + rl g 25 then (false, f) else trnl q m d g a k (trN q m d g a k f) := rfl
    rw [et, if_neg (by omega)]
    obtain ⟨t1, t2, t3⟩ := trN_rl (a := a) (k := k) hp hg hf hg0 hf0 hD hD1 c1 (by omega)
    have := trl_yes hp (a := a) hg hg0 hD hD1 k (j + 1) _ t1 t2 t3 (by rw [show j + 1 + k = j + (k + 1) by omega]; exact hbig)
    rw [show j + 1 + k = j + (k + 1) by omega] at this
    exact this
theorem trn_yes (hp : Pw q m d n) {g : Nat → Nat} {a D : Nat} (ha : a < q ^ 13) (h0 : 0 < a) (hg : ∀ i, g i < n) (hg0 : ∀ i, 25 ≤ i → g i = 0) (hD : rl g 25 = D + 1) (hD1 : 1 ≤ D) (hfit : D * (ln q 13 a - 1) ≤ 24) : (trn q m d g a).1 = true ∧ rl (trn q m d g a).2 25 = D * (ln q 13 a - 1) + 1 ∧ (∀ i, (trn q m d g a).2 i < n) ∧ ∀ i, 25 ≤ i → (trn q m d g a).2 i = 0 := by
  have w := hp.1
  have h2 := w.q2
  have hn2 := w.n2
  have hqn := q_le_n w
  obtain ⟨k, hk⟩ : ∃ k, ln q 13 a = k + 1 := ⟨ln q 13 a - 1, by have := ln_pos ha h0; omega⟩
  have hd := (dg_ln h2 ha hk).1
  rw [hk, Nat.add_sub_cancel, Nat.mul_comm] at hfit
  unfold trn
  rw [hk]
  have r0 : rl (fun _ => 0) 25 = 0 := rfl
  have et : trnl q m d g a (k + 1) (fun _ => 0) = trnl q m d g a k (trN q m d g a k (fun _ => 0)) := by
    show (if _ then _ else _) = _
    rw [if_neg (by rw [r0]; omega)]
    rfl
  rw [et]
  have hcv : ∀ i, cv q m d (fun _ => 0) g i = 0 := fun i => by
    rw [cv_top2 w (a := 0) (fun _ _ => rfl)]
    rfl
  have hdl := dg_lt (q := q) (n := a) (k := k) h2
  have e0 : trN q m d g a k (fun _ => 0) 0 = dg q a k := by
    unfold trN up1
    rw [if_pos rfl, hcv, cmb_one h2 (w.lt13 (show dg q a k < n by omega))]
  have en : ∀ i, i ≠ 0 → trN q m d g a k (fun _ => 0) i = 0 := fun i hi => by
    unfold trN up1
    rw [if_neg hi, hcv]
  have := trl_yes hp (a := a) hg hg0 hD hD1 k 0 (trN q m d g a k (fun _ => 0)) (fun i => by
    by_cases c : i = 0
    · rw [c, e0]; omega
    · rw [en i c]; omega) (fun i hi => en i (by omega)) (by rw [Nat.zero_mul]; exact rl_is (by rw [e0]; omega) (by omega) (fun i h1 _ => en i (by omega))) (by rw [Nat.zero_add]; exact hfit)
  rw [Nat.zero_add] at this
  rw [Nat.add_sub_cancel, Nat.mul_comm D k]
  exact this
end TRY
section MNT
variable {G : GC} {e n q m d : Nat} {ml : Nat → Nat → Int64} {A : Ast} {K : Int32 → (Nat → Nat → Int32) → (Nat → Nat → Int64) → Prop}
theorem m_nt_col {i j a x : Nat} {f : Nat → Nat} {mi0 : Nat → Nat → Int32} (hM0 : Mw q m d n mi0) (hj : j < d) (hx : x = f (q ^ j)) (hx1 : x < n) (hK : ∀ mi1, offB mi0 mi1 → Mtb q d (j + 1) (tb0 q f) mi1 → wp G e tM m_X10_nought 2 [(0, .ref 154), (1, .int (nI i)), (2, .int (nI a)), (3, .int (nI (j + 1)))] [] (mi1, ml, RX RM) (QI K)) : ∀ (r k : Nat) (mi : Nat → Nat → Int32), r + k = d → offB mi0 mi → (∀ a b, a < d → b < j + 1 → (b < j ∨ a < k) → mi 165 (24 * a + b) = nI (tb0 q f a b)) → wp G e tM m_X10_nought 26 [(0, .ref 154), (1, .int (nI i)), (2, .int (nI a)), (3, .int (nI j)), (4, .int (nI x)), (5, .int (nI k))] [] (mi, ml, RX RM) (QI K) := by
  have w := hM0.1.1
  have h2 := w.q2
  have hd7 := w.d7
  intro r
  induction r with
  | zero =>
    intro k mi hk ho hT
    have : k = d := by omega
    subst this
    have e4 := (hM0.offB ho).2.1.2.2.1
    have := hK mi ho ⟨by omega, by omega, fun a b ha hb => ⟨hT a b ha hb (Or.inr ha), dg_lt h2⟩⟩
    apply b_X10_nought_26
    simp (disch := omega) only [s_le, s_lt, s_eq, s_eq0, s_in, s_ix, s_rm, s_div, s_pdlt, s_pdle, s_lepd, s_pdpd, s_pdlepd, s_pdadd, nI_add, pk_mul, pd_succ, Nat.not_lt_zero, Nat.zero_lt_succ, not_false_eq_true, not_true_eq_false, false_implies, true_implies, implies_true, and_true, true_and, Nat.reduceLT, Nat.reduceLeDiff, Nat.reduceAdd, Nat.reduceSub, Nat.zero_add, Nat.add_zero, e4, Nat.le_refl]
    exact this
  | succ r ih =>
    intro k mi hk ho hT
    have hM := hM0.offB ho
    have e4 := hM.2.1.2.2.1
    have := ih (k + 1) (u2 mi 165 (24 * k + j) (nI (dg q x k))) (by omega) ho.put (fun a b ha hb hor => by
      by_cases c : a = k ∧ b = j
      · rw [c.1, c.2, u2_at, hx]
        rfl
      · rw [u2_ne (by omega)]
        exact hT a b ha hb (by omega))
    apply b_X10_nought_26
    simp (disch := omega) only [s_le, s_lt, s_eq, s_eq0, s_in, s_ix, s_rm, s_div, s_pdlt, s_pdle, s_lepd, s_pdpd, s_pdlepd, s_pdadd, nI_add, pk_mul, pd_succ, Nat.not_lt_zero, Nat.zero_lt_succ, not_false_eq_true, not_true_eq_false, false_implies, true_implies, implies_true, and_true, true_and, Nat.reduceLT, Nat.reduceLeDiff, Nat.reduceAdd, Nat.reduceSub, Nat.zero_add, Nat.add_zero, e4]
    refine ⟨fun z => absurd z (by omega), fun _ => m_figure hM.2.1.1 (w.lt13 hx1) (by omega) ?_⟩
    exact ⟨by omega, this⟩
theorem m_nought (hN : NspOK) {i a : Nat} {mi0 : Nat → Nat → Int32} (hM0 : Mw q m d n mi0) (h : Ma 155 A mi0) (hi : i < 10) (hl : ∀ k, amd A i k < n) (hz : ∀ k, 4 ≤ k → amd A i k = 0) (ha : a < q ^ 13) (hK : ∀ mi1, offB mi0 mi1 → K (nI (nsp q m d (amd A i) a)) mi1 ml) : wpI G e 168 m_X10_nought [.ref 154, .int (nI i), .int (nI a)] (mi0, ml, RX RM) K := by
  have w := hM0.1.1
  have h2 := w.q2
  have hd7 := w.d7
  have loop : ∀ (r j : Nat) (mi : Nat → Nat → Int32), r + j = d → offB mi0 mi → Mtb q d j (tb0 q (snd q m d (amd A i) a)) mi → wp G e tM m_X10_nought 2 [(0, .ref 154), (1, .int (nI i)), (2, .int (nI a)), (3, .int (nI j))] [] (mi, ml, RX RM) (QI K) := by
    intro r
    induction r with
    | zero =>
      intro j mi hj ho hT1
      have : j = d := by omega
      subst this
      have hM := hM0.offB ho
      have e4 := hM.2.1.2.2.1
      apply b_X10_nought_2
      rw [e4]
      refine ⟨fun _ => ?_, fun z => absurd ((s_le (by omega) (by omega)).mpr (Nat.le_refl _)) z⟩
      refine m_rankOf hM.2.1.1 hT1 (fun mi1 r o1 hr => ?_)
      rw [s_sub hr.1, hN q m j n (amd A i) a r hM.1 hl ha hr]
      exact hK mi1 (ho.trans o1)
    | succ r ih =>
      intro j mi hj ho hT1
      have hM := hM0.offB ho
      have e4 := hM.2.1.2.2.1
      have hqj : q ^ j < n := by
        rw [w.nq]
        exact Nat.pow_lt_pow_right (by omega) (by omega)
      apply b_X10_nought_2
      rw [e4]
      refine ⟨fun z => absurd ((s_le (by omega) (by omega)).mp z) (by omega), fun _ => ?_⟩
      refine m_power hM.2.1.1 (by omega) ?_
      refine m_acted hM (h.off (ho 155 (by omega))) hi hl hz ha hqj ?_
      rw [mac_snd w hl ha hqj]
      exact m_nt_col (f := snd q m d (amd A i) a) hM (by omega) rfl (snd_lt w hqj) (fun mi1 o1 t1 => ih (j + 1) mi1 (by omega) (ho.trans o1) t1) d 0 mi rfl (fun _ _ => rfl) (fun a b ha hb hor => (hT1.2.2 a b ha (by omega)).1)
  apply e_X10_nought
  exact loop d 0 mi0 rfl (fun _ _ => rfl) ⟨by omega, by omega, fun a b _ hb => absurd hb (by omega)⟩
theorem fns_hit (f : Nat → Nat) : ∀ r i k, i ≤ k → k < i + r → f k ≠ 0 → f (fns f r i) ≠ 0 ∧ i ≤ fns f r i ∧ fns f r i ≤ k ∧ ∀ j, i ≤ j → j < fns f r i → f j = 0
  | 0, i, k, h1, h2, _ => absurd h2 (by omega)
  | r + 1, i, k, h1, h2, hk => by
    unfold fns
    by_cases c : f i = 0
    · rw [if_pos c]
      have hne : i ≠ k := fun z => hk (by rw [← z]; exact c)
      obtain ⟨a1, a2, a3, a4⟩ := fns_hit f r (i + 1) k (by omega) (by omega) hk
      refine ⟨a1, by omega, a3, fun j b1 b2 => ?_⟩
      by_cases z : j = i
      · rw [z]; exact c
      · exact a4 j (by omega) b2
    · rw [if_neg c]
      exact ⟨c, Nat.le_refl _, h1, fun j b1 b2 => absurd b2 (by omega)⟩
theorem fns_end (f : Nat → Nat) : ∀ r i, (∀ j, i ≤ j → j < i + r → f j = 0) → fns f r i = i + r
  | 0, _, _ => rfl
  | r + 1, i, h => by
    unfold fns
    rw [if_pos (h i (Nat.le_refl _) (by omega)), fns_end f r (i + 1) (fun j h1 h2 => h j (by omega) (by omega))]
    omega
theorem m_height (hC : ChrOK) {i : Nat} {mi0 : Nat → Nat → Int32} (hM0 : Mw q m d n mi0) (h : Ma 155 A mi0) (hi : i < 10) (hl : Rmo n (amd A i)) (hK : ∀ mi1 z, offS mi0 mi1 → hgt q m d (amd A i) (mch q m d (amd A i 0)) = some z → K (nI z) mi1 ml) : wpI G e 168 m_X10_height [.ref 154, .int (nI i)] (mi0, ml, RX RM) K := by
  have w := hM0.1.1
  have h2 := w.q2
  have hd7 := w.d7
  have hn2 := hM0.two
  obtain ⟨c1, c2, c3⟩ := hC q m d n (amd A i 0) hM0.1 (hl.1 0)
  obtain ⟨o1, o2, -, -⟩ := orb_is hM0.1 (hl.1 0)
  have hc13 : mch q m d (amd A i 0) < q ^ 13 := Nat.lt_of_lt_of_le c3 (Nat.pow_le_pow_right (by omega) (by omega))
  have hc31 := pow_lt31 (M := 13) w.hq (Nat.le_refl _)
  have e1 := h.2.2.2.2.2.2.2.1 i hi 0 (by omega)
  rw [Nat.add_zero] at e1
  have hr4 := hl.rl4
  have hr4' := rl_le (amd A i) 4
  have hpos : 0 < mch q m d (amd A i 0) := by
    apply Nat.pos_of_ne_zero
    intro z
    rw [z, ln_zero h2] at c2
    omega
  have hfit : (rl (amd A i) 25 - 1) * (ln q 13 (mch q m d (amd A i 0)) - 1) ≤ 24 := by
    have : (rl (amd A i) 25 - 1) * (ln q 13 (mch q m d (amd A i 0)) - 1) ≤ 3 * 7 := Nat.mul_le_mul (by omega) (by omega)
    omega
  have h2r := hl.2.2
  obtain ⟨t1, t2, t3, t4⟩ := trn_yes hM0.1 hc13 hpos hl.1 (fun k hk => hl.2.1 k (by omega)) (D := rl (amd A i) 25 - 1) (by omega) (by omega) hfit
  have hh : hgt q m d (amd A i) (mch q m d (amd A i 0)) = some (fns (trn q m d (amd A i) (mch q m d (amd A i 0))).2 24 0 / (ln q 13 (mch q m d (amd A i 0)) - 1)) := by
    unfold hgt
    rw [if_neg (by omega), if_pos t1]
  rw [c2] at hfit
  apply e_X10_height
  simp (disch := omega) only [s_le, s_lt, s_eq, s_eq0, s_in, s_ix, s_rm, s_div, s_pdlt, s_pdle, s_lepd, s_pdpd, s_pdlepd, s_pdadd, nI_add, pk_mul, pd_succ, Nat.not_lt_zero, Nat.zero_lt_succ, not_false_eq_true, not_true_eq_false, false_implies, true_implies, implies_true, and_true, true_and, Nat.reduceLT, Nat.reduceLeDiff, Nat.reduceAdd, Nat.reduceSub, Nat.zero_add, Nat.add_zero, e1]
  refine ⟨by omega, m_characteristic hM0.1 (hl.1 0) hM0 (fun mi1 o1 => ?_)⟩
  have hM1 := hM0.offC o1
  refine m_layActs hM1 (h.off (o1 155 (by omega))) hi hl.1 hl.2.1 h2r hc13 (by omega) (by omega) (by omega) (fun _ mi2 o2 w2 => ?_) (fun z => absurd (t1.symm.trans z) (by decide))
  have hM2 := hM1.offS o2.toS
  generalize hF : (trn q m d (amd A i) (mch q m d (amd A i 0))).2 = F at *
  obtain ⟨k0, hk0⟩ : ∃ k0, rl F 25 = k0 + 1 := ⟨_, t2⟩
  have hk25 := rl_le F 25
  have hFk := rl_top hk0
  have hfi : F (fns F 24 0) ≠ 0 ∧ fns F 24 0 ≤ 24 ∧ ∀ j, j < fns F 24 0 → F j = 0 := by
    by_cases c : ∃ k, k < 24 ∧ F k ≠ 0
    · obtain ⟨k, k1, k2⟩ := c
      obtain ⟨a1, a2, a3, a4⟩ := fns_hit F 24 0 k (by omega) (by omega) k2
      exact ⟨a1, by omega, fun j hj => a4 j (by omega) hj⟩
    · have hz : ∀ j, 0 ≤ j → j < 0 + 24 → F j = 0 := fun j _ hj => Decidable.byContradiction (fun z => c ⟨j, by omega, z⟩)
      have e24 := fns_end F 24 0 hz
      have : k0 = 24 := by
        apply Decidable.byContradiction
        intro z
        exact hFk (hz k0 (by omega) (by omega))
      rw [e24, Nat.zero_add]
      exact ⟨by rw [← this]; exact hFk, by omega, fun j hj => hz j (by omega) (by omega)⟩
  have loop : ∀ (r j : Nat), r + j = fns F 24 0 → wp G e tM m_X10_height 27 [(0, .ref 154), (2, .int (nI (mch q m d (amd A i 0)))), (4, .int (nI j))] [] (mi2, ml, RX RM) (QI K) := by
    intro r
    induction r with
    | zero =>
      intro j hj
      rw [Nat.zero_add] at hj
      have ew := w2.2.1 j (by omega)
      have hFj := w2.2.2.2 j
      rw [show 25 * 1 + j = 25 + j by omega] at ew
      have hne : F j ≠ 0 := by rw [hj]; exact hfi.1
      apply b_X10_height_27
      have := hK mi2 _ (o1.toS.trans o2.toS) hh
      rw [← hj] at this
      simp (disch := omega) only [s_le, s_lt, s_eq, s_eq0, s_in, s_ix, s_rm, s_div, s_pdlt, s_pdle, s_lepd, s_pdpd, s_pdlepd, s_pdadd, nI_add, pk_mul, pd_succ, Nat.not_lt_zero, Nat.zero_lt_succ, not_false_eq_true, not_true_eq_false, false_implies, true_implies, implies_true, and_true, true_and, Nat.reduceLT, Nat.reduceLeDiff, Nat.reduceAdd, Nat.reduceSub, Nat.zero_add, Nat.add_zero, ew]
      refine ⟨by omega, fun _ => m_degree hM2.2.1.1 hc13 ?_, fun z => absurd z hne⟩
      simp (disch := omega) only [s_le, s_lt, s_eq, s_eq0, s_in, s_ix, s_rm, s_div, s_pdlt, s_pdle, s_lepd, s_pdpd, s_pdlepd, s_pdadd, nI_add, pk_mul, pd_succ, Nat.not_lt_zero, Nat.zero_lt_succ, not_false_eq_true, not_true_eq_false, false_implies, true_implies, implies_true, and_true, true_and, Nat.reduceLT, Nat.reduceLeDiff, Nat.reduceAdd, Nat.reduceSub, Nat.zero_add, Nat.add_zero]
      refine ⟨by omega, ?_⟩
      exact this
    | succ r ih =>
      intro j hj
      have ew := w2.2.1 j (by omega)
      rw [show 25 * 1 + j = 25 + j by omega] at ew
      have hz : F j = 0 := hfi.2.2 j (by omega)
      have := ih (j + 1) (by omega)
      rw [hz] at ew
      apply b_X10_height_27
      simp (disch := omega) only [s_le, s_lt, s_eq, s_eq0, s_in, s_ix, s_rm, s_div, s_pdlt, s_pdle, s_lepd, s_pdpd, s_pdlepd, s_pdadd, nI_add, pk_mul, pd_succ, Nat.not_lt_zero, Nat.zero_lt_succ, not_false_eq_true, not_true_eq_false, false_implies, true_implies, implies_true, and_true, true_and, Nat.reduceLT, Nat.reduceLeDiff, Nat.reduceAdd, Nat.reduceSub, Nat.zero_add, Nat.add_zero, ew]
      exact ⟨by omega, this⟩
  exact loop _ 0 rfl
theorem m_about (hC : ChrOK) (hP : PtsOK) {s : Cst} {mi0 : Nat → Nat → Int32} (hs : A = cN s) (hM : Mw q m d n mi0) (hq : aq (cN s) = q) (hm : am (cN s) = m) (hd : dO (cN s) = d) (h : Ma 155 A mi0) (h10 : kc (aks A) 0 (adn A) ≤ 10) (hl : ∀ i, i < kc (aks A) 0 (adn A) → Rmo n (amd A i)) {v1 v2 : Int32} (hK : ∀ mi1, offS mi0 mi1 → K (fAbout s v1 v2) mi1 ml) : wpI G e 168 m_X10_about [.ref 154, .int v1, .int v2] (mi0, ml, RX RM) K := by
  subst hs
  have hn2 := hM.two
  unfold fAbout at hK
  rw [hq, hm, hd] at hK
  apply e_X10_about
  refine m_isModule h h10 (fun i hi hv hlt => ⟨fun z => absurd z (by decide), fun _ => ?_⟩) (fun hno => ⟨fun _ => ?_, fun z => absurd rfl z⟩)
  · rw [hi] at hK
    subst hv
    have hR := hl i hlt
    obtain ⟨c1, c2, c3⟩ := hC q m d n (amd (cN s) i 0) hM.1 (hR.1 0)
    dsimp only at hK
    rw [c1] at hK
    dsimp only at hK
    have e1 := h.2.2.2.2.2.2.2.1 i (by omega) 0 (by omega)
    rw [Nat.add_zero] at e1
    refine m_isIn (a := 0) (lo := 0) (hi := 2) (by omega) (by omega) (fun a hv2 _ ha => ⟨fun _ => ?_, fun z => absurd z (by decide)⟩) (fun hno => ⟨fun z => absurd rfl z, fun _ => ?_⟩)
    · subst hv2
      refine ⟨fun z => ⟨fun z2 => ?_, fun z2 => ?_⟩, fun z => ?_⟩
      · have e2 : nI a = nI 2 := by
          have : a = 2 := by
            have h0 : a ≠ 0 := fun y => z (by rw [y])
            have h1 : a ≠ 1 := fun y => z2 (by rw [y])
            omega
          rw [this]
        refine m_points hM h (by omega) hR.1 hR.2.1 (fun mi1 H o1 hH => ?_)
        rw [hP q m d n _ H hM.1 hR.1 hH]
        have := hK mi1 o1.toS
        rw [if_neg z, if_neg z2, if_pos e2] at this
        exact this
      · refine m_height hC hM h (by omega) hR (fun mi1 y o1 hy => ?_)
        have := hK mi1 o1
        rw [if_neg z, if_pos z2] at this
        simp only [hy] at this
        exact this
      · simp (disch := omega) only [s_le, s_lt, s_eq, s_eq0, s_in, s_ix, s_rm, s_div, s_pdlt, s_pdle, s_lepd, s_pdpd, s_pdlepd, s_pdadd, nI_add, pk_mul, pd_succ, Nat.not_lt_zero, Nat.zero_lt_succ, not_false_eq_true, not_true_eq_false, false_implies, true_implies, implies_true, and_true, true_and, Nat.reduceLT, Nat.reduceLeDiff, Nat.reduceAdd, Nat.reduceSub, Nat.zero_add, Nat.add_zero, e1]
        refine ⟨by omega, m_characteristic hM.1 (hR.1 0) hM (fun mi1 o1 => ?_)⟩
        have := hK mi1 o1.toS
        rw [if_pos z] at this
        exact this
    · have := hK mi0 (offS.refl _)
      rw [if_neg (fun y => hno 0 (by omega) (by omega) y), if_neg (fun y => hno 1 (by omega) (by omega) y), if_neg (fun y => hno 2 (by omega) (by omega) y)] at this
      exact this
  · have := hK mi0 (offS.refl _)
    rw [hno] at this
    exact this
end MNT
