/-! the reference: ends -/
/-- x t^i -/
def mono (x i : Nat) : Nat → Nat := fun k => if k = i then x else 0
def tbe (q m d : Nat) (g : Nat → Nat) : TBt := fun r k => dg q (pdf q m d g (q ^ (k % d)) (k / d) (r / d)) (r % d)
def EndsOK : Prop := ∀ q m d n (g : Nat → Nat) e r, Pw q m d n → Rmo n g → e ≤ 2 → RkOf q ((e + 4) * d) ((e + 1) * d) (tbe q m d g) r → r ≤ (e + 1) * d ∧ q ^ ((e + 1) * d - r) = cen q m d g e
section MEN
variable {q m d n : Nat}
theorem cv_monoL (w : Wd q m d n) {g : Nat → Nat} (hg : ∀ k, g k < n) {x i : Nat} (hx : x < n) (t : Nat) : cv q m d (mono x i) g t = if i ≤ t then mu q m x (tu q m d (g (t - i)) i) else 0 := by
  have h2 := w.q2
  rw [cv_ss h2]
  by_cases c : i ≤ t
  · rw [if_pos c]
    have e1 : ct q m d (mono x i) g t i = mu q m x (tu q m d (g (t - i)) i) := by
      unfold ct mono
      rw [if_pos c, if_pos rfl]
    rw [ss_single h2 (j := i) (by rw [e1]; exact w.lt13 (mu_lt w (tu_lt w (hg _)))) (by omega) (fun j _ hj => by
      unfold ct mono
      rw [if_neg hj]
      split
      · exact mu_0l h2 _ _
      · rfl), e1]
  · rw [if_neg c]
    exact ss_none h2 (fun j hj => by
      unfold ct mono
      rw [if_neg (show ¬ j = i by omega)]
      split
      · exact mu_0l h2 _ _
      · rfl)
theorem cv_monoR (w : Wd q m d n) {g : Nat → Nat} {x i : Nat} (hx : x < n) (t : Nat) : cv q m d g (mono x i) t = if i ≤ t then mu q m (g (t - i)) (tu q m d x (t - i)) else 0 := by
  have h2 := w.q2
  rw [cv_ss h2]
  by_cases c : i ≤ t
  · rw [if_pos c]
    have e1 : ct q m d g (mono x i) t (t - i) = mu q m (g (t - i)) (tu q m d x (t - i)) := by
      unfold ct mono
      rw [if_pos (by omega), if_pos (by omega)]
    rw [ss_single h2 (j := t - i) (by rw [e1]; exact w.lt13 (mu_lt w (tu_lt w hx))) (by omega) (fun j hj1 hj => by
      unfold ct mono
      rw [if_pos (by omega), if_neg (by omega), tu_0 h2, mu_0r h2]), e1]
  · rw [if_neg c]
    exact ss_none h2 (fun j hj => by
      unfold ct mono
      rw [if_pos (by omega), if_neg (by omega), tu_0 h2, mu_0r h2])
theorem pdf_cv (w : Wd q m d n) {g : Nat → Nat} (hg : ∀ k, g k < n) {x i : Nat} (hx : x < n) (t : Nat) : pdf q m d g x i t = cmb q (q - 1) 13 (cv q m d (mono x i) g t) (cv q m d g (mono x i) t) := by
  rw [cv_monoL w hg hx, cv_monoR w hx]
  unfold pdf
  by_cases c : i ≤ t
  · rw [if_pos c, if_pos c, if_pos c]
  · rw [if_neg c, if_neg c, if_neg c, cmb_zero _ w.q2]
end MEN
section MED
variable {G : GC} {e n q m d : Nat} {ml : Nat → Nat → Int64} {A : Ast} {K : Int32 → (Nat → Nat → Int32) → (Nat → Nat → Int64) → Prop}
theorem m_powerW {mi : Nat → Nat → Int32} (h : Mq q mi) {k : Nat} (hk : k < 2 ^ 31) (hK : K (nI (q ^ k)) mi ml) : wpI G e 168 m_X10_power [.ref 154, .int (nI k)] (mi, ml, RX RM) K := by
  have loop : ∀ (r i : Nat), r + i = k → wp G e tM m_X10_power 4 [(0, .ref 154), (1, .int (nI k)), (2, .int (nI (q ^ i))), (3, .int (nI i))] [] (mi, ml, RX RM) (QI K) := by
    intro r
    induction r with
    | zero =>
      intro i hi
      have : i = k := by omega
      subst this
      apply b_X10_power_4
      simp (disch := omega) only [s_le, s_lt, s_eq, s_eq0, s_in, s_ix, s_rm, s_div, s_pdlt, s_pdle, s_lepd, s_pdpd, s_pdlepd, s_pdadd, nI_add, pk_mul, pd_succ, Nat.not_lt_zero, Nat.zero_lt_succ, not_false_eq_true, not_true_eq_false, false_implies, true_implies, implies_true, and_true, true_and, Nat.reduceLT, Nat.reduceLeDiff, Nat.reduceAdd, Nat.reduceSub, Nat.zero_add, Nat.add_zero, Nat.le_refl]
      exact hK
    | succ r ih =>
      intro i hi
      have := ih (i + 1) (by omega)
      rw [Nat.pow_succ] at this
      apply b_X10_power_4
      simp (disch := omega) only [s_le, s_lt, s_eq, s_eq0, s_in, s_ix, s_rm, s_div, s_pdlt, s_pdle, s_lepd, s_pdpd, s_pdlepd, s_pdadd, nI_add, pk_mul, pd_succ, Nat.not_lt_zero, Nat.zero_lt_succ, not_false_eq_true, not_true_eq_false, false_implies, true_implies, implies_true, and_true, true_and, Nat.reduceLT, Nat.reduceLeDiff, Nat.reduceAdd, Nat.reduceSub, Nat.zero_add, Nat.add_zero, h.2]
      exact ⟨fun z => absurd z (by omega), fun _ => this⟩
  apply e_X10_power
  exact loop k 0 rfl
theorem m_en_col {R C k : Nat} {T : TBt} {f : Nat → Nat} {mi0 : Nat → Nat → Int32} (hM0 : Mw q m d n mi0) (hR : R ≤ 42) (hC : C ≤ 24) (hk : k < C) (hRd : R ≤ 6 * d) (hf : Wr n mi0 3 f) (hT1 : ∀ r, r < R → T r k = dg q (f (r / d)) (r % d)) (hTq : ∀ a b, T a b < q)
    (hK : ∀ mi1, offB mi0 mi1 → Mtb q R (k + 1) T mi1 → wp G e tM m_X10_ends 47 [(0, .ref 154), (3, .int (nI C)), (4, .int (nI R)), (5, .int (nI (k + 1)))] [] (mi1, ml, RX RM) (QI K)) :
    ∀ (x r : Nat) (mi : Nat → Nat → Int32), x + r = R → offB mi0 mi → (∀ a b, a < R → b < k + 1 → (b < k ∨ a < r) → mi 165 (24 * a + b) = nI (T a b)) → wp G e tM m_X10_ends 128 [(0, .ref 154), (3, .int (nI C)), (4, .int (nI R)), (5, .int (nI k)), (7, .int (nI r))] [] (mi, ml, RX RM) (QI K) := by
  have w := hM0.1.1
  have h2 := w.q2
  have hd7 := w.d7
  have hd1 := w.2.2.2.2.1
  intro x
  induction x with
  | zero =>
    intro r mi hr ho hT
    have : r = R := by omega
    subst this
    have := hK mi ho ⟨hR, by omega, fun a b ha hb => ⟨hT a b ha hb (Or.inr ha), hTq a b⟩⟩
    apply b_X10_ends_128
    simp (disch := omega) only [s_le, s_lt, s_eq, s_eq0, s_in, s_ix, s_rm, s_div, s_pdlt, s_pdle, s_lepd, s_pdpd, s_pdlepd, s_pdadd, nI_add, pk_mul, pd_succ, Nat.not_lt_zero, Nat.zero_lt_succ, not_false_eq_true, not_true_eq_false, false_implies, true_implies, implies_true, and_true, true_and, Nat.reduceLT, Nat.reduceLeDiff, Nat.reduceAdd, Nat.reduceSub, Nat.zero_add, Nat.add_zero, Nat.le_refl]
    exact this
  | succ x ih =>
    intro r mi hr ho hT
    have hM := hM0.offB ho
    have e4 := hM.2.1.2.2.1
    have hrd : r / d < 6 := by
      rw [Nat.div_lt_iff_lt_mul (by omega)]
      omega
    have hrm : r % d < d := Nat.mod_lt _ (by omega)
    have ef := hf.2.1 (r / d) (by omega)
    have hfl := hf.2.2.2 (r / d)
    rw [← congrFun (ho 161 (by omega)) _] at ef
    rw [show 25 * 3 + r / d = 75 + r / d by omega] at ef
    have := ih (r + 1) (u2 mi 165 (24 * r + k) (nI (dg q (f (r / d)) (r % d)))) (by omega) ho.put (fun a b ha hb hor => by
      by_cases c : a = r ∧ b = k
      · rw [c.1, c.2, u2_at, hT1 r (by omega)]
      · rw [u2_ne (by omega)]
        exact hT a b ha hb (by omega))
    apply b_X10_ends_128
    rw [e4]
    simp (disch := omega) only [s_le, s_lt, s_eq, s_eq0, s_in, s_ix, s_rm, s_div, s_pdlt, s_pdle, s_lepd, s_pdpd, s_pdlepd, s_pdadd, nI_add, pk_mul, pd_succ, Nat.not_lt_zero, Nat.zero_lt_succ, not_false_eq_true, not_true_eq_false, false_implies, true_implies, implies_true, and_true, true_and, Nat.reduceLT, Nat.reduceLeDiff, Nat.reduceAdd, Nat.reduceSub, Nat.zero_add, Nat.add_zero, ef]
    refine ⟨fun z => absurd z (by omega), fun _ => ⟨by omega, by omega, by omega, m_figure hM.2.1.1 (w.lt13 hfl) (by omega) ?_⟩⟩
    exact ⟨by omega, this⟩
theorem m_ends (hE : EndsOK) {s : Cst} {mi0 : Nat → Nat → Int32} (hs : A = cN s) (hM : Mw q m d n mi0) (hq : aq (cN s) = q) (hm : am (cN s) = m) (hd : dO (cN s) = d) (h : Ma 155 A mi0) (h10 : kc (aks A) 0 (adn A) ≤ 10) (hl : ∀ i, i < kc (aks A) 0 (adn A) → Rmo n (amd A i)) {v1 v2 : Int32} (hK : ∀ mi1, offS mi0 mi1 → K (fEnds s v1 v2) mi1 ml) : wpI G e 168 m_X10_ends [.ref 154, .int v1, .int v2] (mi0, ml, RX RM) K := by
  subst hs
  have hn := hM.two
  have w := hM.1.1
  have h2 := w.q2
  have hd7 := w.d7
  have hd1 := w.2.2.2.2.1
  have hq2 := hM.2.1.1.two
  unfold fEnds at hK
  rw [hq, hm, hd] at hK
  apply e_X10_ends
  refine m_isModule h h10 (fun i hi hv hlt => ⟨fun z => absurd z (by decide), fun _ => ?_⟩) (fun hno => ⟨fun _ => ?_, fun z => absurd rfl z⟩)
  · rw [hi] at hK
    subst hv
    have hR := hl i hlt
    refine m_isIn (a := 0) (lo := 0) (hi := 2) (by omega) (by omega) (fun ee hv2 _ hee => ⟨fun _ => ?_, fun z => absurd z (by decide)⟩) (fun hno => ⟨fun z => absurd rfl z, fun _ => ?_⟩)
    · subst hv2
      rw [asN_nI (by omega), if_pos (by omega)] at hK
      dsimp only at hK
      refine m_layModule (n := n) h (by omega) (by omega) hR.1 hR.2.1 (fun mi1 o1 w1 => ?_)
      have hM1 := hM.offV o1
      have e4 := hM1.2.1.2.2.1
      have hC : (ee + 1) * d ≤ 3 * 7 := Nat.mul_le_mul (by omega) hd7
      have hRR : (ee + 4) * d ≤ 6 * 7 := Nat.mul_le_mul (by omega) hd7
      have hRd : (ee + 4) * d ≤ 6 * d := Nat.mul_le_mul_right _ (by omega)
      have hTq : ∀ a b, tbe q m d (amd (cN s) i) a b < q := fun a b => dg_lt h2
      have loop : ∀ (x k : Nat) (mi : Nat → Nat → Int32), x + k = (ee + 1) * d → offS mi0 mi → Wr n mi 0 (amd (cN s) i) → Mtb q ((ee + 4) * d) k (tbe q m d (amd (cN s) i)) mi → wp G e tM m_X10_ends 47 [(0, .ref 154), (3, .int (nI ((ee + 1) * d))), (4, .int (nI ((ee + 4) * d))), (5, .int (nI k))] [] (mi, ml, RX RM) (QI K) := by
        intro x
        induction x with
        | zero =>
          intro k mi hk ho hW hT
          have hk : k = (ee + 1) * d := by omega
          subst hk
          have hMk := hM.offS ho
          apply b_X10_ends_47
          simp (disch := omega) only [s_le, s_lt, s_eq, s_eq0, s_in, s_ix, s_rm, s_div, s_pdlt, s_pdle, s_lepd, s_pdpd, s_pdlepd, s_pdadd, nI_add, pk_mul, pd_succ, Nat.not_lt_zero, Nat.zero_lt_succ, not_false_eq_true, not_true_eq_false, false_implies, true_implies, implies_true, and_true, true_and, Nat.reduceLT, Nat.reduceLeDiff, Nat.reduceAdd, Nat.reduceSub, Nat.zero_add, Nat.add_zero, Nat.le_refl]
          refine m_rankOf hMk.2.1.1 hT (fun mi2 r o2 hr => ?_)
          obtain ⟨r1, r2⟩ := hE q m d n _ ee r hM.1 hR hee hr
          have es : nI ((ee + 1) * d) - nI r = nI ((ee + 1) * d - r) := s_sub r1
          rw [es]
          refine m_powerW (hMk.offB o2).2.1.1 (by omega) ?_
          rw [r2]
          exact hK mi2 (ho.trans o2.toS)
        | succ x ih =>
          intro k mi hk ho hW hT
          have hMk := hM.offS ho
          have hkd : k / d < ee + 1 := by
            rw [Nat.div_lt_iff_lt_mul (by omega)]
            omega
          have hkm : k % d < d := Nat.mod_lt _ (by omega)
          have hqk : q ^ (k % d) < n := by
            rw [w.nq]
            exact Nat.pow_lt_pow_right (by omega) hkm
          apply b_X10_ends_47
          simp (disch := omega) only [s_le, s_lt, s_eq, s_eq0, s_in, s_ix, s_rm, s_div, s_pdlt, s_pdle, s_lepd, s_pdpd, s_pdlepd, s_pdadd, nI_add, pk_mul, pd_succ, Nat.not_lt_zero, Nat.zero_lt_succ, not_false_eq_true, not_true_eq_false, false_implies, true_implies, implies_true, and_true, true_and, Nat.reduceLT, Nat.reduceLeDiff, Nat.reduceAdd, Nat.reduceSub, Nat.zero_add, Nat.add_zero]
          refine ⟨fun z => absurd z (by omega), fun _ => ?_⟩
          refine m_clear (n := n) (r := 2) (by omega) (by omega) (fun mi2 o2 w2 => ?_)
          have hM2 := hMk.offV o2
          have e42 := hM2.2.1.2.2.1
          rw [e42]
          simp (disch := omega) only [s_le, s_lt, s_eq, s_eq0, s_in, s_ix, s_rm, s_div, s_pdlt, s_pdle, s_lepd, s_pdpd, s_pdlepd, s_pdadd, nI_add, pk_mul, pd_succ, Nat.not_lt_zero, Nat.zero_lt_succ, not_false_eq_true, not_true_eq_false, false_implies, true_implies, implies_true, and_true, true_and, Nat.reduceLT, Nat.reduceLeDiff, Nat.reduceAdd, Nat.reduceSub, Nat.zero_add, Nat.add_zero]
          refine ⟨by omega, by omega, m_power hM2.2.1.1 (by omega) ⟨by omega, ?_⟩⟩
          have hW2 : Wr n (u2 mi2 161 (50 + k / d) (nI (q ^ (k % d)))) 2 (mono (q ^ (k % d)) (k / d)) := by
            refine ⟨by omega, fun j hj => ?_, fun j hj => ?_, fun j => ?_⟩
            · unfold mono
              by_cases c : j = k / d
              · rw [if_pos c, c, show 25 * 2 + k / d = 50 + k / d by omega, u2_at]
              · rw [if_neg c, u2_ne (by omega)]
                exact w2.2.1 j hj
            · unfold mono
              rw [if_neg (by omega)]
            · unfold mono
              split <;> omega
          have hW0 : Wr n (u2 mi2 161 (50 + k / d) (nI (q ^ (k % d)))) 0 (amd (cN s) i) := by
            have h0 := hW.offV o2 (by omega)
            refine ⟨h0.1, fun j hj => ?_, h0.2.2⟩
            have hne : 25 * 0 + j ≠ 50 + k / d := by
              generalize k / d = z
              omega
            rw [u2_ne hne]
            exact h0.2.1 j hj
          have oS3 : offS mi0 (u2 mi2 161 (50 + k / d) (nI (q ^ (k % d)))) := (ho.trans o2.toS).trans (offS.w (fun o z => u2_off z))
          have hM3 := hM.offS oS3
          have hr4 := hR.rl4
          have hr4' := rl_le (amd (cN s) i) 4
          have hmr : rl (mono (q ^ (k % d)) (k / d)) 25 ≤ 4 := by
            have hz : ∀ j, 4 ≤ j → mono (q ^ (k % d)) (k / d) j = 0 := fun j hj => if_neg (by omega)
            rw [rl_ext (show 4 ≤ 25 by omega) hz]
            exact rl_le _ 4
          generalize hmi3 : u2 mi2 161 (50 + k / d) (nI (q ^ (k % d))) = mi3 at *
          refine m_multiply (a := 2) (b := 0) (c := 3) hM3 hW2 hW0 (by omega) (by omega) (by omega) (fun _ mi4 o4 w4 => ⟨fun z => absurd z (by decide), fun _ => ?_⟩) (fun z => absurd (Or.inr (Or.inr (by omega))) z)
          have hM4 := hM3.offV o4
          refine m_multiply (a := 0) (b := 2) (c := 5) hM4 (hW0.offV o4 (by omega)) (hW2.offV o4 (by omega)) (by omega) (by omega) (by omega) (fun _ mi5 o5 w5 => ⟨fun z => absurd z (by decide), fun _ => ?_⟩) (fun z => absurd (Or.inr (Or.inr (by omega))) z)
          have hM5 := hM4.offV o5
          have e1 : nI q - nI 1 = nI (q - 1) := s_sub (by omega)
          rw [hM5.2.1.1.2, e1]
          refine m_add (a := 3) (b := 5) hM5 (w4.offV o5 (by omega)) w5 (by omega) (by omega) (fun mi6 o6 w6 => ?_)
          have hM6 := hM5.offV o6
          have oS6 : offS mi0 mi6 := ((oS3.trans o4.toS).trans o5.toS).trans o6.toS
          have hB6 : mi6 165 = mi 165 := by rw [o6.1 165 (by omega), o5.1 165 (by omega), o4.1 165 (by omega), ← hmi3, u2_off (by omega), o2.1 165 (by omega)]
          have hW6 : Wr n mi6 0 (amd (cN s) i) := ((hW0.offV o4 (by omega)).offV o5 (by omega)).offV o6 (by omega)
          refine m_en_col (R := (ee + 4) * d) (C := (ee + 1) * d) (k := k) (T := tbe q m d (amd (cN s) i)) hM6 (by omega) (by omega) (by omega) hRd w6 (fun r hr => ?_) hTq (fun mi7 o7 t7 => ?_) ((ee + 4) * d) 0 mi6 rfl (fun _ _ => rfl) (fun a b ha hb hor => ?_)
          · show dg q (pdf q m d (amd (cN s) i) (q ^ (k % d)) (k / d) (r / d)) (r % d) = _
            rw [pdf_cv w hR.1 hqk]
          · exact ih (k + 1) mi7 (by omega) (oS6.trans o7.toS) (hW6.same (o7 161 (by omega))) t7
          · rw [hB6]
            exact (hT.2.2 a b ha (by omega)).1
      have hnl := loop ((ee + 1) * d) 0 mi1 rfl o1.toS w1 ⟨by omega, by omega, fun a b _ hb => absurd hb (by omega)⟩
      rw [e4]
      simp (disch := omega) only [s_le, s_lt, s_eq, s_eq0, s_in, s_ix, s_rm, s_div, s_pdlt, s_pdle, s_lepd, s_pdpd, s_pdlepd, s_pdadd, nI_add, pk_mul, pd_succ, Nat.not_lt_zero, Nat.zero_lt_succ, not_false_eq_true, not_true_eq_false, false_implies, true_implies, implies_true, and_true, true_and, Nat.reduceLT, Nat.reduceLeDiff, Nat.reduceAdd, Nat.reduceSub, Nat.zero_add, Nat.add_zero]
      exact hnl
    · have e3 : asN 3 v2 = none := asN_none (fun a ha z => hno a (by omega) (by omega) z)
      rw [e3] at hK
      exact hK mi0 (offS.refl _)
  · rw [hno] at hK
    exact hK mi0 (offS.refl _)
end MED
