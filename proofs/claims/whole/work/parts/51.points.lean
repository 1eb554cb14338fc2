/-! class Acting: height, points, parts -/
theorem dg_small {q : Nat} (h2 : 2 ≤ q) {a k : Nat} (h : a < q ^ k) : dg q a k = 0 := dg_big h (Nat.le_refl k) h2
theorem ta1_lead {q d n k : Nat} (h2 : 2 ≤ q) (hk : k < 13) {S : TSt} (h : Sok q d n k S) : ∀ (p x t : Nat), dg q t k = 1 → dg q (ta1 q S.1 S.2.1 S.2.2 p x t).2.1 k = 1
  | 0, x, t, ht => ht
  | p + 1, x, t, ht => by
    unfold ta1
    split
    · exact ta1_lead h2 hk h p _ _ ht
    split
    · next c1 c2 =>
      refine ta1_lead h2 hk h p _ _ ?_
      rw [cmb_dg _ h2, if_pos hk, ht, dg_small h2 (h p c2).2.1, Nat.mul_zero, Nat.add_zero, Nat.mod_eq_of_lt (by omega)]
    · exact ht
theorem dg_pow {q : Nat} (h2 : 2 ≤ q) (k : Nat) : dg q (q ^ k) k = 1 := by
  unfold dg
  rw [Nat.div_self (Nat.pow_pos (by omega)), Nat.mod_eq_of_lt (by omega)]
theorem dg_mulq {q a k : Nat} (h2 : 2 ≤ q) : dg q (a * q) (k + 1) = dg q a k := by
  rw [dg_succ, Nat.mul_div_cancel _ (by omega)]
theorem hor_top {q a b L : Nat} (h2 : 2 ≤ q) (hb : b < q ^ L) : ∀ (n s T : Nat), L ≤ T + 1 → T + n < 13 → s < q ^ (T + 1) → dg q s T = 1 → dg q (hor q a b n s) (T + n) = 1
  | 0, s, T, _, _, _, h1 => h1
  | n + 1, s, T, hL, hT, hs, h1 => by
    unfold hor
    have hs2 : s * q < q ^ (T + 2) := by
      rw [show T + 2 = (T + 1) + 1 by omega, Nat.pow_succ]
      exact Nat.mul_lt_mul_of_pos_right hs (by omega)
    have := hor_top (a := a) h2 hb n (cmb q (dg q a n) 13 (s * q) b) (T + 1) (by omega) (by omega) (cmb_small h2 hs2 (Nat.lt_of_lt_of_le hb (Nat.pow_le_pow_right (by omega) (by omega)))) (by
      rw [cmb_dg _ h2, if_pos (by omega), dg_mulq h2, h1, dg_big hb (by omega) h2, Nat.mul_zero, Nat.add_zero, Nat.mod_eq_of_lt (by omega)])
    rw [show T + (n + 1) = T + 1 + n by omega]
    exact this
/-- of two with first figure 1 -/
theorem prd_top {q a b j k : Nat} (h2 : 2 ≤ q) (ha : ln q 13 a = j + 1) (ha1 : dg q a j = 1) (hb : b < q ^ (k + 1)) (hb1 : dg q b k = 1) (hk : j + k < 13) : dg q (prd q a b) (j + k) = 1 := by
  unfold prd
  rw [ha]
  unfold hor
  have hb13 : b < q ^ 13 := Nat.lt_of_lt_of_le hb (Nat.pow_le_pow_right (by omega) (by omega))
  have e0 : cmb q (dg q a j) 13 (0 * q) b = b := by
    rw [ha1, Nat.zero_mul]
    refine dg_ext h2 (cmb_lt 1 h2 13 _ _) hb13 (fun i hi => ?_)
    rw [cmb_dg 1 h2, if_pos hi, dg_zero, Nat.zero_add, Nat.one_mul, Nat.mod_eq_of_lt (dg_lt h2)]
  rw [e0, Nat.add_comm]
  exact hor_top h2 hb j b k (Nat.le_refl _) (by omega) hb hb1
theorem Mn_of {q a k : Nat} (h2 : 2 ≤ q) (hk : k < 13) (h : a < q ^ (k + 1)) (h1 : dg q a k = 1) : Mn q a ∧ ln q 13 a = k + 1 := by
  have h13 : a < q ^ 13 := Nat.lt_of_lt_of_le h (Nat.pow_le_pow_right (by omega) (by omega))
  have hle : q ^ k ≤ a := by
    rcases Nat.lt_or_ge a (q ^ k) with c | c
    · rw [dg_small h2 c] at h1
      omega
    · exact c
  have hl := ln_eq h2 hle h h13
  exact ⟨⟨k, hl, h1, h13⟩, hl⟩
theorem ptl_lead {q m d n : Nat} (w : Wd q m d n) {g : Nat → Nat} : ∀ (r k x : Nat) (S : TSt), r + k ≤ 13 → Sok q d n k S → x < n → d < nfl S.1 7 + r →
    ∃ c k2, (ptl q m d g r k x S).1 = some c ∧ c < q ^ (k2 + 1) ∧ dg q c k2 = 1 ∧ k ≤ k2 ∧ Sok q d n (k2 + 1) (ptl q m d g r k x S).2 ∧ nfl (ptl q m d g r k x S).2.1 7 = nfl S.1 7 + (k2 - k)
  | 0, k, x, S, hr, h, hx, hd => by
    have := nfl_dpt (fun p hp => (h p hp).1) 7
    omega
  | r + 1, k, x, S, hr, h, hx, hd => by
    have h2 := w.q2
    obtain ⟨t1, t2, t3, t4⟩ := tS_ok w (h.mono h2 (Nat.le_succ k)) hx (t := q ^ k) (Nat.pow_lt_pow_right (by omega) (by omega))
    unfold ptl
    split
    · next c =>
      refine ⟨_, k, rfl, t2, ta1_lead h2 (by omega) h 7 x _ (dg_pow h2 k), Nat.le_refl k, t1, ?_⟩
      show nfl (tS q S x (q ^ k)).2.2.1 7 = _
      rw [t3 c]
      omega
    · next c =>
      have e4 := t4 c
      obtain ⟨y, k2, y1, y2, y6, y3, y4, y5⟩ := ptl_lead w r (k + 1) (vl q m d g x) _ (by omega) t1 (vl_lt w hx) (by omega)
      exact ⟨y, k2, y1, y2, y6, by omega, y4, by omega⟩
/-- the tags dropped -/
def tD (S : TSt) : TSt := (S.1, S.2.1, fun _ => 0)
theorem Sok.drop {q d n M : Nat} (h2 : 2 ≤ q) {S : TSt} (h : Sok q d n M S) : Sok q d n 0 (tD S) := fun p hp => ⟨(h p hp).1, show 0 < q ^ 0 by rw [Nat.pow_zero]; omega, (h p hp).2.2⟩
theorem row12 : isR 12 ∧ an 12 = 25 := by
  have h : (ak 12 = 11 ∧ an 12 = 25) := by decide +kernel
  exact ⟨⟨⟨h.1, by omega⟩, by rw [h.2]; omega⟩, h.2⟩
section PTS
variable {G : GC} {e q m d n g : Nat} {mi : Nat → Nat → Int32} {ml : Nat → Nat → Int64} {y : Nat → Nat → Option Nat}
theorem p_height_loop {c : Nat} (hc : 1 ≤ c) (hc31 : c < 2 ^ 31) {f : Nat → Nat} (hn : n ≤ 128) (hf : Rw n mi 12 f) {K : Int32 → (Nat → Nat → Int32) → (Nat → Nat → Int64) → Prop} : ∀ (r i : Nat), r + i = 24 → K (nI (fns f r i / c)) mi ml →
    wp G e tX m_X0_height 32 [(0, .ref 11), (3, .int (nI c)), (4, .int (nI i))] [] (mi, ml, RX y) (QI K) := by
  have h25 := row12.2
  intro r
  induction r with
  | zero =>
    intro i hr hK
    apply b_X0_height_32
    rw [s_sub (by omega)]
    simp (disch := omega) only [s_le, s_lt, s_eq, s_eq0, s_in, s_ix, s_rm, s_div, s_pdlt, s_pdle, s_lepd, s_pdpd, s_pdlepd, s_pdadd, nI_add, pk_mul, pd_succ, Nat.not_lt_zero, Nat.zero_lt_succ, not_false_eq_true, not_true_eq_false, false_implies, true_implies, implies_true, and_true, true_and, Nat.reduceLT, Nat.reduceLeDiff, Nat.reduceAdd, Nat.reduceSub, Nat.zero_add, Nat.add_zero]
    exact ⟨fun _ => ⟨by omega, hK⟩, fun z => absurd (show 24 ≤ i by omega) z⟩
  | succ r ih =>
    intro i hr hK
    have hfi := hf.2.2 i
    unfold fns at hK
    apply b_X0_height_32
    rw [s_sub (by omega)]
    simp (disch := omega) only [s_le, s_lt, s_eq, s_eq0, s_in, s_ix, s_rm, s_div, s_pdlt, s_pdle, s_lepd, s_pdpd, s_pdlepd, s_pdadd, nI_add, pk_mul, pd_succ, Nat.not_lt_zero, Nat.zero_lt_succ, not_false_eq_true, not_true_eq_false, false_implies, true_implies, implies_true, and_true, true_and, Nat.reduceLT, Nat.reduceLeDiff, Nat.reduceAdd, Nat.reduceSub, Nat.zero_add, Nat.add_zero, hf.1]
    refine ⟨fun z => absurd z (by omega), fun _ => ⟨by omega, fun c1 => ?_, fun c1 => ?_⟩⟩
    · rw [if_neg c1] at hK
      exact ⟨by omega, hK⟩
    · rw [if_pos c1] at hK
      exact ih (i + 1) (by omega) hK
theorem p_height (h0 : En q m d n g mi) {b c : Nat} (hb : isR b) (hb25 : an b ≤ 25) (hb67 : 67 < b) (hc : c < q ^ 13) {h : Nat → Nat} (hh : Rw n mi b h) {K : Int32 → (Nat → Nat → Int32) → (Nat → Nat → Int64) → Prop}
    (hK : ∀ mi1 : Nat → Nat → Int32, off67 mi mi1 → K (oI (hgt q m d h c)) mi1 ml) : wpI G e 154 m_X0_height [.ref 11, .ref b, .int (nI c)] (mi, ml, RX y) K := by
  have w := h0.w
  have hn128 : n ≤ 128 := w.2.2.2.2.2.2
  have hl13 := ln_le q 13 c
  unfold hgt at hK
  apply e_X0_height
  refine p_degree h0.1 hc ?_
  simp (disch := omega) only [s_le, s_lt, s_eq, s_eq0, s_in, s_ix, s_rm, s_div, s_pdlt, s_pdle, s_lepd, s_pdpd, s_pdlepd, s_pdadd, nI_add, pk_mul, pd_succ, Nat.not_lt_zero, Nat.zero_lt_succ, not_false_eq_true, not_true_eq_false, false_implies, true_implies, implies_true, and_true, true_and, Nat.reduceLT, Nat.reduceLeDiff, Nat.reduceAdd, Nat.reduceSub, Nat.zero_add, Nat.add_zero]
  refine ⟨fun c1 => ?_, fun c1 => ?_⟩
  · have := hK mi (fun _ _ => rfl)
    rw [if_pos (by omega)] at this
    exact this
  obtain ⟨k, hk⟩ : ∃ k, ln q 13 c = k + 1 := ⟨ln q 13 c - 1, by omega⟩
  rw [hk, pd_succ]
  rw [if_neg (by omega), hk, Nat.add_sub_cancel] at hK
  refine p_turn h0 row12.1 row12.2 hb hb25 (by omega) (by omega) hc hh (fun mi1 ho1 hf1 => ?_)
  by_cases c2 : (trn q m d h c).1 = true
  · rw [if_pos c2] at hK ⊢
    refine ⟨fun _ => ?_, fun z => absurd z (by decide)⟩
    exact p_height_loop (by omega) (by omega) hn128 hf1 24 0 rfl (hK mi1 (fun o oo => ho1 o (by omega)))
  · rw [if_neg c2] at hK ⊢
    exact ⟨fun z => absurd rfl z, fun _ => hK mi1 (fun o oo => ho1 o (by omega))⟩
theorem p_points_in {c a c0 : Nat} (hc : isR c) (hc25 : an c ≤ 25) (hc67 : 67 < c) {f : Nat → Nat} (mi0 : Nat → Nat → Int32) (h0 : En q m d n g mi0) (hf : Rw n mi0 c f) (ha : a < q ^ (c0 + 1)) {j : Nat} {K : Int32 → (Nat → Nat → Int32) → (Nat → Nat → Int64) → Prop} :
    ∀ (r k x : Nat) (S : TSt) (mi : Nat → Nat → Int32), r + k = d + 1 → nfl S.1 7 = c0 + k → Sok q d n k S → x < n → off16 mi0 mi → T1 q n mi S →
      (∀ mi1, off16 mi0 mi1 → T1 q n mi1 (ptl q m d f r k x S).2 → wp G e tX m_X0_points 11 [(0, .ref 11), (1, .ref c), (2, .int (nI (ptm q a (ptl q m d f r k x S).1))), (3, .int (nI (j + 1)))] [] (mi1, ml, RX y) (QI K)) →
      wp G e tX m_X0_points 42 [(0, .ref 11), (1, .ref c), (2, .int (nI a)), (3, .int (nI j)), (4, .int (nI x)), (5, .int (nI k))] [] (mi, ml, RX y) (QI K) := by
  have w := h0.w
  have hq2 := w.q2
  have hd7 := w.d7
  intro r
  induction r with
  | zero =>
    intro k x S mi hr hnf hS hx ho hT hK
    have := nfl_dpt (fun p hp => (hS p hp).1) 7
    omega
  | succ r ih =>
    intro k x S mi hr hnf hS hx ho hT hK
    have hE := h0.off16 ho
    have hnd := nfl_dpt (fun p hp => (hS p hp).1) 7
    have hk13 : q ^ k < q ^ 13 := Nat.pow_lt_pow_right (by omega) (by omega)
    have h31 := pow_lt31 (M := 13) w.1 (Nat.le_refl _)
    obtain ⟨t1, t2, t3, t4⟩ := tS_ok w (hS.mono hq2 (Nat.le_succ k)) hx (t := q ^ k) (Nat.pow_lt_pow_right (by omega) (by omega))
    unfold ptl at hK
    apply b_X0_points_42
    refine p_rdegree hE.2.1 ?_
    simp (disch := omega) only [s_le, s_lt, s_eq, s_eq0, s_in, s_ix, s_rm, s_div, s_pdlt, s_pdle, s_lepd, s_pdpd, s_pdlepd, s_pdadd, nI_add, pk_mul, pd_succ, Nat.not_lt_zero, Nat.zero_lt_succ, not_false_eq_true, not_true_eq_false, false_implies, true_implies, implies_true, and_true, true_and, Nat.reduceLT, Nat.reduceLeDiff, Nat.reduceAdd, Nat.reduceSub, Nat.zero_add, Nat.add_zero]
    refine ⟨fun z => absurd z (by omega), fun _ => p_power hE.1 (by omega) ?_⟩
    refine p_add1 hE hx hk13 hT (fun mi1 ho1 hT1 => ?_)
    have ho2 : off16 mi0 mi1 := fun o oo => by rw [ho1 o (by omega)]; exact ho o oo
    have hE1 := h0.off16 ho2
    have htl : (tS q S x (q ^ k)).2.1 < q ^ 13 := Nat.lt_of_lt_of_le t2 (Nat.pow_le_pow_right (by omega) (by omega))
    by_cases c1 : (tS q S x (q ^ k)).1 = 0
    · rw [if_pos c1] at hK ⊢
      refine ⟨fun z => absurd z (nI_neg1 (by omega)), fun _ => ?_⟩
      have la := ln_le_lt (m := 13) hq2 ha
      have lt := ln_le_lt (m := 13) hq2 t2
      refine p_product hE1.1 (Nat.lt_of_lt_of_le ha (Nat.pow_le_pow_right (by omega) (by omega))) htl (by omega) ?_
      exact hK mi1 ho2 hT1
    · rw [if_neg c1] at hK ⊢
      refine ⟨fun _ => ?_, fun z => absurd rfl z⟩
      refine p_vl hE1 hc hc25 (hf.off (ho2 c (by omega))) hx ?_
      exact ih (k + 1) _ _ mi1 (by omega) (by rw [t4 c1, hnf]; omega) t1 (vl_lt w hx) ho2 hT1 hK
theorem p_points_loop {c : Nat} (hc : isR c) (hc25 : an c ≤ 25) (hc67 : 67 < c) {f : Nat → Nat} (mi0 : Nat → Nat → Int32) (h0 : En q m d n g mi0) (hf : Rw n mi0 c f) {K : Int32 → (Nat → Nat → Int32) → (Nat → Nat → Int64) → Prop} :
    ∀ (r j a M : Nat) (S : TSt) (mi : Nat → Nat → Int32), r + j = d → a < q ^ (nfl S.1 7 + 1) → dg q a (nfl S.1 7) = 1 → Sok q d n M S → off16 mi0 mi → T1 q n mi S →
      (∀ mi1, off16 mi0 mi1 → Mn q (pto q m d f r j a S) → pto q m d f r j a S < q ^ (d + 1) → K (nI (pto q m d f r j a S)) mi1 ml) →
      wp G e tX m_X0_points 11 [(0, .ref 11), (1, .ref c), (2, .int (nI a)), (3, .int (nI j))] [] (mi, ml, RX y) (QI K) := by
  have w := h0.w
  have hq2 := w.q2
  have hd7 := w.d7
  intro r
  induction r with
  | zero =>
    intro j a M S mi hr ha ha1 hS ho hT hK
    have hE := h0.off16 ho
    have hnd := nfl_dpt (fun p hp => (hS p hp).1) 7
    apply b_X0_points_11
    refine p_rdegree hE.2.1 ?_
    simp (disch := omega) only [s_le, s_lt, s_eq, s_eq0, s_in, s_ix, s_rm, s_div, s_pdlt, s_pdle, s_lepd, s_pdpd, s_pdlepd, s_pdadd, nI_add, pk_mul, pd_succ, Nat.not_lt_zero, Nat.zero_lt_succ, not_false_eq_true, not_true_eq_false, false_implies, true_implies, implies_true, and_true, true_and, Nat.reduceLT, Nat.reduceLeDiff, Nat.reduceAdd, Nat.reduceSub, Nat.zero_add, Nat.add_zero]
    refine ⟨fun _ => hK mi ho (Mn_of hq2 (by omega) ha ha1).1 (Nat.lt_of_lt_of_le ha (Nat.pow_le_pow_right (by omega) (by omega))), fun z => absurd (show d ≤ j by omega) z⟩
  | succ r ih =>
    intro j a M S mi hr ha ha1 hS ho hT hK
    have hE := h0.off16 ho
    have hnd := nfl_dpt (fun p hp => (hS p hp).1) 7
    have hjn : q ^ j < n := by
      have hn : n = q ^ d := w.2.2.2.2.2.1
      rw [hn]
      exact Nat.pow_lt_pow_right (by omega) (by omega)
    unfold pto at hK
    obtain ⟨t, k2, x1, x2, x3, x4, x5, x6⟩ := ptl_lead w (g := f) (d + 1) 0 (q ^ j) (tD S) (by omega) (hS.drop hq2) hjn (by show d < nfl S.1 7 + (d + 1); omega)
    have hnd2 := nfl_dpt (fun p hp => (x5 p hp).1) 7
    have x7 : nfl (ptl q m d f (d + 1) 0 (q ^ j) (tD S)).2.1 7 = nfl S.1 7 + k2 := by rw [x6]; show nfl S.1 7 + _ = _; omega
    apply b_X0_points_11
    refine p_rdegree hE.2.1 ?_
    simp (disch := omega) only [s_le, s_lt, s_eq, s_eq0, s_in, s_ix, s_rm, s_div, s_pdlt, s_pdle, s_lepd, s_pdpd, s_pdlepd, s_pdadd, nI_add, pk_mul, pd_succ, Nat.not_lt_zero, Nat.zero_lt_succ, not_false_eq_true, not_true_eq_false, false_implies, true_implies, implies_true, and_true, true_and, Nat.reduceLT, Nat.reduceLeDiff, Nat.reduceAdd, Nat.reduceSub, Nat.zero_add, Nat.add_zero]
    refine ⟨fun z => absurd z (by omega), fun _ => ?_⟩
    refine p_drop1 (by omega) hT (fun mi1 ho1 hT1 => ?_)
    have ho2 : off16 mi0 mi1 := fun o oo => by rw [ho1 o (by omega)]; exact ho o oo
    refine p_power (h0.off16 ho2).1 (by omega) ?_
    refine p_points_in hc hc25 hc67 mi0 h0 hf ha (d + 1) 0 (q ^ j) (tD S) mi1 rfl rfl (hS.drop hq2) hjn ho2 hT1 (fun mi2 ho3 hT3 => ?_)
    rw [x1]
    have hK2 : ∀ mi1, off16 mi0 mi1 → Mn q (pto q m d f r (j + 1) (ptm q a (some t)) (ptl q m d f (d + 1) 0 (q ^ j) (tD S)).2) → pto q m d f r (j + 1) (ptm q a (some t)) (ptl q m d f (d + 1) 0 (q ^ j) (tD S)).2 < q ^ (d + 1) → K (nI (pto q m d f r (j + 1) (ptm q a (some t)) (ptl q m d f (d + 1) 0 (q ^ j) (tD S)).2)) mi1 ml := by
      rw [← x1]
      exact hK
    refine ih (j + 1) _ _ _ mi2 (by omega) ?_ ?_ x5 ho3 hT3 hK2
    · rw [x7]
      have := prd_lt hq2 ha x2 (by omega) (by omega)
      exact Nat.lt_of_lt_of_le this (Nat.pow_le_pow_right (by omega) (by omega))
    · rw [x7]
      exact prd_top hq2 (Mn_of hq2 (by omega) ha ha1).2 ha1 x2 x3 (by omega)
/-- the points -/
theorem p_points (h0 : En q m d n g mi) {c : Nat} (hc : isR c) (hc25 : an c ≤ 25) (hc67 : 67 < c) {f : Nat → Nat} (hf : Rw n mi c f) {K : Int32 → (Nat → Nat → Int32) → (Nat → Nat → Int64) → Prop}
    (hK : ∀ mi1, off16 mi mi1 → Mn q (pts q m d f) → pts q m d f < q ^ (d + 1) → K (nI (pts q m d f)) mi1 ml) : wpI G e 154 m_X0_points [.ref 11, .ref c] (mi, ml, RX y) K := by
  have hq2 := h0.w.q2
  apply e_X0_points
  refine p_clear1 (q := q) (n := n) (fun mi1 ho1 hT1 => ?_)
  refine p_points_loop hc hc25 hc67 mi h0 hf d 0 1 0 tS0 mi1 rfl ?_ ?_ (Sok0 q d n 0) (fun o oo => ho1 o (by omega)) hT1 hK
  · show 1 < q ^ (0 + 1)
    rw [Nat.pow_one]
    omega
  · show dg q 1 0 = 1
    rw [dg_0, Nat.mod_eq_of_lt (by omega)]
end PTS
