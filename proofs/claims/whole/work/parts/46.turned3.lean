/-! class Turned: divide -/
theorem dvi_lt {q m d n : Nat} (w : Wd q m d n) {f h : Nat → Nat} (hf : ∀ k, f k < n) (hh : ∀ k, h k < n) (x k : Nat) : ∀ i, dvi q m d h f x k i < n := by
  intro i
  unfold dvi
  split
  · exact cmb_ltn w (hf i) (mu_lt w (tu_lt w (hh _)))
  · exact hf i
theorem dvi_stop {q m d n : Nat} (w : Wd q m d n) {f h : Nat → Nat} (hf : ∀ k, f k < n) {L : Nat} (hL : ∀ k, L ≤ k → h k = 0) (x k : Nat) {i : Nat} (hi : k + L ≤ i) : dvi q m d h f x k i = f i := by
  have h2 := w.q2
  unfold dvi
  rw [if_pos (by omega), hL _ (by omega), tu_0 h2, mu_0r h2, cmb_0r h2 (w.lt13 (hf i))]
theorem dvl_lt {q m d n : Nat} (wd : Wd q m d n) {h : Nat → Nat} (hh : ∀ k, h k < n) {low : Nat} : ∀ (k : Nat) (f w : Nat → Nat), (∀ i, f i < n) → (∀ i, w i < n) → (∀ i, (dvl q m d n h low k f w).1 i < n) ∧ ∀ i, (dvl q m d n h low k f w).2 i < n := by
  intro k
  induction k with
  | zero => intro f w hf hw; exact ⟨hf, hw⟩
  | succ k ih =>
    intro f w hf hw
    unfold dvl
    refine ih _ _ (dvi_lt wd hf hh _ _) (fun i => ?_)
    show (if i = k then _ else _) < n
    split
    · exact dv_lt wd
    · exact hw i
section TUR3
variable {G : GC} {e q m d n g : Nat} {mi : Nat → Nat → Int32} {ml : Nat → Nat → Int64} {y : Nat → Nat → Option Nat}
theorem p_div_in {c b w : Nat} (hc : isR c) (hb : isR b) (hcb : c ≠ b) (h16 : 6 < c ∧ 6 < b) {f h : Nat → Nat} (mi0 : Nat → Nat → Int32) (h0 : En q m d n g mi0) (hf : Rw n mi0 c f) (hh : Rw n mi0 b h) {low k x : Nat} (hlow : low < an b) (hk : k + low < an c) (hx : x < n) {K : (Nat → Nat → Int32) → (Nat → Nat → Int64) → Prop}
    (hz : ∀ i, low + 1 ≤ i → h i = 0)
    (hK : ∀ mi1 : Nat → Nat → Int32, (∀ o, o ≠ c → mi1 o = mi0 o) → Rw n mi1 c (dvi q m d h f x k) → wp G e tX m_X8_divide 25 [(0, .ref 10), (1, .ref c), (2, .ref b), (3, .ref w), (4, .int (nI low)), (5, .int (pd k))] [] (mi1, ml, RX y) (QV K)) :
    ∀ (r j : Nat) (mi : Nat → Nat → Int32), j + r = low + 1 → (∀ o, o ≠ c → mi o = mi0 o) → (∀ i, i < an c → mi c i = nI (if i < k + j then dvi q m d h f x k i else f i)) →
      wp G e tX m_X8_divide 75 [(0, .ref 10), (1, .ref c), (2, .ref b), (3, .ref w), (4, .int (nI low)), (5, .int (nI k)), (6, .int (nI x)), (7, .int (nI j))] [] (mi, ml, RX y) (QV K) := by
  have hcN := hc.2
  have hbN := hb.2
  have wd := h0.w
  have hw2 := wd.n2
  have hq2 := wd.q2
  intro r
  induction r with
  | zero =>
    intro j mi hj ho hmi
    apply b_X8_divide_75
    rw [pd_dec]
    simp (disch := omega) only [s_le, s_lt, s_eq, s_eq0, s_in, s_ix, s_rm, s_div, s_pdlt, s_pdle, s_lepd, s_pdpd, s_pdlepd, s_pdadd, nI_add, pk_mul, pd_succ, Nat.not_lt_zero, Nat.zero_lt_succ, not_false_eq_true, not_true_eq_false, false_implies, true_implies, implies_true, and_true, true_and, Nat.reduceLT, Nat.reduceLeDiff, Nat.reduceAdd, Nat.reduceSub, Nat.zero_add, Nat.add_zero]
    refine ⟨fun _ => hK mi ho ⟨fun i hi => ?_, fun i hi => ?_, dvi_lt wd hf.2.2 hh.2.2 x k⟩, fun c1 => absurd c1 (by omega)⟩
    · rw [hmi i hi]
      split
      · rfl
      · rw [dvi_stop wd hf.2.2 hz x k (by omega)]
    · rw [dvi_stop wd hf.2.2 hz x k (by omega)]
      exact hf.2.1 i hi
  | succ r ih =>
    intro j mi hj ho hmi
    have hE : En q m d n g mi := h0.off (fun o o1 o2 => ho o (by omega))
    have hhj := hh.2.2 j
    have ht := tu_lt (i := k) wd hhj
    have hfk := hf.2.2 (k + j)
    apply b_X8_divide_75
    simp (disch := omega) only [s_le, s_lt, s_eq, s_eq0, s_in, s_ix, s_rm, s_div, s_pdlt, s_pdle, s_lepd, s_pdpd, s_pdlepd, s_pdadd, nI_add, pk_mul, pd_succ, Nat.not_lt_zero, Nat.zero_lt_succ, not_false_eq_true, not_true_eq_false, false_implies, true_implies, implies_true, and_true, true_and, Nat.reduceLT, Nat.reduceLeDiff, Nat.reduceAdd, Nat.reduceSub, Nat.zero_add, Nat.add_zero]
    refine ⟨fun c1 => absurd c1 (by omega), fun _ => ⟨hb.1, by omega, ?_⟩⟩
    rw [ho b (fun z => hcb z.symm), hh.1 j (by omega)]
    refine p_tu hE hhj (by omega) (p_mu hE hx ht ?_)
    refine ⟨hc.1, by omega, ?_⟩
    rw [hmi (k + j) (by omega), if_neg (by omega)]
    refine p_difference hE.1 (wd.lt13 hfk) (wd.lt13 (mu_lt wd ht)) ⟨hc.1, by omega, ?_⟩
    refine ih (j + 1) _ (by omega) (fun o h => by rw [u2_off h]; exact ho o h) (fun i hi => ?_)
    rw [u2_on]
    show (if i = k + j then _ else _) = _
    by_cases c2 : i = k + j
    · subst c2
      rw [if_pos rfl, if_pos (by omega)]
      unfold dvi
      rw [if_pos (by omega), Nat.add_sub_cancel_left]
    · rw [if_neg c2, hmi i hi]
      by_cases c3 : i < k + j
      · rw [if_pos c3, if_pos (by omega)]
      · rw [if_neg c3, if_neg (by omega)]
theorem p_div_loop {c b w : Nat} (hc : isR c) (hb : isR b) (hwr : isR w) (hcb : c ≠ b) (hcw : c ≠ w) (hbw : b ≠ w) (h16 : 6 < c ∧ 6 < b ∧ 6 < w) (hw25 : an c ≤ an w) {h : Nat → Nat} (mi0 : Nat → Nat → Int32) (h0 : En q m d n g mi0) (hh : Rw n mi0 b h) {low : Nat} (hlow : low < an b) (hz : ∀ i, low + 1 ≤ i → h i = 0) {K : (Nat → Nat → Int32) → (Nat → Nat → Int64) → Prop} :
    ∀ (k : Nat) (mi : Nat → Nat → Int32) (f v : Nat → Nat), (k = 0 ∨ k + low ≤ an c) → (∀ o, o ≠ c → o ≠ w → mi o = mi0 o) → Rw n mi c f → Rw n mi w v →
      (∀ mi1 : Nat → Nat → Int32, (∀ o, o ≠ c → o ≠ w → mi1 o = mi0 o) → Rw n mi1 c (dvl q m d n h low k f v).1 → Rw n mi1 w (dvl q m d n h low k f v).2 → K mi1 ml) →
      wp G e tX m_X8_divide 25 [(0, .ref 10), (1, .ref c), (2, .ref b), (3, .ref w), (4, .int (nI low)), (5, .int (pd k))] [] (mi, ml, RX y) (QV K) := by
  have hcN := hc.2
  have hbN := hb.2
  have hwN := hwr.2
  have wd := h0.w
  have hw2 := wd.n2
  intro k
  induction k with
  | zero =>
    intro mi f v hk ho hf hv hK
    apply b_X8_divide_25
    simp (disch := omega) only [s_le, s_lt, s_eq, s_eq0, s_in, s_ix, s_rm, s_div, s_pdlt, s_pdle, s_lepd, s_pdpd, s_pdlepd, s_pdadd, nI_add, pk_mul, pd_succ, Nat.not_lt_zero, Nat.zero_lt_succ, not_false_eq_true, not_true_eq_false, false_implies, true_implies, implies_true, and_true, true_and, Nat.reduceLT, Nat.reduceLeDiff, Nat.reduceAdd, Nat.reduceSub, Nat.zero_add, Nat.add_zero]
    exact hK mi ho hf hv
  | succ k ih =>
    intro mi f v hk ho hf hv hK
    have hE : En q m d n g mi := h0.off (fun o o1 o2 => ho o (by omega) (by omega))
    have hhl := hh.2.2 low
    have ht := tu_lt (i := k) wd hhl
    have hfk := hf.2.2 (k + low)
    have hx : dv q m n (f (k + low)) (tu q m d (h low) k) < n := dv_lt wd
    unfold dvl at hK
    apply b_X8_divide_25
    rw [pd_succ]
    simp (disch := omega) only [s_le, s_lt, s_eq, s_eq0, s_in, s_ix, s_rm, s_div, s_pdlt, s_pdle, s_lepd, s_pdpd, s_pdlepd, s_pdadd, nI_add, pk_mul, pd_succ, Nat.not_lt_zero, Nat.zero_lt_succ, not_false_eq_true, not_true_eq_false, false_implies, true_implies, implies_true, and_true, true_and, Nat.reduceLT, Nat.reduceLeDiff, Nat.reduceAdd, Nat.reduceSub, Nat.zero_add, Nat.add_zero]
    refine ⟨hwr.1, fun c1 => absurd c1 (by omega), fun _ => ⟨hc.1, by omega, hb.1, by omega, ?_⟩⟩
    rw [ho b (fun z => hcb z.symm) hbw, hh.1 low (by omega), hf.1 (k + low) (by omega)]
    refine p_tu hE hhl (by omega) (p_dv hE hfk ht ⟨hwr.1, by omega, ?_⟩)
    have hE1 : En q m d n g (u2 mi w k (nI (dv q m n (f (k + low)) (tu q m d (h low) k)))) := hE.off (fun o o1 o2 => u2_off (by omega))
    have hv1 : Rw n (u2 mi w k (nI (dv q m n (f (k + low)) (tu q m d (h low) k)))) w (up1 v k (dv q m n (f (k + low)) (tu q m d (h low) k))) := by
      refine ⟨fun i hi => ?_, fun i hi => ?_, fun i => ?_⟩
      · rw [u2_on]
        show (if i = k then _ else _) = nI (if i = k then _ else _)
        by_cases c1 : i = k
        · rw [if_pos c1, if_pos c1]
        · rw [if_neg c1, if_neg c1]
          exact hv.1 i hi
      · show (if i = k then _ else _) = 0
        rw [if_neg (by omega)]
        exact hv.2.1 i hi
      · show (if i = k then _ else _) < n
        split
        · exact hx
        · exact hv.2.2 i
    refine p_div_in hc hb hcb ⟨h16.1, h16.2.1⟩ _ hE1 (hf.off (u2_off (fun z => hcw z))) ((hh.off (ho b (fun z => hcb z.symm) hbw)).off (u2_off hbw)) hlow (by omega) hx hz ?_ (low + 1) 0 _ (Nat.zero_add _) (fun _ _ => rfl) (fun i hi => ?_)
    · intro mi1 ho1 hf1
      exact ih mi1 _ _ (by omega) (fun o oc ow => by rw [ho1 o oc, u2_off ow]; exact ho o oc ow) hf1 (hv1.off (ho1 w (fun z => hcw z.symm))) hK
    · rw [u2_off hcw, hf.1 i hi]
      split
      · next c1 =>
        unfold dvi
        rw [if_neg (by omega)]
      · rfl
theorem pd_subn {a b : Nat} (h : b + 1 ≤ a) : pd a - nI b = pd (a - b) := by
  obtain ⟨a', rfl⟩ : ∃ a', a = a' + 1 := ⟨a - 1, by omega⟩
  rw [pd_succ, show a' + 1 - b = a' - b + 1 by omega, pd_succ]
  exact s_sub (by omega)
theorem pd_subneg {a b : Nat} (h : a ≤ b) (hb : b < 2 ^ 30) : (pd a - nI b) < nI 0 := by
  have e1 := pd_toInt (n := a) (by omega)
  have e2 := nI_toInt (n := b) (by omega)
  rw [Int32.lt_iff_toInt_lt, Int32.toInt_sub, e1, e2, nI_toInt (by omega)]
  rw [Int.bmod_eq_of_le (by omega) (by omega)]
  omega
/-- c becomes what it leaves by b, w what it is times b -/
theorem p_divide (h0 : En q m d n g mi) {c b w : Nat} (hc : isR c) (hb : isR b) (hwr : isR w) (hcb : c ≠ b) (hcw : c ≠ w) (hbw : b ≠ w) (h16 : 6 < c ∧ 6 < b ∧ 6 < w) (hw25 : an c ≤ an w) (hb25 : an b ≤ an c) (hc25 : an c < 2 ^ 20) {f h : Nat → Nat} (hf : Rw n mi c f) (hh : Rw n mi b h) (hpos : 0 < rl h (an b)) {K : (Nat → Nat → Int32) → (Nat → Nat → Int64) → Prop}
    (hK : ∀ mi1 : Nat → Nat → Int32, (∀ o, o ≠ c → o ≠ w → mi1 o = mi o) → Rw n mi1 c (dvd q m d n (an c) f h).1 → Rw n mi1 w (dvd q m d n (an c) f h).2 → K mi1 ml) :
    wpV G e 154 m_X8_divide [.ref 10, .ref c, .ref b, .ref w] (mi, ml, RX y) K := by
  have hcN := hc.2
  have hbN := hb.2
  have wd := h0.w
  have hw2 := wd.n2
  have hn128 : n ≤ 128 := wd.2.2.2.2.2.2
  have hLl := rl_le h (an b)
  have hFl := rl_le f (an c)
  have hLe : rl h (an c) = rl h (an b) := rl_ext hb25 hh.2.1
  obtain ⟨low, hl⟩ : ∃ low, rl h (an b) = low + 1 := ⟨rl h (an b) - 1, by omega⟩
  have hz : ∀ i, low + 1 ≤ i → h i = 0 := fun k hk => by
    rcases Nat.lt_or_ge k (an b) with z | z
    · exact rl_above (by omega) z
    · exact hh.2.1 k z
  unfold dvd at hK
  rw [hLe, hl, Nat.add_sub_cancel] at hK
  apply e_X8_divide
  refine p_clear hwr (fun mi1 ho1 hr1 => ?_)
  have hf1 : Rw n mi1 c f := hf.off (ho1 c hcw)
  have hh1 : Rw n mi1 b h := hh.off (ho1 b hbw)
  have hw1 : Rw n mi1 w (fun _ => 0) := ⟨fun k hk => (hr1 k hk).1, fun _ _ => rfl, fun _ => by show 0 < n; omega⟩
  have hE1 : En q m d n g mi1 := h0.off (fun o o1 o2 => ho1 o (by omega))
  refine p_degreeOf hb (hh1.row hn128) ?_
  rw [hl, pd_succ]
  simp (disch := omega) only [s_le, s_lt, s_eq, s_eq0, s_in, s_ix, s_rm, s_div, s_pdlt, s_pdle, s_lepd, s_pdpd, s_pdlepd, s_pdadd, nI_add, pk_mul, pd_succ, Nat.not_lt_zero, Nat.zero_lt_succ, not_false_eq_true, not_true_eq_false, false_implies, true_implies, implies_true, and_true, true_and, Nat.reduceLT, Nat.reduceLeDiff, Nat.reduceAdd, Nat.reduceSub, Nat.zero_add, Nat.add_zero, Nat.zero_le]
  refine p_degreeOf hc (hf1.row hn128) ?_
  rcases Nat.lt_or_ge low (rl f (an c)) with c1 | c1
  · rw [pd_subn (by omega)]
    exact p_div_loop hc hb hwr hcb hcw hbw h16 hw25 mi1 hE1 hh1 (by omega) hz _ mi1 f (fun _ => 0) (by omega) (fun _ _ _ => rfl) hf1 hw1 (fun mi2 ho2 h2 h3 => hK mi2 (fun o oc ow => by rw [ho2 o oc ow, ho1 o ow]) h2 h3)
  · rw [show rl f (an c) - low = 0 by omega] at hK
    have hneg := pd_subneg (a := rl f (an c)) (b := low) c1 (by omega)
    apply b_X8_divide_25
    exact ⟨fun _ => hK mi1 (fun o oc ow => ho1 o ow) hf1 hw1, fun c2 => absurd hneg c2⟩
end TUR3
