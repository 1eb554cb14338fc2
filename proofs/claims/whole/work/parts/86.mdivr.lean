/-! the reference: divide rows -/
theorem tu_pos {q m d n x i : Nat} (hp : Pw q m d n) (h1 : 1 ≤ x) (hx : x < n) : 1 ≤ tu q m d x i := by
  obtain ⟨w, ⟨g0, g1, g2, g3⟩, hall⟩ := hp
  obtain ⟨hon, hT⟩ := hall g0 g1 g2 g3
  obtain ⟨j, j1, j2⟩ := hon x h1 hx
  rw [← j2, ← hT.2.2 j i j1]
  have hn2 := w.n2
  have := Nat.mod_lt (j * (q ^ (i % d) % (n - 1))) (show 0 < n - 1 by omega)
  exact gp_pos w g3.1 (by omega)
theorem mu_dv {q m d n a b : Nat} (hp : Pw q m d n) (ha : a < n) (hb : b < n) (h1 : 1 ≤ b) : mu q m (dv q m n a b) b = a := by
  have w := hp.1
  have hn2 := w.n2
  have hr := rinv_lt (q := q) (m := m) (b := b) (show 0 < n by omega)
  unfold dv
  rw [mu_assoc w ha hr hb, mu_comm w hr hb, mu_rinv hp hb h1, mu_1r w ha]
theorem cmb_self {q a : Nat} (h2 : 2 ≤ q) : cmb q (q - 1) 13 a a = 0 := by
  refine dg_ext h2 (cmb_lt _ h2 13 _ _) (Nat.pow_pos (by omega)) (fun k hk => ?_)
  rw [cmb_dg _ h2, if_pos hk, dg_zero]
  have e : dg q a k + (q - 1) * dg q a k = q * dg q a k := by
    obtain ⟨p, rfl⟩ : ∃ p, q = p + 1 := ⟨q - 1, by omega⟩
    rw [Nat.add_sub_cancel, Nat.add_mul, Nat.one_mul, Nat.add_comm]
  rw [e, Nat.mul_mod_right]
def off2 (a c : Nat) (mi mi1 : Nat → Nat → Int32) : Prop := (∀ o, o ≠ 161 → mi1 o = mi o) ∧ ∀ j, (j < 25 * a ∨ 25 * a + 25 ≤ j) → (j < 25 * c ∨ 25 * c + 25 ≤ j) → mi1 161 j = mi 161 j
theorem off2.refl (a c : Nat) (mi : Nat → Nat → Int32) : off2 a c mi mi := ⟨fun _ _ => rfl, fun _ _ _ => rfl⟩
theorem off2.trans {r s : Nat} {a b c : Nat → Nat → Int32} (h : off2 r s a b) (h1 : off2 r s b c) : off2 r s a c := ⟨fun o ho => by rw [h1.1 o ho, h.1 o ho], fun j hj hk => by rw [h1.2 j hj hk, h.2 j hj hk]⟩
theorem offV.two1 {a c : Nat} {mi mi1 : Nat → Nat → Int32} (h : offV a mi mi1) : off2 a c mi mi1 := ⟨h.1, fun j hj _ => h.2 j hj⟩
theorem offV.two2 {a c : Nat} {mi mi1 : Nat → Nat → Int32} (h : offV c mi mi1) : off2 a c mi mi1 := ⟨h.1, fun j _ hj => h.2 j hj⟩
theorem Wr.off2 {n r a c : Nat} {mi mi1 : Nat → Nat → Int32} {f : Nat → Nat} (h : Wr n mi r f) (ho : off2 a c mi mi1) (hne : r ≠ a) (hne2 : r ≠ c) : Wr n mi1 r f := ⟨h.1, fun k hk => by rw [ho.2 _ (by omega) (by omega)]; exact h.2.1 k hk, h.2.2⟩
/-- f less x t^k h, done below k + j -/
def dpi (q m d : Nat) (h f : Nat → Nat) (x k j : Nat) : Nat → Nat := fun i => if i < k + j then dvi q m d h f x k i else f i
section MDR
variable {G : GC} {e q m d n : Nat} {ml : Nat → Nat → Int64} {K : (Nat → Nat → Int32) → (Nat → Nat → Int64) → Prop}
theorem Mw.off2 {r s : Nat} {mi mi1 : Nat → Nat → Int32} (h : Mw q m d n mi) (ho : off2 r s mi mi1) : Mw q m d n mi1 := h.off (by rw [ho.1 155 (by omega)]; exact ⟨rfl, rfl⟩) (by rw [ho.1 154 (by omega)]; exact ⟨rfl, rfl⟩) (ho.1 158 (by omega)) (ho.1 159 (by omega)) (ho.1 160 (by omega))
theorem m_dv_in {a b c low k x : Nat} {f h : Nat → Nat} (mi0 : Nat → Nat → Int32) (h0 : Mw q m d n mi0) (hh : Wr n mi0 b h) (hf : Wr n mi0 a f) (hba : b ≠ a) (hc : c < 50) (hlow : rl h 25 = low + 1) (hfit : k + low < 25) (hx : x < n)
    (hK : ∀ mi1, offV a mi0 mi1 → Wr n mi1 a (dvi q m d h f x k) → wp G e tM m_X10_divideBy 12 [(0, .ref 154), (1, .int (nI a)), (2, .int (nI b)), (3, .int (nI c)), (4, .int (nI low))] [] (mi1, ml, RX RM) (QV K)) :
    ∀ (r j : Nat) (mi : Nat → Nat → Int32), r + j = low + 1 → offV a mi0 mi → Wr n mi a (dpi q m d h f x k j) → wp G e tM m_X10_divideBy 94 [(0, .ref 154), (1, .int (nI a)), (2, .int (nI b)), (3, .int (nI c)), (4, .int (nI low)), (6, .int (nI k)), (7, .int (nI x)), (8, .int (nI j))] [] (mi, ml, RX RM) (QV K) := by
  have w := h0.1.1
  have h2 := w.q2
  have hn2 := h0.two
  have hq2 := h0.2.1.1.two
  have ha := hf.1
  have hb := hh.1
  have hLh : ∀ k, low + 1 ≤ k → h k = 0 := fun k hk => by
    by_cases c : k < 25
    · exact rl_above (by omega) c
    · exact hh.2.2.1 k (by omega)
  intro r
  induction r with
  | zero =>
    intro j mi hj ho hc2
    have : j = low + 1 := by omega
    subst this
    have e : dpi q m d h f x k (low + 1) = dvi q m d h f x k := funext (fun i => by
      unfold dpi
      split
      · rfl
      · rw [dvi_stop w hf.2.2.2 hLh x k (by omega)])
    rw [e] at hc2
    apply b_X10_divideBy_94
    simp (disch := omega) only [s_le, s_lt, s_eq, s_eq0, s_in, s_ix, s_rm, s_div, s_pdlt, s_pdle, s_lepd, s_pdpd, s_pdlepd, s_pdadd, nI_add, pk_mul, pd_succ, Nat.not_lt_zero, Nat.zero_lt_succ, not_false_eq_true, not_true_eq_false, false_implies, true_implies, implies_true, and_true, true_and, Nat.reduceLT, Nat.reduceLeDiff, Nat.reduceAdd, Nat.reduceSub, Nat.zero_add, Nat.add_zero]
    exact ⟨fun _ => hK mi ho hc2, fun c => absurd (show low < low + 1 by omega) c⟩
  | succ r ih =>
    intro j mi hj ho hc2
    have hM := h0.offV ho
    have hhm := hh.offV ho hba
    have e1 := hhm.2.1 j (by omega)
    have e2 := hc2.2.1 (k + j) (by omega)
    have htl := tu_lt w (i := k) (hh.2.2.2 j)
    have hml := mu_lt w (a := x) htl
    have e3 : dpi q m d h f x k j (k + j) = f (k + j) := if_neg (by omega)
    rw [e3] at e2
    have e4 : cmb q (q - 1) 13 (f (k + j)) (mu q m x (tu q m d (h j) k)) = dvi q m d h f x k (k + j) := by
      unfold dvi
      rw [if_pos (by omega), show k + j - k = j by omega]
    have hnew : Wr n (u2 mi 161 (25 * a + (k + j)) (nI (dvi q m d h f x k (k + j)))) a (dpi q m d h f x k (j + 1)) := by
      refine ⟨ha, fun i hi => ?_, fun i hi => ?_, fun i => ?_⟩
      · by_cases cc : i = k + j
        · rw [cc, u2_at]
          unfold dpi
          rw [if_pos (by omega)]
        · rw [u2_ne (by omega), hc2.2.1 i hi]
          unfold dpi
          by_cases c4 : i < k + j
          · rw [if_pos c4, if_pos (by omega)]
          · rw [if_neg c4, if_neg (by omega)]
      · unfold dpi
        rw [if_neg (by omega)]
        exact hf.2.2.1 i hi
      · unfold dpi
        split
        · exact dvi_lt w hf.2.2.2 hh.2.2.2 x k i
        · exact hf.2.2.2 i
    have next := ih (j + 1) (u2 mi 161 (25 * a + (k + j)) (nI (dvi q m d h f x k (k + j)))) (by omega) (ho.put (by omega)) hnew
    rw [← e4, ← Nat.add_assoc] at next
    rw [← Nat.add_assoc] at e2
    apply b_X10_divideBy_94
    simp (disch := omega) only [s_le, s_lt, s_eq, s_eq0, s_in, s_ix, s_rm, s_div, s_pdlt, s_pdle, s_lepd, s_pdpd, s_pdlepd, s_pdadd, nI_add, pk_mul, pd_succ, Nat.not_lt_zero, Nat.zero_lt_succ, not_false_eq_true, not_true_eq_false, false_implies, true_implies, implies_true, and_true, true_and, Nat.reduceLT, Nat.reduceLeDiff, Nat.reduceAdd, Nat.reduceSub, Nat.zero_add, Nat.add_zero, e1, e2]
    refine ⟨fun c => absurd c (by omega), fun _ => ⟨by omega, by omega, m_raise hM (hh.2.2.2 j) (by omega) (m_mul hM hx htl ?_)⟩⟩
    simp (disch := omega) only [s_le, s_lt, s_eq, s_eq0, s_in, s_ix, s_rm, s_div, s_pdlt, s_pdle, s_lepd, s_pdpd, s_pdlepd, s_pdadd, nI_add, pk_mul, pd_succ, Nat.not_lt_zero, Nat.zero_lt_succ, not_false_eq_true, not_true_eq_false, false_implies, true_implies, implies_true, and_true, true_and, Nat.reduceLT, Nat.reduceLeDiff, Nat.reduceAdd, Nat.reduceSub, Nat.zero_add, Nat.add_zero, hM.2.1.1.2]
    rw [s_sub (by omega)]
    exact m_sumOf hM.2.1.1 (w.lt13 (hf.2.2.2 _)) (w.lt13 hml) (by omega) ⟨by omega, next⟩
theorem m_dv_loop {a b c low : Nat} {h : Nat → Nat} (mi0 : Nat → Nat → Int32) (h0 : Mw q m d n mi0) (hh : Wr n mi0 b h) (hba : b ≠ a) (hbc : b ≠ c) (hac : a ≠ c) (hc : c < 50) (ha : a < 50) (hlow : rl h 25 = low + 1) :
    ∀ (k : Nat) (f u : Nat → Nat) (mi : Nat → Nat → Int32), k + low ≤ 25 → (∀ i, k + low ≤ i → f i = 0) → (∀ i, i < k → u i = 0) → off2 a c mi0 mi → Wr n mi a f → Wr n mi c u →
      (∀ mi1, off2 a c mi0 mi1 → Wr n mi1 a (dvl q m d n h low k f u).1 → Wr n mi1 c (dvl q m d n h low k f u).2 → K mi1 ml) →
      wp G e tM m_X10_divideBy 12 [(0, .ref 154), (1, .int (nI a)), (2, .int (nI b)), (3, .int (nI c)), (4, .int (nI low))] [] (mi, ml, RX RM) (QV K) := by
  have w := h0.1.1
  have h2 := w.q2
  have hn2 := h0.two
  have hb := hh.1
  have hl25 := rl_le h 25
  intro k
  induction k with
  | zero =>
    intro f u mi hk hz hu ho hf hw hK
    have hr : rl f 25 ≤ low := by
      rcases Nat.lt_or_ge low (rl f 25) with c | c
      · have hr25 := rl_le f 25
        obtain ⟨x, hx⟩ : ∃ x, rl f 25 = x + 1 := ⟨rl f 25 - 1, by omega⟩
        exact absurd (hz x (by omega)) (rl_top hx)
      · exact c
    apply b_X10_divideBy_12
    refine m_degreeAt hn2.2 hf ?_
    rw [pd_ltc (by omega) (by omega)]
    exact ⟨fun _ => hK mi ho hf hw, fun c => absurd hr c⟩
  | succ k ih =>
    intro f u mi hk hz hu ho hf hw hK
    have hM := h0.off2 ho
    have hhm := hh.off2 ho hba hbc
    by_cases c0 : f (k + low) = 0
    · have e0 : dv q m n (f (k + low)) (tu q m d (h low) k) = 0 := by rw [c0, dv_0l h2]
      have e1 : dvi q m d h f 0 k = f := funext (fun i => by
        unfold dvi
        split
        · rw [mu_0l h2, cmb_0r h2 (w.lt13 (hf.2.2.2 i))]
        · rfl)
      have e2 : up1 u k 0 = u := funext (fun i => by
        unfold up1
        split
        · next c => rw [c, hu k (by omega)]
        · rfl)
      have e3 : dvl q m d n h low (k + 1) f u = dvl q m d n h low k f u := by
        show dvl q m d n h low k (dvi q m d h f _ k) (up1 u k _) = _
        rw [e0, e1, e2]
      rw [e3] at hK
      exact ih f u mi (by omega) (fun i hi => by
        by_cases c : i = k + low
        · rw [c]; exact c0
        · exact hz i (by omega)) (fun i hi => hu i (by omega)) ho hf hw hK
    · have hr : rl f 25 = k + low + 1 := by
        rcases Nat.lt_or_ge (k + low) (rl f 25) with c | c
        · have hr25 := rl_le f 25
          obtain ⟨x, hx⟩ : ∃ x, rl f 25 = x + 1 := ⟨rl f 25 - 1, by omega⟩
          have := rl_top hx
          rcases Nat.lt_or_ge (k + low) x with c3 | c3
          · exact absurd (hz x (by omega)) this
          · omega
        · exact absurd (rl_above c (by omega)) c0
      have hpos : 1 ≤ h low := by have := rl_top hlow; omega
      have htl := tu_lt w (i := k) (hh.2.2.2 low)
      have htp := tu_pos (i := k) hM.1 hpos (hh.2.2.2 low)
      have hft := hf.2.2.2 (k + low)
      have e1 := hf.2.1 (k + low) (by omega)
      have e2 := hhm.2.1 low (by omega)
      have hdl := dv_lt w (a := f (k + low)) (b := tu q m d (h low) k)
      have hwr : Wr n (u2 mi 161 (25 * c + k) (nI (dv q m n (f (k + low)) (tu q m d (h low) k)))) c (up1 u k (dv q m n (f (k + low)) (tu q m d (h low) k))) := by
        refine ⟨hc, fun i hi => ?_, fun i hi => ?_, fun i => ?_⟩
        · by_cases cc : i = k
          · rw [cc, u2_at]
            unfold up1
            rw [if_pos rfl]
          · rw [u2_ne (by omega), hw.2.1 i hi]
            unfold up1
            rw [if_neg cc]
        · unfold up1
          rw [if_neg (by omega)]
          exact hw.2.2.1 i hi
        · unfold up1
          split
          · exact hdl
          · exact hw.2.2.2 i
      have hoV : offV c mi (u2 mi 161 (25 * c + k) (nI (dv q m n (f (k + low)) (tu q m d (h low) k)))) := (offV.refl c mi).put (by omega)
      apply b_X10_divideBy_12
      refine m_degreeAt hn2.2 hf ?_
      rw [pd_ltc (by omega) (by omega), hr]
      refine ⟨fun z => absurd z (by omega), fun _ => m_degreeAt hn2.2 hf ?_⟩
      rw [hr, pd_succ, s_sub (by omega), show k + low - low = k by omega]
      simp (disch := omega) only [s_le, s_lt, s_eq, s_eq0, s_in, s_ix, s_rm, s_div, s_pdlt, s_pdle, s_lepd, s_pdpd, s_pdlepd, s_pdadd, nI_add, pk_mul, pd_succ, Nat.not_lt_zero, Nat.zero_lt_succ, not_false_eq_true, not_true_eq_false, false_implies, true_implies, implies_true, and_true, true_and, Nat.reduceLT, Nat.reduceLeDiff, Nat.reduceAdd, Nat.reduceSub, Nat.zero_add, Nat.add_zero, e1, e2]
      refine ⟨by omega, by omega, m_raise hM (hh.2.2.2 low) (by omega) ?_⟩
      simp (disch := omega) only [s_le, s_lt, s_eq, s_eq0, s_in, s_ix, s_rm, s_div, s_pdlt, s_pdle, s_lepd, s_pdpd, s_pdlepd, s_pdadd, nI_add, pk_mul, pd_succ, Nat.not_lt_zero, Nat.zero_lt_succ, not_false_eq_true, not_true_eq_false, false_implies, true_implies, implies_true, and_true, true_and, Nat.reduceLT, Nat.reduceLeDiff, Nat.reduceAdd, Nat.reduceSub, Nat.zero_add, Nat.add_zero, hM.2.2.2.1 _ htl]
      refine ⟨by omega, m_mul hM hft (rinv_lt (by omega)) ⟨by omega, ?_⟩⟩
      refine m_dv_in _ (hM.offV hoV) (hhm.offV hoV hbc) (hf.offV hoV hac) hba hc hlow (by omega) hdl (fun mi1 ho1 hf1 => ?_) (low + 1) 0 _ rfl (offV.refl a _) ?_
      · refine ih _ _ mi1 (by omega) (fun i hi => ?_) (fun i hi => ?_) ((ho.trans hoV.two2).trans ho1.two1) hf1 (hwr.offV ho1 (fun z => hac z.symm)) hK
        · by_cases c : i = k + low
          · subst c
            unfold dvi
            rw [if_pos (by omega), show k + low - k = low by omega, mu_dv hM.1 hft htl htp, cmb_self h2]
          · rw [dvi_stop w hf.2.2.2 (L := low + 1) (fun j hj => ?_) _ _ (by omega)]
            · exact hz i (by omega)
            · by_cases c : j < 25
              · exact rl_above (by omega) c
              · exact hh.2.2.1 j (by omega)
        · unfold up1
          rw [if_neg (by omega)]
          exact hu i (by omega)
      · have e : dpi q m d h f (dv q m n (f (k + low)) (tu q m d (h low) k)) k 0 = f := funext (fun i => by
          unfold dpi
          split
          · next c =>
            unfold dvi
            rw [if_neg (by omega)]
          · rfl)
        rw [e]
        exact hf.offV hoV hac
theorem m_divideBy {a b c : Nat} {f h : Nat → Nat} {mi : Nat → Nat → Int32} (h0 : Mw q m d n mi) (hf : Wr n mi a f) (hh : Wr n mi b h) (hba : b ≠ a) (hbc : b ≠ c) (hac : a ≠ c) (hc : c < 50) (h1 : 1 ≤ rl h 25)
    (hK : ∀ mi1, off2 a c mi mi1 → Wr n mi1 a (dvd q m d n 25 f h).1 → Wr n mi1 c (dvd q m d n 25 f h).2 → K mi1 ml) : wpV G e 168 m_X10_divideBy [.ref 154, .int (nI a), .int (nI b), .int (nI c)] (mi, ml, RX RM) K := by
  have hn2 := h0.two
  have hl25 := rl_le h 25
  have hf25 := rl_le f 25
  obtain ⟨low, hlow⟩ : ∃ low, rl h 25 = low + 1 := ⟨rl h 25 - 1, by omega⟩
  unfold dvd at hK
  rw [hlow, Nat.add_sub_cancel] at hK
  apply e_X10_divideBy
  refine m_clear (n := n) hc (by omega) (fun mi1 ho hz => m_degreeAt hn2.2 (hh.offV ho hbc) ?_)
  rw [hlow, pd_succ]
  have hfz : ∀ i, rl f 25 ≤ i → f i = 0 := fun i hi => by
    by_cases c : i < 25
    · exact rl_above hi c
    · exact hf.2.2.1 i (by omega)
  exact m_dv_loop mi h0 hh hba hbc hac hc hf.1 hlow (rl f 25 - low) f (fun _ => 0) mi1 (by omega) (fun i hi => hfz i (by omega)) (fun i _ => rfl) ho.two2 (hf.offV ho hac) hz hK
end MDR
