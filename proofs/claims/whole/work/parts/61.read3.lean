/-! class Reader: putting, adding, multiplying -/
def Vd (n : Nat) (s : PS) (t : Nat) : Prop := ∀ k, sS s t k < n
section RD3
variable {G : GC} {e q m d n g c len nC : Nat} {tx : Nat → Nat} {w : Bool} {s : PS} {mi : Nat → Nat → Int32} {ml : Nat → Nat → Int64} {y : Nat → Nat → Option Nat}
theorem RE.row (h : RE q m d n g c len tx w nC s mi) {i : Nat} (hi : i < 20) : Rw 128 mi (75 + i) (sS s i) := h.2.2.2.2.2.2.2.2.2 i hi
theorem RE.rown (h : RE q m d n g c len tx w nC s mi) {i : Nat} (hi : i < 20) (hv : Vd n s i) : Rw n mi (75 + i) (sS s i) := ⟨(h.row hi).1, (h.row hi).2.1, hv⟩
theorem RE.n128 (h : RE q m d n g c len tx w nC s mi) : n ≤ 128 := h.1.w.2.2.2.2.2.2
theorem lt128 (h : RE q m d n g c len tx w nC s mi) {x : Nat} (hx : x < 128) : x < q ^ 13 := by
  have h2 := h.1.w.q2
  have h1 : 2 ^ 13 ≤ q ^ 13 := Nat.pow_le_pow_left h2 13
  omega
/-- a row changed -/
theorem RE.rows (h : RE q m d n g c len tx w nC s mi) {mi1 : Nat → Nat → Int32} {S : Nat → Nat → Nat} (ho : ∀ o, (o < 75 ∨ 94 < o) → mi1 o = mi o) (hr : ∀ i, i < 20 → Rw 128 mi1 (75 + i) (S i)) : RE q m d n g c len tx w nC (sL s, sK s, S, sF s, sA s) mi1 :=
  h.off (fun o oo => ho o (by omega)) (h.2.2.rows (ho 73 (by omega)) hr)
theorem rows_one {mi1 : Nat → Nat → Int32} {S : Nat → Nat → Nat} {t : Nat} {f : Nat → Nat} (h : ∀ i, i < 20 → i ≠ t → Rw 128 mi (75 + i) (S i)) (ho : ∀ o, o ≠ 75 + t → mi1 o = mi o) (hf : Rw 128 mi1 (75 + t) f) : ∀ i, i < 20 → Rw 128 mi1 (75 + i) (upR S t f i) := by
  intro i hi
  by_cases c1 : i = t
  · rw [c1, upR_eq]
    exact hf
  · rw [upR_ne c1]
    exact (h i hi c1).off (ho _ (by omega))
theorem p_put (h : RE q m d n g c len tx w nC s mi) {t i x : Nat} (ht : t ≤ 18) (hi : i < 25) (hx : wk w s = true → x < 128) {K : (Nat → Nat → Int32) → (Nat → Nat → Int64) → Prop}
    (hK : ∀ mi1, offR mi mi1 → RE q m d n g c len tx w nC (putS w s t i x) mi1 → K mi1 ml) : wpV G e 154 m_X4_put [.ref 73, .int (nI t), .int (nI i), .int (nI x)] (mi, ml, RX y) K := by
  obtain ⟨r1, r2⟩ := rd_row (show t < 20 by omega)
  unfold putS at hK
  apply e_X4_put
  refine p_isWorking h ht ?_
  by_cases cw : wk w s = true
  · rw [if_pos cw] at hK
    rw [cw]
    refine ⟨fun z => absurd z (by decide), fun _ => ?_⟩
    simp (disch := omega) only [s_le, s_lt, s_eq, s_eq0, s_in, s_ix, s_rm, s_div, s_pdlt, s_pdle, s_lepd, s_pdpd, s_pdlepd, s_pdadd, nI_add, pk_mul, pd_succ, Nat.not_lt_zero, Nat.zero_lt_succ, not_false_eq_true, not_true_eq_false, false_implies, true_implies, implies_true, and_true, true_and, Nat.reduceLT, Nat.reduceLeDiff, Nat.reduceAdd, Nat.reduceSub, Nat.zero_add, Nat.add_zero]
    refine ⟨by omega, p_clear r1 (fun mi1 ho1 hr1 => ?_)⟩
    rw [r2]
    refine ⟨by omega, r1.1, by omega, ?_⟩
    have ho2 : ∀ o, o ≠ 75 + t → u2 mi1 (75 + t) i (nI x) o = mi o := fun o h => by rw [u2_off h]; exact ho1 o h
    refine hK _ (fun o oo => ho2 o (by omega)) (h.rows (fun o oo => ho2 o (by omega)) (rows_one (fun j hj _ => h.row hj) ho2 ⟨fun k hk => ?_, fun k hk => ?_, fun k => ?_⟩))
    · rw [u2_on]
      show (if k = i then _ else _) = nI (if k = i then x else 0)
      by_cases z : k = i
      · rw [if_pos z, if_pos z]
      · rw [if_neg z, if_neg z]
        exact (hr1 k hk).1
    · show (if k = i then x else 0) = 0
      rw [if_neg (by omega)]
    · show (if k = i then x else 0) < 128
      have := hx cw
      split <;> omega
  · rw [if_neg cw] at hK
    rw [show bi (wk w s) = 0 from if_neg cw]
    exact ⟨fun _ => hK mi (fun _ _ => rfl) h, fun z => absurd rfl z⟩
theorem mix_row (h : RE q m d n g c len tx w nC s mi) {a b sc : Nat} (ha : a < 20) (hb : b < 20) (hab : a ≠ b) (hs : sc < q) {mi1 : Nat → Nat → Int32} (hE : En q m d n g mi1) {u v : Nat → Nat} (hu : Rw n mi1 (75 + a) u) (hv : Rw n mi1 (75 + b) v) {K : (Nat → Nat → Int32) → (Nat → Nat → Int64) → Prop}
    (hK : ∀ mi2, (∀ o, o ≠ 75 + a → mi2 o = mi1 o) → Rw n mi2 (75 + a) (fun k => cmb q sc 13 (u k) (v k)) → K mi2 ml) : wpV G e 154 m_X8_mix [.ref 10, .ref (75 + a), .ref (75 + b), .int (nI sc)] (mi1, ml, RX y) K := by
  have w := hE.w
  have hq2 := w.q2
  obtain ⟨a1, a2⟩ := rd_row ha
  obtain ⟨b1, b2⟩ := rd_row hb
  refine p_tmix hE.1 a1 b1 (by omega) (by omega) hs (hu.row h.n128) (hv.row h.n128) (fun k => w.lt13 (hu.2.2 k)) (fun k => w.lt13 (hv.2.2 k)) (fun mi2 ho2 hr2 => hK mi2 ho2 ⟨fun k hk => ?_, fun k hk => ?_, fun k => cmb_ltn w (hu.2.2 k) (hv.2.2 k)⟩)
  · have h2 : mi2 (75 + a) k = nI (if k < an (75 + b) then cmb q sc 13 (u k) (v k) else u k) := (hr2 k hk).1
    rw [h2, if_pos (by omega)]
  · show cmb q sc 13 (u k) (v k) = 0
    rw [hu.2.1 k hk, hv.2.1 k (by omega), cmb_zero _ hq2]
theorem p_addUp (h : RE q m d n g c len tx w nC s mi) {t : Nat} {less : Bool} (ht : t ≤ 18) (hv1 : wk w s = true → Vd n s t ∧ Vd n s (t + 1)) {K : (Nat → Nat → Int32) → (Nat → Nat → Int64) → Prop}
    (hK : ∀ mi1, offR mi mi1 → RE q m d n g c len tx w nC (addS w q s t less) mi1 → K mi1 ml) : wpV G e 154 m_X4_addUp [.ref 73, .int (nI t), .int (nI (bi less))] (mi, ml, RX y) K := by
  have w0 := h.1.w
  have hq2 := h.1.1.two
  unfold addS at hK
  apply e_X4_addUp
  refine p_isWorking h ht ?_
  by_cases cw : wk w s = true
  · rw [if_pos cw] at hK
    rw [cw]
    obtain ⟨v1, v2⟩ := hv1 cw
    refine ⟨fun z => absurd z (by decide), fun _ => ?_⟩
    rw [nI_add, s_ix (by omega), s_ix (by omega), s_in (by omega), s_in (by omega)]
    have fin : ∀ sc, sc = (if less = true then q - 1 else 1) → wpV G e 154 m_X8_mix [.ref 10, .ref (75 + t), .ref (75 + (t + 1)), .int (nI sc)] (mi, ml, RX y) K := fun sc hsc => by
      refine mix_row h (by omega) (by omega) (by omega) (by rw [hsc]; split <;> omega) h.1 (h.rown (by omega) v1) (h.rown (by omega) v2) (fun mi2 ho2 hr2 => ?_)
      rw [hsc] at hr2
      exact hK mi2 (fun o oo => ho2 o (by omega)) (h.rows (fun o oo => ho2 o (by omega)) (rows_one (fun j hj _ => h.row hj) ho2 (hr2.up h.n128 rfl)))
    refine ⟨by omega, by omega, fun z => ?_, fun z => ?_⟩
    · have hl : less = false := by
        cases less
        · rfl
        · exact absurd z (by decide)
      exact fin 1 (by rw [hl]; rfl)
    · have hl := (bi_ne less).mp z
      refine p_negative h.1.1 (by omega) ?_
      rw [Nat.mod_eq_of_lt (by omega)]
      exact fin (q - 1) (by rw [hl]; rfl)
  · rw [if_neg cw] at hK
    rw [show bi (wk w s) = 0 from if_neg cw]
    exact ⟨fun _ => hK mi (fun _ _ => rfl) h, fun z => absurd rfl z⟩
/-- one multiplication at t, where it is worked -/
theorem p_mulAt (h : RE q m d n g c len tx w nC s mi) {t : Nat} (ht : t ≤ 18) (v1 : Vd n s t) (v2 : Vd n s (t + 1)) {K : Int32 → (Nat → Nat → Int32) → (Nat → Nat → Int64) → Prop}
    (hK0 : (0 < rl (sS s t) 25 ∧ 0 < rl (sS s (t + 1)) 25 ∧ 26 < rl (sS s t) 25 + rl (sS s (t + 1)) 25) → K (nI 0) mi ml)
    (hK1 : ¬ (0 < rl (sS s t) 25 ∧ 0 < rl (sS s (t + 1)) 25 ∧ 26 < rl (sS s t) 25 + rl (sS s (t + 1)) 25) → ∀ mi1, (∀ o, (o < 75 ∨ 94 < o) → mi1 o = mi o) → RE q m d n g c len tx w nC (sL s, sK s, upR (sS s) t (cv q m d (sS s t) (sS s (t + 1))), sF s, sA s) mi1 → K (nI 1) mi1 ml) :
    wpI G e 154 m_X8_multiply [.ref 10, .ref (75 + t), .ref (75 + (t + 1))] (mi, ml, RX y) K := by
  obtain ⟨a1, a2⟩ := rd_row (show t < 20 by omega)
  obtain ⟨b1, b2⟩ := rd_row (show t + 1 < 20 by omega)
  refine p_multiply h.1 a1 b1 (by omega) (by omega) (by omega) (by omega) (h.rown (by omega) v1) (h.rown (by omega) v2) (fun c1 c2 c3 => ?_) (fun cc mi1 ho1 hr1 => ?_)
  · rw [a2] at c1 c3
    rw [b2] at c2 c3
    exact hK0 ⟨c1, c2, by omega⟩
  · rw [a2, b2] at cc
    exact hK1 (by omega) mi1 (fun o oo => ho1 o (by omega)) (h.rows (fun o oo => ho1 o (by omega)) (rows_one (fun j hj _ => h.row hj) ho1 (hr1.up h.n128 rfl)))
theorem RE.stuck (h : RE q m d n g c len tx w nC s mi) {b : Bool} : RE q m d n g c len tx w nC (sL s, b, sS s, sF s, sA s) (u2 mi 73 6 (nI (bi b))) := h.off (fun o oo => u2_off (by omega)) h.2.2.stuck
theorem p_multiplyUp (h : RE q m d n g c len tx w nC s mi) {t : Nat} (ht : t ≤ 18) (hv1 : wk w s = true → Vd n s t ∧ Vd n s (t + 1)) {K : (Nat → Nat → Int32) → (Nat → Nat → Int64) → Prop}
    (hK : ∀ mi1, offR mi mi1 → RE q m d n g c len tx w nC (mulS w q m d s t) mi1 → K mi1 ml) : wpV G e 154 m_X4_multiplyUp [.ref 73, .int (nI t)] (mi, ml, RX y) K := by
  unfold mulS at hK
  apply e_X4_multiplyUp
  refine p_isWorking h ht ?_
  by_cases cw : wk w s = true
  · rw [if_pos cw] at hK
    rw [cw]
    obtain ⟨v1, v2⟩ := hv1 cw
    refine ⟨fun z => absurd z (by decide), fun _ => ?_⟩
    rw [nI_add, s_ix (by omega), s_ix (by omega), s_in (by omega), s_in (by omega)]
    refine ⟨by omega, by omega, p_mulAt h ht v1 v2 (fun cc => ?_) (fun cc mi1 ho1 h1 => ?_)⟩
    · rw [if_pos cc] at hK
      refine ⟨fun z => absurd rfl z, fun _ => ⟨Or.inr rfl, hK _ (fun o oo => u2_off (by omega)) ?_⟩⟩
      exact h.stuck (b := true)
    · rw [if_neg cc] at hK
      exact ⟨fun _ => hK mi1 (fun o oo => ho1 o (by omega)) h1, fun z => absurd z (by decide)⟩
  · rw [if_neg cw] at hK
    rw [show bi (wk w s) = 0 from if_neg cw]
    exact ⟨fun _ => hK mi (fun _ _ => rfl) h, fun z => absurd rfl z⟩
theorem p_copyUp (h : RE q m d n g c len tx w nC s mi) {t : Nat} (ht : t ≤ 18) {K : (Nat → Nat → Int32) → (Nat → Nat → Int64) → Prop}
    (hK : ∀ mi1, (∀ o, (o < 75 ∨ 94 < o) → mi1 o = mi o) → RE q m d n g c len tx w nC (sL s, sK s, upR (sS s) (t + 1) (sS s t), sF s, sA s) mi1 → K mi1 ml) : wpV G e 154 m_X8_copy [.ref (75 + t), .ref (75 + (t + 1))] (mi, ml, RX y) K := by
  obtain ⟨a1, a2⟩ := rd_row (show t < 20 by omega)
  obtain ⟨b1, b2⟩ := rd_row (show t + 1 < 20 by omega)
  refine p_copyR a1 b1 (by omega) (by omega) (h.row (by omega)) (fun k hk => (h.row (show t < 20 by omega)).2.1 k (by omega)) (fun mi1 ho1 hr1 => ?_)
  exact hK mi1 (fun o oo => ho1 o (by omega)) (h.rows (fun o oo => ho1 o (by omega)) (rows_one (fun j hj _ => h.row hj) ho1 hr1))
theorem p_turnOver (h : RE q m d n g c len tx w nC s mi) {t : Nat} (ht : t ≤ 18) (hv1 : wk w s = true → Vd n s t) {K : (Nat → Nat → Int32) → (Nat → Nat → Int64) → Prop}
    (hK : ∀ mi1, offR mi mi1 → RE q m d n g c len tx w nC (turnS w q s t) mi1 → K mi1 ml) : wpV G e 154 m_X4_turnOver [.ref 73, .int (nI t)] (mi, ml, RX y) K := by
  have hq2 := h.1.1.two
  have hn2 := h.1.w.n2
  obtain ⟨a1, a2⟩ := rd_row (show t < 20 by omega)
  unfold turnS at hK
  apply e_X4_turnOver
  refine p_isWorking h ht ?_
  by_cases cw : wk w s = true
  · rw [if_pos cw] at hK
    rw [cw]
    have v1 := hv1 cw
    refine ⟨fun z => absurd z (by decide), fun _ => ?_⟩
    rw [nI_add, s_ix (by omega), s_ix (by omega), s_in (by omega), s_in (by omega)]
    refine ⟨by omega, by omega, p_copyUp h ht (fun mi1 ho1 h1 => ⟨by omega, p_clear a1 (fun mi2 ho2 hr2 => ⟨by omega, by omega, ?_⟩)⟩)⟩
    have hE2 : En q m d n g mi2 := h1.1.off (fun o o1 o2 => ho2 o (by omega))
    refine p_negative hE2.1 (by omega) ?_
    rw [Nat.mod_eq_of_lt (by omega)]
    have hb : Rw n mi2 (75 + (t + 1)) (sS s t) := by
      have := h1.row (show t + 1 < 20 by omega)
      rw [show sS (sL s, sK s, upR (sS s) (t + 1) (sS s t), sF s, sA s) (t + 1) = sS s t from upR_eq] at this
      exact ⟨fun k hk => by rw [ho2 _ (by omega)]; exact this.1 k hk, this.2.1, v1⟩
    refine mix_row h (a := t) (b := t + 1) (u := fun _ => 0) (by omega) (by omega) (by omega) (by omega) hE2 ⟨fun k hk => (hr2 k hk).1, fun _ _ => rfl, fun _ => by show 0 < n; omega⟩ hb (fun mi3 ho3 hr3 => ?_)
    refine hK mi3 (fun o oo => by rw [ho3 o (by omega), ho2 o (by omega), ho1 o (by omega)]) (h.rows (fun o oo => by rw [ho3 o (by omega), ho2 o (by omega), ho1 o (by omega)]) (rows_one (mi := mi2) (S := upR (sS s) (t + 1) (sS s t)) (fun j hj hjt => (h1.row hj).off (ho2 _ (by omega))) ho3 (hr3.up h.n128 rfl)))
  · rw [if_neg cw] at hK
    rw [show bi (wk w s) = 0 from if_neg cw]
    exact ⟨fun _ => hK mi (fun _ _ => rfl) h, fun z => absurd rfl z⟩
theorem rsl_wk {w : Bool} {q m d t : Nat} : ∀ (f : Nat) (s : PS), ¬ wk w s = true → rsl w q m d t f s = s
  | 0, _, _ => rfl
  | f + 1, s, h => by
    unfold rsl
    have : mulS w q m d s t = s := if_neg h
    rw [this]
    exact rsl_wk f s h
theorem p_raise_loop {t p : Nat} (ht : t ≤ 18) (hp : p ≤ 24) (hw : w = true) (mi0 : Nat → Nat → Int32) {K : (Nat → Nat → Int32) → (Nat → Nat → Int64) → Prop} :
    ∀ (f i : Nat) (s : PS) (mi : Nat → Nat → Int32), f + i = p → offR mi0 mi → RE q m d n g c len tx w nC s mi → (wk w s = true → Vd n s t ∧ Vd n s (t + 1)) → (∀ mi1, offR mi0 mi1 → RE q m d n g c len tx w nC (rsl w q m d t f s) mi1 → K mi1 ml) →
      wp G e tX m_X4_raise 34 [(0, .ref 73), (1, .int (nI t)), (2, .int (nI p)), (3, .int (nI i))] [] (mi, ml, RX y) (QV K) := by
  intro f
  induction f with
  | zero =>
    intro i s mi hf ho h hv hK
    apply b_X4_raise_34
    simp (disch := omega) only [s_le, s_lt, s_eq, s_eq0, s_in, s_ix, s_rm, s_div, s_pdlt, s_pdle, s_lepd, s_pdpd, s_pdlepd, s_pdadd, nI_add, pk_mul, pd_succ, Nat.not_lt_zero, Nat.zero_lt_succ, not_false_eq_true, not_true_eq_false, false_implies, true_implies, implies_true, and_true, true_and, Nat.reduceLT, Nat.reduceLeDiff, Nat.reduceAdd, Nat.reduceSub, Nat.zero_add, Nat.add_zero]
    exact ⟨fun _ => hK mi ho h, fun z => absurd (show p ≤ i by omega) z⟩
  | succ f ih =>
    intro i s mi hf ho h hv hK
    have h6 : mi 73 6 = nI (bi (sK s)) := h.2.2.2.2.2.1
    have hwd := h.1.w
    unfold rsl at hK
    apply b_X4_raise_34
    rw [h6, nI_add i 1, nI_add t 1, s_ix (n := t) (by omega), s_ix (n := t + 1) (by omega), s_in (n := t) (by omega), s_in (n := t + 1) (by omega)]
    refine ⟨fun z => ?_, fun _ => ⟨fun z => ?_, fun _ => ⟨fun z => ?_, fun z => ?_⟩⟩⟩
    · rw [s_le (by omega) (by omega)] at z
      omega
    · rw [s_le (by omega) (by omega)] at z
      omega
    · have hk := (bi_ne (sK s)).mp z
      have hnw : ¬ wk w s = true := by
        unfold wk
        rw [hk, Bool.not_true, Bool.and_false]
        exact Bool.false_ne_true
      have hm : mulS w q m d s t = s := if_neg hnw
      rw [hm] at hK
      have h1 := h.stuck (b := true)
      have e1 : (sL s, true, sS s, sF s, sA s) = s := by rw [← hk]
      rw [e1] at h1
      exact ⟨Or.inr rfl, ih (i + 1) s _ (by omega) (fun o oo => by rw [u2_off (by omega)]; exact ho o oo) h1 hv hK⟩
    · have hk : sK s = false := by
        cases hc : sK s
        · rfl
        · rw [hc] at z
          exact absurd z (by decide)
      have hwk : wk w s = true := by
        unfold wk
        rw [hk, hw]
        rfl
      obtain ⟨v1, v2⟩ := hv hwk
      unfold mulS at hK
      rw [if_pos hwk] at hK
      refine ⟨by omega, by omega, p_mulAt h ht v1 v2 (fun cc => ?_) (fun cc mi1 ho1 h1 => ?_)⟩
      · rw [if_pos cc] at hK
        refine ⟨fun z => absurd rfl z, fun _ => ⟨Or.inr rfl, ?_⟩⟩
        refine ih (i + 1) _ _ (by omega) (fun o oo => by rw [u2_off (by omega)]; exact ho o oo) (h.stuck (b := true)) (fun z => absurd z ?_) hK
        show ¬ (w && !true) = true
        rw [Bool.not_true, Bool.and_false]
        exact Bool.false_ne_true
      · rw [if_neg cc] at hK
        refine ⟨fun _ => ⟨Or.inl rfl, ?_⟩, fun z => absurd z (by decide)⟩
        have h2 := h1.stuck (b := false)
        have e1 : (sL s, false, upR (sS s) t (cv q m d (sS s t) (sS s (t + 1))), sF s, sA s) = (sL s, sK s, upR (sS s) t (cv q m d (sS s t) (sS s (t + 1))), sF s, sA s) := by rw [hk]
        have h3 : RE q m d n g c len tx w nC (sL s, sK s, upR (sS s) t (cv q m d (sS s t) (sS s (t + 1))), sF s, sA s) (u2 mi1 73 6 (nI (bi false))) := by
          rw [← e1]
          exact h2
        refine ih (i + 1) _ _ (by omega) (fun o oo => by rw [u2_off (by omega), ho1 o (by omega)]; exact ho o oo) h3 (fun _ => ⟨fun k => ?_, fun k => ?_⟩) hK
        · show upR _ t _ t k < n
          rw [upR_eq]
          exact cv_lt hwd v2 k
        · show upR _ t _ (t + 1) k < n
          rw [upR_ne (by omega)]
          exact v2 k
theorem p_raise (h : RE q m d n g c len tx w nC s mi) {t p : Nat} (ht : t ≤ 18) (hp : p ≤ 24) (hv1 : wk w s = true → Vd n s t) {K : (Nat → Nat → Int32) → (Nat → Nat → Int64) → Prop}
    (hK : ∀ mi1, offR mi mi1 → RE q m d n g c len tx w nC (raiseS w q m d s t p) mi1 → K mi1 ml) : wpV G e 154 m_X4_raise [.ref 73, .int (nI t), .int (nI p)] (mi, ml, RX y) K := by
  have hn2 := h.1.w.n2
  unfold raiseS at hK
  apply e_X4_raise
  refine p_isWorking h ht ?_
  by_cases cw : wk w s = true
  · rw [if_pos cw] at hK
    rw [cw]
    have v1 := hv1 cw
    refine ⟨fun z => absurd z (by decide), fun _ => ?_⟩
    rw [nI_add, s_ix (by omega), s_ix (by omega), s_in (by omega), s_in (by omega)]
    have hw : w = true := by
      unfold wk at cw
      rw [Bool.and_eq_true] at cw
      exact cw.1
    refine ⟨by omega, by omega, p_copyUp h ht (fun mi1 ho1 h1 => p_put h1 ht (by omega) (fun _ => by omega) (fun mi2 ho2 h2 => ?_))⟩
    have ep : putS w (sL s, sK s, upR (sS s) (t + 1) (sS s t), sF s, sA s) t 0 1 = (sL s, sK s, upR (upR (sS s) (t + 1) (sS s t)) t (r1 1), sF s, sA s) := if_pos cw
    rw [ep] at h2
    refine p_raise_loop ht hp hw mi p 0 _ mi2 rfl (fun o oo => by rw [ho2 o oo, ho1 o (by omega)]) h2 (fun _ => ⟨fun k => ?_, fun k => ?_⟩) hK
    · show upR _ t _ t k < n
      rw [upR_eq]
      show (if k = 0 then 1 else 0) < n
      split <;> omega
    · show upR _ t _ (t + 1) k < n
      rw [upR_ne (by omega), upR_eq]
      exact v1 k
  · rw [if_neg cw] at hK
    rw [show bi (wk w s) = 0 from if_neg cw]
    exact ⟨fun _ => hK mi (fun _ _ => rfl) h, fun z => absurd rfl z⟩
theorem p_readNumber (h : RE q m d n g c len tx w nC s mi) {t : Nat} (ht : t ≤ 18) {K : Int32 → (Nat → Nat → Int32) → (Nat → Nat → Int64) → Prop}
    (hK0 : 9999 < (sL s).2.2.1 → ∀ mi1, offR mi mi1 → RE q m d n g c len tx w nC (failS s 2) mi1 → K (nI 0) mi1 ml)
    (hK1 : (sL s).2.2.1 ≤ 9999 → ∀ mi1, offR mi mi1 → RE q m d n g c len tx w nC (stepS tx len (putS w (numS w n s) t 0 (sL s).2.2.1)) mi1 → K (nI 1) mi1 ml) :
    wpI G e 154 m_X4_readNumber [.ref 73, .int (nI t)] (mi, ml, RX y) K := by
  obtain ⟨⟨r3, r4, r7, r8, r9, r10⟩, hl, h5, h6, -⟩ := h.2.2
  have hnum := hl.2.2.1
  have hn128 := h.n128
  unfold numS at hK1
  apply e_X4_readNumber
  rw [r10, h5]
  refine ⟨fun z => ?_, fun z => ?_⟩
  · rw [s_le (by omega) (by omega)] at z
    refine ⟨fun z2 => ?_, fun z2 => ?_⟩
    · have hw : w = false := by
        cases w
        · rfl
        · exact absurd z2 (by decide)
      have hnw : ¬ wk w s = true := by
        unfold wk
        rw [hw, Bool.false_and]
        exact Bool.false_ne_true
      refine p_put h ht (by omega) (fun z3 => absurd z3 hnw) (fun mi1 ho1 h1 => p_stepR h1 (fun mi2 ho2 h2 => ⟨Or.inr rfl, hK1 z mi2 (fun o oo => by rw [ho2 o oo, ho1 o oo]) ?_⟩))
      rw [if_neg (by rw [hw]; exact fun a => Bool.false_ne_true a.1)]
      exact h2
    · have hw := (bi_ne w).mp z2
      refine p_rholds h.1.2.1 (fun a ha hv => ?_) (fun hno => ?_)
      · rw [s_eq (by omega) (by omega)] at hv
        refine ⟨fun _ => ?_, fun z3 => absurd z3 (by decide)⟩
        rw [r10]
        refine p_put h ht (by omega) (fun _ => by omega) (fun mi1 ho1 h1 => p_stepR h1 (fun mi2 ho2 h2 => ⟨Or.inr rfl, hK1 z mi2 (fun o oo => by rw [ho2 o oo, ho1 o oo]) ?_⟩))
        rw [if_neg (by omega)]
        exact h2
      · have hge : n ≤ (sL s).2.2.1 := by
          rcases Nat.lt_or_ge (sL s).2.2.1 n with c1 | c1
          · exact absurd rfl (hno _ c1)
          · exact c1
        refine ⟨fun z3 => absurd rfl z3, fun _ => ⟨Or.inr rfl, ?_⟩⟩
        rw [u2_ne (by decide), r10]
        have h0 := h.stuck (b := true)
        refine p_put h0 ht (by omega) (fun z3 => absurd z3 ?_) (fun mi1 ho1 h1 => p_stepR h1 (fun mi2 ho2 h2 => ⟨Or.inr rfl, hK1 z mi2 (fun o oo => by rw [ho2 o oo, ho1 o oo, u2_off (by omega)]) ?_⟩))
        · show ¬ (w && !true) = true
          rw [Bool.not_true, Bool.and_false]
          exact Bool.false_ne_true
        · rw [if_pos ⟨hw, hge⟩]
          exact h2
  · rw [s_le (by omega) (by omega)] at z
    exact p_fail h (by decide) (fun mi1 ho1 h1 => ⟨Or.inl rfl, hK0 (by omega) mi1 ho1 h1⟩)
end RD3
