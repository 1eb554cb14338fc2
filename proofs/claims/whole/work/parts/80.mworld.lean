/-! the reference: its world -/
def offW (mi mi1 : Nat → Nat → Int32) : Prop := (∀ o, o ≠ 154 → o ≠ 158 → o ≠ 159 → o ≠ 160 → mi1 o = mi o) ∧ ∀ k, k ≠ 3 → k ≠ 4 → k ≠ 9 → k ≠ 10 → mi1 154 k = mi 154 k
theorem offW.refl (mi : Nat → Nat → Int32) : offW mi mi := ⟨fun _ _ _ _ _ => rfl, fun _ _ _ _ _ => rfl⟩
theorem offW.trans {a b c : Nat → Nat → Int32} (h : offW a b) (h1 : offW b c) : offW a c := ⟨fun o h2 h3 h4 h5 => by rw [h1.1 o h2 h3 h4 h5, h.1 o h2 h3 h4 h5], fun k k1 k2 k3 k4 => by rw [h1.2 k k1 k2 k3 k4, h.2 k k1 k2 k3 k4]⟩
theorem offD.toW {a b : Nat → Nat → Int32} (h : offD a b) : offW a b := ⟨fun o h2 _ _ _ => h.1 o h2, fun k _ _ k3 k4 => h.2 k k3 k4⟩
theorem offW.u158 {a b : Nat → Nat → Int32} (h : offW a b) {k : Nat} {v : Int32} : offW a (u2 b 158 k v) := h.trans ⟨fun o _ h3 _ _ => u2_off h3, fun k _ _ _ _ => by rw [u2_off (by omega)]⟩
theorem offW.u159 {a b : Nat → Nat → Int32} (h : offW a b) {k : Nat} {v : Int32} : offW a (u2 b 159 k v) := h.trans ⟨fun o _ _ h4 _ => u2_off h4, fun k _ _ _ _ => by rw [u2_off (by omega)]⟩
theorem offW.u160 {a b : Nat → Nat → Int32} (h : offW a b) {k : Nat} {v : Int32} : offW a (u2 b 160 k v) := h.trans ⟨fun o _ _ _ h5 => u2_off h5, fun k _ _ _ _ => by rw [u2_off (by omega)]⟩
/-- where the reference's world stands, its tables aside -/
def Mb (q m d n : Nat) (mi : Nat → Nat → Int32) : Prop := Mq q mi ∧ mi 155 1 = nI m ∧ mi 154 3 = nI d ∧ mi 154 4 = nI n
def Mw (q m d n : Nat) (mi : Nat → Nat → Int32) : Prop := Pw q m d n ∧ Mb q m d n mi ∧ (∀ a b, a < n → b < n → mi 158 (128 * a + b) = nI (mu q m a b)) ∧ (∀ a, a < n → mi 159 a = nI (rinv q m n a)) ∧ ∀ a, a < n → mi 160 a = nI (tby q a m)
theorem T1x_rst {q m d n : Nat} (w : Wd q m d n) {s : Nat} (hs : s < n) : rst q (s * q) m = T1x q m d s := by
  have h2 := w.q2
  have h7 := w.d7
  have hs2 : s * q < q ^ (d + 1) := by
    rw [Nat.pow_succ, ← w.nq]
    exact Nat.mul_lt_mul_of_pos_right hs (by omega)
  have hl := w.2.2.1
  have hd := w.2.2.2.1
  have hd1 := w.2.2.2.2.1
  have hi : iv q 1 = 1 := by
    rcases w.hq with c | c | c <;> rw [c] <;> decide
  unfold rst
  rw [fst_top hl, hd, hi, hl, ← (rs_eq h2 (d + 1) (s * q) (by omega) hs2).1]
  have e1 : ∀ x, rs q m 1 (d + 1) d x = x := by
    intro x
    obtain ⟨j, rfl⟩ : ∃ j, d = j + 1 := ⟨d - 1, by omega⟩
    unfold rs
    rw [if_pos (by omega)]
  have e2 : rs q m 1 (d + 1) (d + 1) (s * q) = if d + 1 < d + 1 then s * q else rs q m 1 (d + 1) d (cmb q ((q - dg q (s * q) d * 1 % q) % q) 13 (s * q) (m * q ^ (d + 1 - (d + 1)))) := rfl
  rw [e2, if_neg (by omega), e1, Nat.mul_one, Nat.mod_eq_of_lt (dg_lt h2), Nat.sub_self, Nat.pow_zero, Nat.mul_one]
  rfl
theorem mu_rinv {q m d n a : Nat} (hp : Pw q m d n) (ha : a < n) (h1 : 1 ≤ a) : mu q m a (rinv q m n a) = 1 := by
  obtain ⟨w, ⟨g0, g1, g2, g3⟩, _⟩ := hp
  obtain ⟨k, k1, k2⟩ := full_onto w g2 g3 a h1 ha
  rw [← k2, rinv_gp w g2 g3 k1, ← gp_add w g2, show k + (n - 1 - k) = n - 1 by omega]
  exact g3.1
section MW
variable {G : GC} {e q m d n : Nat} {ml : Nat → Nat → Int64} {K : (Nat → Nat → Int32) → (Nat → Nat → Int64) → Prop}
theorem Mb.offD {mi mi1 : Nat → Nat → Int32} (h : Mb q m d n mi) (ho : offD mi mi1) : Mb q m d n mi1 := ⟨h.1.offD ho, by rw [ho.1 155 (by omega)]; exact h.2.1, by rw [ho.2 3 (by omega) (by omega)]; exact h.2.2.1, by rw [ho.2 4 (by omega) (by omega)]; exact h.2.2.2⟩
theorem m_mk_in (w : Wd q m d n) {mi0 : Nat → Nat → Int32} (h0 : Mb q m d n mi0) {x y : Nat} (hx : x < n) (hy : y < n)
    (hK : ∀ mi1, offD mi0 mi1 → wp G e tM m_X10_makeWorld 38 [(0, .ref 154), (1, .int (nI x)), (2, .int (nI (y + 1)))] [] ((if mu q m x y = 1 then u2 (u2 mi1 158 (128 * x + y) (nI (mu q m x y))) 159 x (nI y) else u2 mi1 158 (128 * x + y) (nI (mu q m x y))), ml, RX RM) (QV K)) :
    ∀ (r i : Nat) (mi : Nat → Nat → Int32), r + i = d → offD mi0 mi → wp G e tM m_X10_makeWorld 57 [(0, .ref 154), (1, .int (nI x)), (2, .int (nI y)), (3, .int (nI (Px q m d y i x))), (4, .int (nI (y / q ^ i))), (5, .int (nI (Tn q m d i x))), (6, .int (nI i))] [] (mi, ml, RX RM) (QV K) := by
  have h2 := w.q2
  have h7 := w.d7
  have hn128 : n ≤ 128 := w.2.2.2.2.2.2
  intro r
  induction r with
  | zero =>
    intro i mi hi ho
    have hb := h0.offD ho
    have hid : i = d := by omega
    subst hid
    have hm := mu_lt w (a := x) hy
    have e1 : Px q m i y i x = mu q m x y := by rw [mu_comm w hx hy, mu_Px w hy hx]
    rw [e1]
    have := hK mi ho
    apply b_X10_makeWorld_57
    rw [hb.2.2.1]
    simp (disch := omega) only [s_le, s_lt, s_eq, s_eq0, s_in, s_ix, s_rm, s_div, s_pdlt, s_pdle, s_lepd, s_pdpd, s_pdlepd, s_pdadd, nI_add, pk_mul, pd_succ, Nat.not_lt_zero, Nat.zero_lt_succ, not_false_eq_true, not_true_eq_false, false_implies, true_implies, implies_true, and_true, true_and, Nat.reduceLT, Nat.reduceLeDiff, Nat.reduceAdd, Nat.reduceSub, Nat.zero_add, Nat.add_zero]
    refine ⟨fun _ => ⟨by omega, fun c => ?_, fun c => ⟨by omega, ?_⟩⟩, fun c => absurd (Nat.le_refl _) c⟩
    · rw [if_neg c] at this
      exact this
    · rw [if_pos c] at this
      exact this
  | succ r ih =>
    intro i mi hi ho
    have hb := h0.offD ho
    have hq := hb.1
    have hq2 := hq.two
    have ht := Tn_lt w hx i
    have ht13 : Tn q m d i x * q < q ^ 13 := by
      have e1 : Tn q m d i x * q < n * q := Nat.mul_lt_mul_of_pos_right ht (by omega)
      rw [w.nq, ← Nat.pow_succ] at e1
      exact Nat.lt_of_lt_of_le e1 (Nat.pow_le_pow_right (by omega) (by omega))
    have hp13 := w.lt13 (Px_lt w (x := y) hx i)
    have h31 := pow_lt31 (M := 13) hq.1 (Nat.le_refl _)
    have hyi : y / q ^ i < 2 ^ 31 := Nat.lt_of_le_of_lt (Nat.div_le_self _ _) (by omega)
    have hdl : y / q ^ i % q < q := Nat.mod_lt _ (by omega)
    have hm0 : 0 < m := by
      have := ln_ge w.2.2.1
      have := Nat.pow_pos (n := d) (show 0 < q by omega)
      omega
    have e5 : rst q (Tn q m d i x * q) m = Tn q m d (i + 1) x := T1x_rst w ht
    have e4 : y / q ^ i / q = y / q ^ (i + 1) := by rw [Nat.div_div_eq_div_mul, Nat.pow_succ]
    have sh : ∀ (mi1 : Nat → Nat → Int32) (p : Nat), offD mi0 mi1 → p = Px q m d y (i + 1) x → wpI G e 168 m_X10_shifted [.ref 154, .int (nI (Tn q m d i x)), .int (nI 1)] (mi1, ml, (RX RM)) (fun r12 mi10 ml11 => (wpI G e 168 m_X10_rest [.ref 154, .int r12, .int (mi10 155 1)] (mi10, ml11, (RX RM)) (fun r15 mi13 ml14 => wp G e tM m_X10_makeWorld 57 [(0, .ref 154), (1, .int (nI x)), (2, .int (nI y)), (3, .int (nI p)), (4, .int (nI (y / q ^ i / q))), (5, .int r15), (6, .int (nI (i + 1)))] [] (mi13, ml14, (RX RM)) (QV K)))) := by
      intro mi1 p ho1 hp
      have hb1 := h0.offD ho1
      refine m_shifted hb1.1 (by omega) ?_
      rw [hb1.2.1, Nat.pow_one]
      refine m_rest hb1.1 ht13 w.2.1 hm0 (fun mi2 ho2 => ?_)
      rw [e5, e4, hp]
      exact ih (i + 1) mi2 (by omega) (ho1.trans ho2)
    apply b_X10_makeWorld_57
    rw [hb.2.2.1]
    simp (disch := omega) only [s_le, s_lt, s_eq, s_eq0, s_in, s_ix, s_rm, s_div, s_pdlt, s_pdle, s_lepd, s_pdpd, s_pdlepd, s_pdadd, nI_add, pk_mul, pd_succ, Nat.not_lt_zero, Nat.zero_lt_succ, not_false_eq_true, not_true_eq_false, false_implies, true_implies, implies_true, and_true, true_and, Nat.reduceLT, Nat.reduceLeDiff, Nat.reduceAdd, Nat.reduceSub, Nat.zero_add, Nat.add_zero, hq.2]
    refine ⟨fun c => absurd c (by omega), fun _ => ⟨by omega, fun c => ⟨by omega, ?_⟩, fun c => ⟨by omega, ?_⟩⟩⟩
    · refine sh mi _ ho ?_
      show _ = cmb q (dg q y i) 13 _ _
      have : dg q y i = 0 := by show y / q ^ i % q = 0; omega
      rw [this, cmb_a h2 _ hp13]
    · refine m_sumOf hq hp13 (w.lt13 ht) (by omega) ?_
      simp (disch := omega) only [s_le, s_lt, s_eq, s_eq0, s_in, s_ix, s_rm, s_div, s_pdlt, s_pdle, s_lepd, s_pdpd, s_pdlepd, s_pdadd, nI_add, pk_mul, pd_succ, Nat.not_lt_zero, Nat.zero_lt_succ, not_false_eq_true, not_true_eq_false, false_implies, true_implies, implies_true, and_true, true_and, Nat.reduceLT, Nat.reduceLeDiff, Nat.reduceAdd, Nat.reduceSub, Nat.zero_add, Nat.add_zero, hq.2]
      exact ⟨by omega, sh mi _ ho rfl⟩
theorem Mb.offW {mi mi1 : Nat → Nat → Int32} (h : Mb q m d n mi) (ho : ∀ o, o = 154 ∨ o = 155 → mi1 o = mi o) : Mb q m d n mi1 := ⟨h.1.off (ho 155 (Or.inr rfl)), by rw [ho 155 (Or.inr rfl)]; exact h.2.1, by rw [ho 154 (Or.inl rfl)]; exact h.2.2.1, by rw [ho 154 (Or.inl rfl)]; exact h.2.2.2⟩
/-- the products below a row x, and y of that row; the inverses found -/
def Mp (q m n x y : Nat) (mi : Nat → Nat → Int32) : Prop := (∀ a b, (a < x ∧ b < n) ∨ (a = x ∧ b < y) → mi 158 (128 * a + b) = nI (mu q m a b)) ∧ ∀ a, 1 ≤ a → a < x ∨ (a = x ∧ rinv q m n a < y) → mi 159 a = nI (rinv q m n a)
theorem m_mk_row (hp : Pw q m d n) (mi0 : Nat → Nat → Int32) {x : Nat} (hx : x < n)
    (hK : ∀ mi1, offW mi0 mi1 → Mb q m d n mi1 → Mp q m n (x + 1) 0 mi1 → wp G e tM m_X10_makeWorld 28 [(0, .ref 154), (1, .int (nI (x + 1)))] [] (mi1, ml, RX RM) (QV K)) :
    ∀ (r y : Nat) (mi : Nat → Nat → Int32), r + y = n → offW mi0 mi → Mb q m d n mi → Mp q m n x y mi → wp G e tM m_X10_makeWorld 38 [(0, .ref 154), (1, .int (nI x)), (2, .int (nI y))] [] (mi, ml, RX RM) (QV K) := by
  have w := hp.1
  have h2 := w.q2
  have hn128 : n ≤ 128 := w.2.2.2.2.2.2
  intro r
  induction r with
  | zero =>
    intro y mi hy ho hb hM
    have : y = n := by omega
    subst this
    apply b_X10_makeWorld_38
    rw [hb.2.2.2]
    simp (disch := omega) only [s_le, s_lt, s_eq, s_eq0, s_in, s_ix, s_rm, s_div, s_pdlt, s_pdle, s_lepd, s_pdpd, s_pdlepd, s_pdadd, nI_add, pk_mul, pd_succ, Nat.not_lt_zero, Nat.zero_lt_succ, not_false_eq_true, not_true_eq_false, false_implies, true_implies, implies_true, and_true, true_and, Nat.reduceLT, Nat.reduceLeDiff, Nat.reduceAdd, Nat.reduceSub, Nat.zero_add, Nat.add_zero]
    refine ⟨fun _ => hK mi ho hb ⟨fun a b h => hM.1 a b (by omega), fun a h1 h => hM.2 a h1 ?_⟩, fun c => absurd (Nat.le_refl _) c⟩
    rcases h with h | h
    · by_cases c : a = x
      · exact Or.inr ⟨c, rinv_lt (by omega)⟩
      · exact Or.inl (by omega)
    · omega
  | succ r ih =>
    intro y mi hy ho hb hM
    have hyn : y < n := by omega
    apply b_X10_makeWorld_38
    rw [hb.2.2.2]
    simp (disch := omega) only [s_le, s_lt, s_eq, s_eq0, s_in, s_ix, s_rm, s_div, s_pdlt, s_pdle, s_lepd, s_pdpd, s_pdlepd, s_pdadd, nI_add, pk_mul, pd_succ, Nat.not_lt_zero, Nat.zero_lt_succ, not_false_eq_true, not_true_eq_false, false_implies, true_implies, implies_true, and_true, true_and, Nat.reduceLT, Nat.reduceLeDiff, Nat.reduceAdd, Nat.reduceSub, Nat.zero_add, Nat.add_zero]
    refine ⟨fun c => absurd c (by omega), fun _ => ?_⟩
    have main := m_mk_in (G := G) (e := e) (ml := ml) (K := K) w hb hx hyn (fun mi1 ho1 => by
      have hb1 := hb.offD ho1
      have hW := ho.trans ho1.toW
      have e158 : mi1 158 = mi 158 := ho1.1 158 (by omega)
      have e159 : mi1 159 = mi 159 := ho1.1 159 (by omega)
      by_cases c : mu q m x y = 1
      · rw [if_pos c]
        refine ih (y + 1) _ (by omega) hW.u158.u159 (hb1.offW (fun o h => by rw [u2_off (by omega), u2_off (by omega)])) ⟨fun a b h => ?_, fun a h1 h => ?_⟩
        · rw [u2_off (by omega)]
          by_cases c2 : a = x ∧ b = y
          · rw [c2.1, c2.2, u2_at]
          · rw [u2_ne (by omega), e158]
            exact hM.1 a b (by omega)
        · by_cases c2 : a = x
          · subst c2
            rw [u2_at]
            have := inv_one w hx hyn (rinv_lt (q := q) (m := m) (b := a) (show 0 < n by omega)) c (mu_rinv hp hx h1)
            rw [← this]
          · rw [u2_ne c2, u2_off (by omega), e159]
            exact hM.2 a h1 (by omega)
      · rw [if_neg c]
        refine ih (y + 1) _ (by omega) hW.u158 (hb1.offW (fun o h => by rw [u2_off (by omega)])) ⟨fun a b h => ?_, fun a h1 h => ?_⟩
        · by_cases c2 : a = x ∧ b = y
          · rw [c2.1, c2.2, u2_at]
          · rw [u2_ne (by omega), e158]
            exact hM.1 a b (by omega)
        · rw [u2_off (by omega), e159]
          refine hM.2 a h1 ?_
          by_cases c2 : a = x
          · subst c2
            have h4 := mu_rinv hp hx h1
            have : rinv q m n a ≠ y := fun z => c (by rw [z] at h4; exact h4)
            omega
          · omega) d 0 mi (by omega) (offD.refl mi)
    rw [Nat.pow_zero, Nat.div_one] at main
    exact main
theorem m_mk_raise (hp : Pw q m d n) {mi : Nat → Nat → Int32} (hb : Mb q m d n mi) (hM : ∀ a b, a < n → b < n → mi 158 (128 * a + b) = nI (mu q m a b)) {x : Nat} (hx : x < n)
    (hK : wp G e tM m_X10_makeWorld 177 [(0, .ref 154), (1, .int (nI (x + 1)))] [] (u2 mi 160 x (nI (tby q x m)), ml, RX RM) (QV K)) :
    ∀ (r i v : Nat), r + i = q → v < n → tbl q x m r v = tby q x m → wp G e tM m_X10_makeWorld 189 [(0, .ref 154), (1, .int (nI x)), (2, .int (nI v)), (3, .int (nI i))] [] (mi, ml, RX RM) (QV K) := by
  have w := hp.1
  have h2 := hb.1.two
  have hn128 : n ≤ 128 := w.2.2.2.2.2.2
  intro r
  induction r with
  | zero =>
    intro i v hi hv he
    have : i = q := by omega
    subst this
    have he : v = tby i x m := he
    rw [← he] at hK
    apply b_X10_makeWorld_189
    simp (disch := omega) only [s_le, s_lt, s_eq, s_eq0, s_in, s_ix, s_rm, s_div, s_pdlt, s_pdle, s_lepd, s_pdpd, s_pdlepd, s_pdadd, nI_add, pk_mul, pd_succ, Nat.not_lt_zero, Nat.zero_lt_succ, not_false_eq_true, not_true_eq_false, false_implies, true_implies, implies_true, and_true, true_and, Nat.reduceLT, Nat.reduceLeDiff, Nat.reduceAdd, Nat.reduceSub, Nat.zero_add, Nat.add_zero, hb.1.2]
    exact ⟨fun _ => ⟨by omega, hK⟩, fun c => absurd (Nat.le_refl _) c⟩
  | succ r ih =>
    intro i v hi hv he
    have := ih (i + 1) (mu q m v x) (by omega) (mu_lt w hx) he
    apply b_X10_makeWorld_189
    simp (disch := omega) only [s_le, s_lt, s_eq, s_eq0, s_in, s_ix, s_rm, s_div, s_pdlt, s_pdle, s_lepd, s_pdpd, s_pdlepd, s_pdadd, nI_add, pk_mul, pd_succ, Nat.not_lt_zero, Nat.zero_lt_succ, not_false_eq_true, not_true_eq_false, false_implies, true_implies, implies_true, and_true, true_and, Nat.reduceLT, Nat.reduceLeDiff, Nat.reduceAdd, Nat.reduceSub, Nat.zero_add, Nat.add_zero, hb.1.2]
    refine ⟨fun c => absurd c (by omega), fun _ => ⟨by omega, ?_⟩⟩
    rw [hM v x hv hx]
    exact this
theorem m_mk_raises (hp : Pw q m d n) (mi0 : Nat → Nat → Int32) (hK : ∀ mi1, offW mi0 mi1 → Mw q m d n mi1 → K mi1 ml) :
    ∀ (r x : Nat) (mi : Nat → Nat → Int32), r + x = n → offW mi0 mi → Mb q m d n mi → (∀ a b, a < n → b < n → mi 158 (128 * a + b) = nI (mu q m a b)) → (∀ a, a < n → mi 159 a = nI (rinv q m n a)) → (∀ a, a < x → mi 160 a = nI (tby q a m)) →
      wp G e tM m_X10_makeWorld 177 [(0, .ref 154), (1, .int (nI x))] [] (mi, ml, RX RM) (QV K) := by
  have w := hp.1
  have h2 := w.q2
  have hn2 := w.n2
  have hn128 : n ≤ 128 := w.2.2.2.2.2.2
  intro r
  induction r with
  | zero =>
    intro x mi hi ho hb a1 a2 a3
    have : x = n := by omega
    subst this
    apply b_X10_makeWorld_177
    rw [hb.2.2.2]
    simp (disch := omega) only [s_le, s_lt, s_eq, s_eq0, s_in, s_ix, s_rm, s_div, s_pdlt, s_pdle, s_lepd, s_pdpd, s_pdlepd, s_pdadd, nI_add, pk_mul, pd_succ, Nat.not_lt_zero, Nat.zero_lt_succ, not_false_eq_true, not_true_eq_false, false_implies, true_implies, implies_true, and_true, true_and, Nat.reduceLT, Nat.reduceLeDiff, Nat.reduceAdd, Nat.reduceSub, Nat.zero_add, Nat.add_zero]
    exact ⟨fun _ => hK mi ho ⟨hp, hb, a1, a2, a3⟩, fun c => absurd (Nat.le_refl _) c⟩
  | succ r ih =>
    intro x mi hi ho hb a1 a2 a3
    have hx : x < n := by omega
    have e1 : tbl q x m q 1 = tby q x m := by
      obtain ⟨p, rfl⟩ : ∃ p, q = p + 1 := ⟨q - 1, by omega⟩
      show tbl (p + 1) x m p (mu (p + 1) m 1 x) = _
      rw [mu_1l w hx]
      rfl
    apply b_X10_makeWorld_177
    rw [hb.2.2.2]
    simp (disch := omega) only [s_le, s_lt, s_eq, s_eq0, s_in, s_ix, s_rm, s_div, s_pdlt, s_pdle, s_lepd, s_pdpd, s_pdlepd, s_pdadd, nI_add, pk_mul, pd_succ, Nat.not_lt_zero, Nat.zero_lt_succ, not_false_eq_true, not_true_eq_false, false_implies, true_implies, implies_true, and_true, true_and, Nat.reduceLT, Nat.reduceLeDiff, Nat.reduceAdd, Nat.reduceSub, Nat.zero_add, Nat.add_zero]
    refine ⟨fun c => absurd c (by omega), fun _ => m_mk_raise hp hb a1 hx ?_ q 0 1 rfl (by omega) e1⟩
    refine ih (x + 1) _ (by omega) ho.u160 (hb.offW (fun o h => by rw [u2_off (by omega)])) (fun a b ha hb => by rw [u2_off (by omega)]; exact a1 a b ha hb) (fun a ha => by rw [u2_off (by omega)]; exact a2 a ha) (fun a ha => ?_)
    by_cases c : a = x
    · rw [c, u2_at]
    · rw [u2_ne c]
      exact a3 a (by omega)
theorem m_mk_rows (hp : Pw q m d n) (mi0 : Nat → Nat → Int32) (hK : ∀ mi1, offW mi0 mi1 → Mw q m d n mi1 → K mi1 ml) :
    ∀ (r x : Nat) (mi : Nat → Nat → Int32), r + x = n → offW mi0 mi → Mb q m d n mi → Mp q m n x 0 mi → wp G e tM m_X10_makeWorld 28 [(0, .ref 154), (1, .int (nI x))] [] (mi, ml, RX RM) (QV K) := by
  have w := hp.1
  have h2 := w.q2
  have hn2 := w.n2
  have hn128 : n ≤ 128 := w.2.2.2.2.2.2
  intro r
  induction r with
  | zero =>
    intro x mi hi ho hb hM
    have : x = n := by omega
    subst this
    have := m_mk_raises (G := G) (e := e) (ml := ml) (K := K) hp mi0 hK x 0 (u2 mi 159 0 (nI 0)) (by omega) ho.u159 (hb.offW (fun o h => by rw [u2_off (by omega)])) (fun a b ha hb => by rw [u2_off (by omega)]; exact hM.1 a b (by omega)) (fun a ha => by
      by_cases c : a = 0
      · rw [c, u2_at]
        have : rinv q m x 0 = 0 := ivs_0 h2 _ _
        rw [this]
      · rw [u2_ne c]
        exact hM.2 a (by omega) (by omega)) (fun a ha => absurd ha (by omega))
    apply b_X10_makeWorld_28
    rw [hb.2.2.2]
    simp (disch := omega) only [s_le, s_lt, s_eq, s_eq0, s_in, s_ix, s_rm, s_div, s_pdlt, s_pdle, s_lepd, s_pdpd, s_pdlepd, s_pdadd, nI_add, pk_mul, pd_succ, Nat.not_lt_zero, Nat.zero_lt_succ, not_false_eq_true, not_true_eq_false, false_implies, true_implies, implies_true, and_true, true_and, Nat.reduceLT, Nat.reduceLeDiff, Nat.reduceAdd, Nat.reduceSub, Nat.zero_add, Nat.add_zero]
    exact ⟨fun _ => this, fun c => absurd (Nat.le_refl _) c⟩
  | succ r ih =>
    intro x mi hi ho hb hM
    have := m_mk_row (G := G) (e := e) (ml := ml) (K := K) hp mi0 (show x < n by omega) (fun mi1 o1 b1 p1 => ih (x + 1) mi1 (by omega) o1 b1 p1) n 0 mi (by omega) ho hb hM
    apply b_X10_makeWorld_28
    rw [hb.2.2.2]
    simp (disch := omega) only [s_le, s_lt, s_eq, s_eq0, s_in, s_ix, s_rm, s_div, s_pdlt, s_pdle, s_lepd, s_pdpd, s_pdlepd, s_pdadd, nI_add, pk_mul, pd_succ, Nat.not_lt_zero, Nat.zero_lt_succ, not_false_eq_true, not_true_eq_false, false_implies, true_implies, implies_true, and_true, true_and, Nat.reduceLT, Nat.reduceLeDiff, Nat.reduceAdd, Nat.reduceSub, Nat.zero_add, Nat.add_zero]
    exact ⟨fun c => absurd c (by omega), fun _ => this⟩
theorem m_makeWorld (hp : Pw q m d n) {mi : Nat → Nat → Int32} (hq : Mq q mi) (hm : mi 155 1 = nI m) (hK : ∀ mi1, offW mi mi1 → Mw q m d n mi1 → K mi1 ml) : wpV G e 168 m_X10_makeWorld [.ref 154] (mi, ml, RX RM) K := by
  have w := hp.1
  have h7 := w.d7
  have hl := w.2.2.1
  apply e_X10_makeWorld
  simp (disch := omega) only [s_le, s_lt, s_eq, s_eq0, s_in, s_ix, s_rm, s_div, s_pdlt, s_pdle, s_lepd, s_pdpd, s_pdlepd, s_pdadd, nI_add, pk_mul, pd_succ, Nat.not_lt_zero, Nat.zero_lt_succ, not_false_eq_true, not_true_eq_false, false_implies, true_implies, implies_true, and_true, true_and, Nat.reduceLT, Nat.reduceLeDiff, Nat.reduceAdd, Nat.reduceSub, Nat.zero_add, Nat.add_zero, hm]
  refine m_degree hq w.2.1 ?_
  rw [hl, Nat.add_sub_cancel, u2_at]
  refine m_power (mi := u2 mi 154 3 (nI d)) (hq.off (u2_off (by omega))) (by omega) ?_
  rw [← w.nq]
  refine m_mk_rows hp mi hK n 0 _ rfl ⟨fun o h1 _ _ _ => by rw [u2_off h1, u2_off h1], fun k k1 k2 _ _ => by rw [u2_ne k2, u2_ne k1]⟩ ⟨hq.off (by rw [u2_off (by omega), u2_off (by omega)]), by rw [u2_off (by omega), u2_off (by omega)]; exact hm, by rw [u2_ne (by omega), u2_at], u2_at⟩ ⟨fun a b h => absurd h (by omega), fun a h1 h => absurd h (by omega)⟩
end MW
