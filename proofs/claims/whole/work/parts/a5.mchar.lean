/-! the reference: characteristic -/
/-- f times t - x -/
def chs (q m : Nat) (f : Nat → Nat) (x : Nat) : Nat → Nat := fun k => if k = 0 then cmb q (q - 1) 13 0 (mu q m (f 0) x) else cmb q (q - 1) 13 (f (k - 1)) (mu q m (f k) x)
/-- the product over the first e of the orbit -/
def cfr (q m g0 : Nat) : Nat → Nat → Nat
  | 0 => fun k => if k = 0 then 1 else 0
  | e + 1 => chs q m (cfr q m g0 e) (itr (fun v => tby q v m) e g0)
/-- how long the orbit is -/
def orl (q m g0 : Nat) : Nat → Nat → Nat
  | 0, e => e
  | r + 1, e => if itr (fun v => tby q v m) (e + 1) g0 = g0 then e + 1 else orl q m g0 r (e + 1)
def orb (q m d g0 : Nat) : Nat := orl q m g0 d 0
def mchv (q m g0 e : Nat) : Nat := sg (fun k => cfr q m g0 e k * q ^ k) (e + 1)
/-- what the reference says the characteristic is -/
def mch (q m d g0 : Nat) : Nat := mchv q m g0 (orb q m d g0)
section MCH
variable {q m d n : Nat}
theorem chs_lt (w : Wd q m d n) {f : Nat → Nat} {x : Nat} (hf : ∀ k, f k < n) (hx : x < n) : ∀ k, chs q m f x k < n := fun k => by
  unfold chs
  split
  · exact cmb_ltn w w.pos (mu_lt w hx)
  · exact cmb_ltn w (hf _) (mu_lt w hx)
theorem cfr_lt (w : Wd q m d n) {g0 : Nat} (hg : g0 < n) : ∀ e k, cfr q m g0 e k < n
  | 0, k => by
    have := w.n2
    show (if k = 0 then 1 else 0) < n
    split <;> omega
  | e + 1, k => chs_lt w (cfr_lt w hg e) (itr_lt (fun _ h => tby_ltn w h) e g0 hg) k
theorem cfr_0 (w : Wd q m d n) {g0 : Nat} (hg : g0 < n) : ∀ e k, e < k → cfr q m g0 e k = 0
  | 0, k, hk => if_neg (by omega)
  | e + 1, k, hk => by
    have h2 := w.q2
    show chs q m (cfr q m g0 e) _ k = 0
    unfold chs
    rw [if_neg (by omega), cfr_0 w hg e (k - 1) (by omega), cfr_0 w hg e k (by omega), mu_0l h2, cmb_zero _ h2]
theorem itr_d (hp : Pw q m d n) {a : Nat} (ha : a < n) : itr (fun v => tby q v m) d a = a := by
  have w := hp.1
  have h2 := w.q2
  obtain ⟨g, g1, g2, g3⟩ := hp.2.1
  by_cases c : a = 0
  · subst c
    exact (itr_Ln (tby_Ln w) d).zero w
  · obtain ⟨j, hj, rfl⟩ := full_onto w g2 g3 a (by omega) ha
    rw [itr_gp w g2, ← w.nq]
    have e1 : j * n = j + (n - 1) * j := by
      have := w.n2
      obtain ⟨k, rfl⟩ : ∃ k, n = k + 1 := ⟨n - 1, by omega⟩
      rw [Nat.add_sub_cancel, Nat.mul_add, Nat.mul_one, Nat.mul_comm]
      omega
    rw [e1, gp_add w g2, gp_mul1 w g2 g3.1, mu_1r w (gp_lt w g2 j)]
theorem orl_is (q m g0 : Nat) : ∀ r e, (∃ j, e < j ∧ j ≤ e + r ∧ itr (fun v => tby q v m) j g0 = g0) → e < orl q m g0 r e ∧ orl q m g0 r e ≤ e + r ∧ itr (fun v => tby q v m) (orl q m g0 r e) g0 = g0 ∧ ∀ j, e < j → j < orl q m g0 r e → itr (fun v => tby q v m) j g0 ≠ g0
  | 0, e, ⟨j, h1, h2, _⟩ => absurd h1 (by omega)
  | r + 1, e, ⟨j, h1, h2, h3⟩ => by
    unfold orl
    by_cases c : itr (fun v => tby q v m) (e + 1) g0 = g0
    · rw [if_pos c]
      exact ⟨by omega, by omega, c, fun j a b => absurd a (by omega)⟩
    · rw [if_neg c]
      have hj : e + 1 ≠ j := fun z => c (by rw [z]; exact h3)
      obtain ⟨a1, a2, a3, a4⟩ := orl_is q m g0 r (e + 1) ⟨j, by omega, by omega, h3⟩
      refine ⟨by omega, by omega, a3, fun k b1 b2 => ?_⟩
      by_cases z : k = e + 1
      · rw [z]; exact c
      · exact a4 k (by omega) b2
theorem orb_is (hp : Pw q m d n) {g0 : Nat} (hg : g0 < n) : 1 ≤ orb q m d g0 ∧ orb q m d g0 ≤ d ∧ itr (fun v => tby q v m) (orb q m d g0) g0 = g0 ∧ ∀ j, 1 ≤ j → j < orb q m d g0 → itr (fun v => tby q v m) j g0 ≠ g0 := by
  have hd := hp.1.2.2.2.2.1
  obtain ⟨a1, a2, a3, a4⟩ := orl_is q m g0 d 0 ⟨d, hd, by omega, itr_d hp hg⟩
  rw [Nat.zero_add] at a2
  exact ⟨a1, a2, a3, fun j h => a4 j h⟩
end MCH
def offC (mi mi1 : Nat → Nat → Int32) : Prop := ∀ o, o ≠ 164 → mi1 o = mi o
/-- the row at 164 -/
def Rc (n : Nat) (f : Nat → Nat) (mi : Nat → Nat → Int32) : Prop := (∀ j, j < 9 → mi 164 j = nI (f j)) ∧ ∀ j, f j < n
theorem offC.put {a b : Nat → Nat → Int32} (h : offC a b) {k : Nat} {v : Int32} : offC a (u2 b 164 k v) := fun o ho => by rw [u2_off ho]; exact h o ho
section MCH2
variable {G : GC} {e n q m d : Nat} {ml : Nat → Nat → Int64} {K : Int32 → (Nat → Nat → Int32) → (Nat → Nat → Int64) → Prop}
theorem Mw.offC {mi mi1 : Nat → Nat → Int32} (h : Mw q m d n mi) (ho : offC mi mi1) : Mw q m d n mi1 := h.off (by rw [ho 155 (by omega)]; exact ⟨rfl, rfl⟩) (by rw [ho 154 (by omega)]; exact ⟨rfl, rfl⟩) (ho 158 (by omega)) (ho 159 (by omega)) (ho 160 (by omega))
theorem m_ch_clear {v : Nat} {mi0 : Nat → Nat → Int32} (hK : ∀ mi1, offC mi0 mi1 → (∀ j, j < 9 → mi1 164 j = nI (if j = 0 then 1 else 0)) → wp G e tM m_X10_characteristic 35 [(0, .ref 154), (1, .int (nI v)), (2, .int (nI 0)), (3, .int (nI v)), (4, .int (nI 1))] [] (mi1, ml, RX RM) (QI K)) : ∀ (r i : Nat) (mi : Nat → Nat → Int32), r + i = 9 → offC mi0 mi → (∀ j, j < i → mi 164 j = nI 0) → wp G e tM m_X10_characteristic 2 [(0, .ref 154), (1, .int (nI v)), (2, .int (nI i))] [] (mi, ml, RX RM) (QI K) := by
  intro r
  induction r with
  | zero =>
    intro i mi hi ho hz
    have : i = 9 := by omega
    subst this
    apply b_X10_characteristic_2
    simp (disch := omega) only [s_le, s_lt, s_eq, s_eq0, s_in, s_ix, s_rm, s_div, s_pdlt, s_pdle, s_lepd, s_pdpd, s_pdlepd, s_pdadd, nI_add, pk_mul, pd_succ, Nat.not_lt_zero, Nat.zero_lt_succ, not_false_eq_true, not_true_eq_false, false_implies, true_implies, implies_true, and_true, true_and, Nat.reduceLT, Nat.reduceLeDiff, Nat.reduceAdd, Nat.reduceSub, Nat.zero_add, Nat.add_zero, Nat.le_refl]
    refine hK _ ho.put (fun j hj => ?_)
    by_cases c : j = 0
    · subst c
      rw [u2_at, if_pos rfl]
    · rw [u2_ne c, if_neg c, hz j hj]
  | succ r ih =>
    intro i mi hi ho hz
    have := ih (i + 1) (u2 mi 164 i (nI 0)) (by omega) ho.put (fun j hj => by
      by_cases c : j = i
      · subst c; rw [u2_at]
      · rw [u2_ne c, hz j (by omega)])
    apply b_X10_characteristic_2
    simp (disch := omega) only [s_le, s_lt, s_eq, s_eq0, s_in, s_ix, s_rm, s_div, s_pdlt, s_pdle, s_lepd, s_pdpd, s_pdlepd, s_pdadd, nI_add, pk_mul, pd_succ, Nat.not_lt_zero, Nat.zero_lt_succ, not_false_eq_true, not_true_eq_false, false_implies, true_implies, implies_true, and_true, true_and, Nat.reduceLT, Nat.reduceLeDiff, Nat.reduceAdd, Nat.reduceSub, Nat.zero_add, Nat.add_zero]
    exact ⟨fun z => absurd z (by omega), fun _ => ⟨by omega, this⟩⟩
/-- the row when all above k are done -/
def chd (q m : Nat) (f : Nat → Nat) (x k : Nat) : Nat → Nat := fun j => if k < j then chs q m f x j else f j
theorem m_ch_row (h0 : Pw q m d n) {v c x : Nat} {f : Nat → Nat} (hv : v < n) (hx : x < n) (hf : ∀ j, f j < n) (hc : c < 8) (hfz : ∀ j, c < j → f j = 0) {mi0 : Nat → Nat → Int32} (hM0 : Mw q m d n mi0)
    (hK : ∀ mi1, offC mi0 mi1 → Rc n (chs q m f x) mi1 → wp G e tM m_X10_characteristic 35 [(0, .ref 154), (1, .int (nI v)), (2, .int (nI (c + 1))), (3, .int (nI (tby q x m))), (4, .int (if tby q x m = v then nI 0 else nI 1))] [] (mi1, ml, RX RM) (QI K)) :
    ∀ (k : Nat) (mi : Nat → Nat → Int32), k ≤ c + 1 → offC mi0 mi → Rc n (chd q m f x k) mi → wp G e tM m_X10_characteristic 45 [(0, .ref 154), (1, .int (nI v)), (2, .int (nI c)), (3, .int (nI x)), (5, .int (nI k))] [] (mi, ml, RX RM) (QI K) := by
  have w := h0.1
  have h2 := w.q2
  have hn2 := hM0.two
  have hq2 := hM0.2.1.1.two
  intro k
  induction k with
  | zero =>
    intro mi _ ho hR
    have hM := hM0.offC ho
    have e0 := hR.1 0 (by omega)
    have e00 : chd q m f x 0 0 = f 0 := if_neg (by omega)
    rw [e00] at e0
    have er : (u2 mi 164 0 (nI (cmb q (q - 1) 13 0 (mu q m (f 0) x)))) 160 x = nI (tby q x m) := by
      rw [u2_off (by omega)]
      exact hM.2.2.2.2 x hx
    have hR1 : Rc n (chs q m f x) (u2 mi 164 0 (nI (cmb q (q - 1) 13 0 (mu q m (f 0) x)))) := ⟨fun j hj => by
      by_cases z : j = 0
      · subst z
        rw [u2_at]
        rfl
      · rw [u2_ne z, hR.1 j hj]
        show nI (if 0 < j then _ else _) = _
        rw [if_pos (by omega)], chs_lt w hf hx⟩
    have htb := tby_ltn w hx
    have := hK _ (ho.put (k := 0) (v := nI (cmb q (q - 1) 13 0 (mu q m (f 0) x)))) hR1
    apply b_X10_characteristic_45
    simp (disch := omega) only [s_le, s_lt, s_eq, s_eq0, s_in, s_ix, s_rm, s_div, s_pdlt, s_pdle, s_lepd, s_pdpd, s_pdlepd, s_pdadd, nI_add, pk_mul, pd_succ, Nat.not_lt_zero, Nat.zero_lt_succ, not_false_eq_true, not_true_eq_false, false_implies, true_implies, implies_true, and_true, true_and, Nat.reduceLT, Nat.reduceLeDiff, Nat.reduceAdd, Nat.reduceSub, Nat.zero_add, Nat.add_zero, Nat.le_refl, e0]
    refine m_mul hM (hf 0) hx (m_minus hM.2.1.1 (w.lt13 (mu_lt w hx)) ?_)
    simp (disch := omega) only [s_le, s_lt, s_eq, s_eq0, s_in, s_ix, s_rm, s_div, s_pdlt, s_pdle, s_lepd, s_pdpd, s_pdlepd, s_pdadd, nI_add, pk_mul, pd_succ, Nat.not_lt_zero, Nat.zero_lt_succ, not_false_eq_true, not_true_eq_false, false_implies, true_implies, implies_true, and_true, true_and, Nat.reduceLT, Nat.reduceLeDiff, Nat.reduceAdd, Nat.reduceSub, Nat.zero_add, Nat.add_zero, er]
    refine ⟨by omega, fun c => ?_, fun c => ?_⟩
    · rw [if_pos c] at this
      exact this
    · rw [if_neg c] at this
      exact this
  | succ k ih =>
    intro mi hk ho hR
    have hM := hM0.offC ho
    have e1 := hR.1 (k + 1) (by omega)
    have e2 := hR.1 k (by omega)
    have e11 : chd q m f x (k + 1) (k + 1) = f (k + 1) := if_neg (by omega)
    have e22 : chd q m f x (k + 1) k = f k := if_neg (by omega)
    rw [e11] at e1
    rw [e22] at e2
    have hR1 : Rc n (chd q m f x k) (u2 mi 164 (k + 1) (nI (cmb q (q - 1) 13 (f k) (mu q m (f (k + 1)) x)))) := ⟨fun j hj => by
      by_cases z : j = k + 1
      · subst z
        rw [u2_at]
        show _ = nI (if k < k + 1 then chs q m f x (k + 1) else _)
        rw [if_pos (by omega)]
        rfl
      · rw [u2_ne z, hR.1 j hj]
        unfold chd
        by_cases z2 : k < j
        · rw [if_pos z2, if_pos (by omega)]
        · rw [if_neg z2, if_neg (by omega)], fun j => by
        unfold chd
        split
        · exact chs_lt w hf hx j
        · exact hf j⟩
    have := ih _ (by omega) (ho.put (k := k + 1) (v := nI (cmb q (q - 1) 13 (f k) (mu q m (f (k + 1)) x)))) hR1
    apply b_X10_characteristic_45
    have es : nI (k + 1) - nI 1 = nI k := by rw [s_sub (by omega), Nat.add_sub_cancel]
    have eq1 : nI q - nI 1 = nI (q - 1) := s_sub (by omega)
    have ek : nI (k + 1) + (-(nI 1)) = nI k := pd_succ k
    rw [es, ek]
    simp (disch := omega) only [s_le, s_lt, s_eq, s_eq0, s_in, s_ix, s_rm, s_div, s_pdlt, s_pdle, s_lepd, s_pdpd, s_pdlepd, s_pdadd, nI_add, pk_mul, pd_succ, Nat.not_lt_zero, Nat.zero_lt_succ, not_false_eq_true, not_true_eq_false, false_implies, true_implies, implies_true, and_true, true_and, Nat.reduceLT, Nat.reduceLeDiff, Nat.reduceAdd, Nat.reduceSub, Nat.zero_add, Nat.add_zero, e1, e2]
    refine ⟨by omega, by omega, m_mul hM (hf _) hx ?_⟩
    rw [hM.2.1.1.2, eq1]
    refine m_sumOf hM.2.1.1 (w.lt13 (hf k)) (w.lt13 (mu_lt w hx)) (by omega) ?_
    exact ⟨by omega, this⟩
theorem chd_top (w : Wd q m d n) {f : Nat → Nat} {x c : Nat} (hfz : ∀ j, c < j → f j = 0) : chd q m f x (c + 1) = f := funext fun j => by
  have h2 := w.q2
  unfold chd
  by_cases z : c + 1 < j
  · rw [if_pos z]
    unfold chs
    rw [if_neg (by omega), hfz (j - 1) (by omega), hfz j (by omega), mu_0l h2, cmb_zero _ h2]
  · rw [if_neg z]
theorem m_ch_sum {q1 : Nat} {f : Nat → Nat} {N : Nat} {mi : Nat → Nat → Int32} (hq : Mq q mi) (hf : ∀ j, j < 9 → mi 164 j = nI (f j)) (hf1 : ∀ j, f j < 128) (hN : N < 8) (h1 : q ^ (N + 1) ≤ q1) (hq1 : q1 ≤ 2 ^ 20) (hK : K (nI (sg (fun k => f k * q ^ k) (N + 1))) mi ml) : ∀ (r v : Nat), r ≤ N + 1 → (v + 128) * q ^ r ≤ 128 * q1 → v * q ^ r + sg (fun k => f k * q ^ k) r = sg (fun k => f k * q ^ k) (N + 1) → wp G e tM m_X10_characteristic 148 [(0, .ref 154), (5, .int (nI v)), (6, .int (pd r))] [] (mi, ml, RX RM) (QI K) := by
  have hq2 := hq.two
  intro r
  induction r with
  | zero =>
    intro v _ _ hv
    apply b_X10_characteristic_148
    have : v = sg (fun k => f k * q ^ k) (N + 1) := by
      rw [← hv]
      show v = v * 1 + 0
      omega
    subst this
    simp (disch := omega) only [s_le, s_lt, s_eq, s_eq0, s_in, s_ix, s_rm, s_div, s_pdlt, s_pdle, s_lepd, s_pdpd, s_pdlepd, s_pdadd, nI_add, pk_mul, pd_succ, Nat.not_lt_zero, Nat.zero_lt_succ, not_false_eq_true, not_true_eq_false, false_implies, true_implies, implies_true, and_true, true_and, Nat.reduceLT, Nat.reduceLeDiff, Nat.reduceAdd, Nat.reduceSub, Nat.zero_add, Nat.add_zero]
    exact hK
  | succ r ih =>
    intro v hr hb hv
    have hp : 1 ≤ q ^ r := Nat.pow_pos (by omega)
    have hfr := hf1 r
    have hvb : v * q + 128 ≤ 2 ^ 27 := by
      have a1 : (v + 128) * q * 1 ≤ (v + 128) * q * q ^ r := Nat.mul_le_mul_left _ hp
      rw [Nat.pow_succ, Nat.mul_comm (q ^ r) q, ← Nat.mul_assoc] at hb
      have a2 : (v + 128) * q = v * q + 128 * q := Nat.add_mul _ _ _
      omega
    have hv1 : v * 2 ≤ v * q := Nat.mul_le_mul_left _ (by omega)
    have := ih (v * q + f r) (by omega) (by
      refine Nat.le_trans ?_ hb
      rw [Nat.pow_succ, Nat.mul_comm (q ^ r) q, ← Nat.mul_assoc]
      refine Nat.mul_le_mul_right _ ?_
      rw [Nat.add_mul]
      omega) (by
      rw [← hv]
      show _ = v * q ^ (r + 1) + (sg (fun k => f k * q ^ k) r + f r * q ^ r)
      rw [Nat.pow_succ, Nat.add_mul, Nat.mul_comm (q ^ r) q, ← Nat.mul_assoc]
      omega)
    have e1 := hf r (by omega)
    apply b_X10_characteristic_148
    rw [pd_succ]
    have ek : nI r + (-(nI 1)) = pd r := rfl
    rw [ek]
    have em : nI v * nI q = nI (v * q) := pk_mul v q
    simp (disch := omega) only [s_le, s_lt, s_eq, s_eq0, s_in, s_ix, s_rm, s_div, s_pdlt, s_pdle, s_lepd, s_pdpd, s_pdlepd, s_pdadd, nI_add, pk_mul, pd_succ, Nat.not_lt_zero, Nat.zero_lt_succ, not_false_eq_true, not_true_eq_false, false_implies, true_implies, implies_true, and_true, true_and, Nat.reduceLT, Nat.reduceLeDiff, Nat.reduceAdd, Nat.reduceSub, Nat.zero_add, Nat.add_zero, hq.2, e1, em]
    exact ⟨by omega, this⟩
theorem m_ch_out {g0 : Nat} (hp : Pw q m d n) (hg : g0 < n) {mi0 : Nat → Nat → Int32} (hM0 : Mw q m d n mi0) (hK : ∀ mi1, offC mi0 mi1 → K (nI (mch q m d g0)) mi1 ml) : ∀ (r c : Nat) (mi : Nat → Nat → Int32), c + r = orb q m d g0 → offC mi0 mi → Rc n (cfr q m g0 c) mi → wp G e tM m_X10_characteristic 35 [(0, .ref 154), (1, .int (nI g0)), (2, .int (nI c)), (3, .int (nI (itr (fun v => tby q v m) c g0))), (4, .int (if r = 0 then nI 0 else nI 1))] [] (mi, ml, RX RM) (QI K) := by
  have w := hp.1
  have h2 := w.q2
  have hd7 := w.d7
  have hn2 := hM0.two
  have hq := hM0.2.1.1
  obtain ⟨o1, o2, o3, o4⟩ := orb_is hp hg
  intro r
  induction r with
  | zero =>
    intro c mi hc ho hR
    have hc : c = orb q m d g0 := by omega
    subst hc
    apply b_X10_characteristic_35
    rw [if_pos rfl]
    refine ⟨fun _ => ?_, fun z => absurd rfl z⟩
    have hM := hM0.offC ho
    have hpw : q ^ (orb q m d g0 + 1) ≤ n * q := by
      rw [w.nq, Nat.pow_succ]
      exact Nat.mul_le_mul_right _ (Nat.pow_le_pow_right (by omega) o2)
    have hnq : n * q ≤ 128 * 5 := Nat.mul_le_mul (by omega) hq.two.2
    have := m_ch_sum (G := G) (e := e) (ml := ml) (K := K) (q1 := n * q) (N := orb q m d g0) hM.2.1.1 hR.1 (fun j => by have := hR.2 j; omega) (by omega) hpw (by omega) (hK mi ho) (orb q m d g0 + 1) 0 (Nat.le_refl _) (by rw [Nat.zero_add]; exact Nat.mul_le_mul_left _ hpw) (by rw [Nat.zero_mul, Nat.zero_add])
    rw [pd_succ] at this
    exact this
  | succ r ih =>
    intro c mi hc ho hR
    have hM := hM0.offC ho
    have hx := itr_lt (fun _ h => tby_ltn w h) c g0 hg
    apply b_X10_characteristic_35
    rw [if_neg (by omega)]
    refine ⟨fun z => absurd z (by decide), fun _ => ?_⟩
    have := m_ch_row (G := G) (e := e) (ml := ml) (K := K) hp hg hx hR.2 (c := c) (by omega) (fun j hj => cfr_0 w hg c j hj) hM (fun mi1 o1 r1 => by
      have o2 : offC mi0 mi1 := fun o z => by rw [o1 o z, ho o z]
      have := ih (c + 1) mi1 (by omega) o2 r1
      rw [itr_suc] at this
      by_cases z : r = 0
      · rw [if_pos z] at this
        rw [if_pos (by rw [← itr_suc (fun v => tby q v m), show c + 1 = orb q m d g0 by omega]; exact o3)]
        exact this
      · rw [if_neg z] at this
        rw [if_neg (by rw [← itr_suc (fun v => tby q v m)]; exact o4 (c + 1) (by omega) (by omega))]
        exact this) (c + 1) mi (Nat.le_refl _) (fun _ _ => rfl) (by rw [chd_top w (fun j hj => cfr_0 w hg c j hj)]; exact hR)
    simp (disch := omega) only [s_le, s_lt, s_eq, s_eq0, s_in, s_ix, s_rm, s_div, s_pdlt, s_pdle, s_lepd, s_pdpd, s_pdlepd, s_pdadd, nI_add, pk_mul, pd_succ, Nat.not_lt_zero, Nat.zero_lt_succ, not_false_eq_true, not_true_eq_false, false_implies, true_implies, implies_true, and_true, true_and, Nat.reduceLT, Nat.reduceLeDiff, Nat.reduceAdd, Nat.reduceSub, Nat.zero_add, Nat.add_zero]
    exact this
theorem m_characteristic {g0 : Nat} (hp : Pw q m d n) (hg : g0 < n) {mi : Nat → Nat → Int32} (hM : Mw q m d n mi) (hK : ∀ mi1, offC mi mi1 → K (nI (mch q m d g0)) mi1 ml) : wpI G e 168 m_X10_characteristic [.ref 154, .int (nI g0)] (mi, ml, RX RM) K := by
  have w := hp.1
  obtain ⟨o1, -, -, -⟩ := orb_is hp hg
  apply e_X10_characteristic
  refine m_ch_clear (mi0 := mi) (fun mi1 ho hz => ?_) 9 0 mi rfl (fun _ _ => rfl) (fun j hj => absurd hj (by omega))
  have := m_ch_out (G := G) (e := e) (ml := ml) hp hg hM hK (orb q m d g0) 0 mi1 (by omega) ho ⟨hz, cfr_lt w hg 0⟩
  rw [if_neg (by omega)] at this
  exact this
end MCH2
