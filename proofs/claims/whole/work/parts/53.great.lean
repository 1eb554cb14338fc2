/-! class Acting: findParts, part, the great power -/
def gul (q m d g2 : Nat) : Nat → Nat → Nat → Nat
  | 0, _, p => p
  | r + 1, j, p => gul q m d g2 r (j + 1) (mu q m p (tu q m d g2 j))
def gun (q m d n g2 : Nat) : Nat := dv q m n 1 (gul q m d g2 d 0 1)
/-- e, a figure where gun is one -/
def gu (q m d n g2 : Nat) : Nat := if d % 2 = 1 then (q - gun q m d n g2) % q else gun q m d n g2
def gnl (q c : Nat) : Nat → Nat → Nat
  | 0, p => p
  | r + 1, p => gnl q c r (prd q p c)
/-- the norm, c the characteristic -/
def gno (q m d n : Nat) (f : Nat → Nat) (c : Nat) : Nat := if ln q 13 c ≤ 1 then gu q m d n (f 2) else gnl q c (d / (ln q 13 c - 1)) (gu q m d n (f 2))
def gtr (q m d n : Nat) (f : Nat → Nat) (c : Nat) : Nat := cmb q ((q - gu q m d n (f 2)) % q) 13 (cmb q 1 13 1 (gno q m d n f c)) (pts q m d f)
theorem gul_lt {q m d n g2 : Nat} (w : Wd q m d n) (hg : g2 < n) : ∀ r j p, p < n → gul q m d g2 r j p < n
  | 0, _, _, hp => hp
  | r + 1, j, p, _ => gul_lt w hg r (j + 1) _ (mu_lt w (tu_lt w hg))
theorem gu_lt {q m d n g2 : Nat} (h2 : 2 ≤ q) (h : gun q m d n g2 < q) : gu q m d n g2 < q := by
  unfold gu
  split
  · exact Nat.mod_lt _ (by omega)
  · exact h
section GRT
variable {G : GC} {e q m d n g : Nat} {mi : Nat → Nat → Int32} {ml : Nat → Nat → Int64} {y : Nat → Nat → Option Nat}
theorem p_part {P : Nat → Nat} (hP : Pr q mi P) {i : Nat} (hi : i < 7) {K : Int32 → (Nat → Nat → Int32) → (Nat → Nat → Int64) → Prop} (hK : K (nI (P i)) mi ml) : wpI G e 154 m_X0_part [.ref 11, .int (nI i)] (mi, ml, RX y) K := by
  apply e_X0_part
  simp (disch := omega) only [s_le, s_lt, s_eq, s_eq0, s_in, s_ix, s_rm, s_div, s_pdlt, s_pdle, s_lepd, s_pdpd, s_pdlepd, s_pdadd, nI_add, pk_mul, pd_succ, Nat.not_lt_zero, Nat.zero_lt_succ, not_false_eq_true, not_true_eq_false, false_implies, true_implies, implies_true, and_true, true_and, Nat.reduceLT, Nat.reduceLeDiff, Nat.reduceAdd, Nat.reduceSub, Nat.zero_add, Nat.add_zero]
  refine ⟨fun _ => ⟨by omega, ?_⟩, fun z => absurd hi z⟩
  rw [(hP i hi).1]
  exact hK
theorem p_cnt_loop {P : Nat → Nat} (hP : Pr q mi P) (hq : q = 2 ∨ q = 3 ∨ q = 5) {K : Int32 → (Nat → Nat → Int32) → (Nat → Nat → Int64) → Prop} : ∀ (r i : Nat), r + i = 7 → K (nI (cnt P r i)) mi ml →
    wp G e tX m_X0_findParts 95 [(0, .ref 11), (2, .int (nI i))] [] (mi, ml, RX y) (QI K) := by
  have h31 := pow_lt31 (M := 13) hq (Nat.le_refl _)
  intro r
  induction r with
  | zero =>
    intro i hr hK
    apply b_X0_findParts_95
    simp (disch := omega) only [s_le, s_lt, s_eq, s_eq0, s_in, s_ix, s_rm, s_div, s_pdlt, s_pdle, s_lepd, s_pdpd, s_pdlepd, s_pdadd, nI_add, pk_mul, pd_succ, Nat.not_lt_zero, Nat.zero_lt_succ, not_false_eq_true, not_true_eq_false, false_implies, true_implies, implies_true, and_true, true_and, Nat.reduceLT, Nat.reduceLeDiff, Nat.reduceAdd, Nat.reduceSub, Nat.zero_add, Nat.add_zero]
    exact ⟨fun _ => hK, fun z => absurd (show 7 ≤ i by omega) z⟩
  | succ r ih =>
    intro i hr hK
    obtain ⟨P1, P2⟩ := hP i (by omega)
    unfold cnt at hK
    apply b_X0_findParts_95
    simp (disch := omega) only [s_le, s_lt, s_eq, s_eq0, s_in, s_ix, s_rm, s_div, s_pdlt, s_pdle, s_lepd, s_pdpd, s_pdlepd, s_pdadd, nI_add, pk_mul, pd_succ, Nat.not_lt_zero, Nat.zero_lt_succ, not_false_eq_true, not_true_eq_false, false_implies, true_implies, implies_true, and_true, true_and, Nat.reduceLT, Nat.reduceLeDiff, Nat.reduceAdd, Nat.reduceSub, Nat.zero_add, Nat.add_zero, P1]
    refine ⟨fun z => absurd z (by omega), fun _ => ⟨by omega, fun c1 => ?_, fun c1 => ?_⟩⟩
    · rw [if_pos c1] at hK
      exact hK
    · rw [if_neg c1] at hK
      exact ih (i + 1) (by omega) hK
theorem p_fpa_mid {c L : Nat} (hc : isR c) (hc25 : an c ≤ 25) (hc67 : 67 < c) {f F : Nat → Nat} (hF : AllMn q L F) (hL : L ≤ 13) (mi0 : Nat → Nat → Int32) (h0 : En q m d n g mi0) (hf : Rw n mi0 c f) {R : Nat → Nat} {K : Int32 → (Nat → Nat → Int32) → (Nat → Nat → Int64) → Prop}
    (hK : ∀ mi1, off67 mi0 mi1 → Pr q mi1 R → K (nI (cnt R 7 0)) mi1 ml) :
    ∀ (r i : Nat) (P : Nat → Nat) (mi : Nat → Nat → Int32), r + i = L → off67 mi0 mi → PFd mi L F → Pr q mi P → fpl q m d f F r i P = some R →
      wp G e tX m_X0_findParts 38 [(0, .ref 11), (1, .ref c), (2, .int (nI i))] [] (mi, ml, RX y) (QI K) := by
  have w := h0.w
  have hq2 := w.q2
  have h31 := pow_lt31 (M := 13) w.1 (Nat.le_refl _)
  intro r
  induction r with
  | zero =>
    intro i P mi hr ho hFd hP hR
    have e1 : P = R := Option.some.inj hR
    subst e1
    apply b_X0_findParts_38
    refine p_many hFd ?_
    simp (disch := omega) only [s_le, s_lt, s_eq, s_eq0, s_in, s_ix, s_rm, s_div, s_pdlt, s_pdle, s_lepd, s_pdpd, s_pdlepd, s_pdadd, nI_add, pk_mul, pd_succ, Nat.not_lt_zero, Nat.zero_lt_succ, not_false_eq_true, not_true_eq_false, false_implies, true_implies, implies_true, and_true, true_and, Nat.reduceLT, Nat.reduceLeDiff, Nat.reduceAdd, Nat.reduceSub, Nat.zero_add, Nat.add_zero]
    exact ⟨fun _ => p_cnt_loop hP w.1 7 0 rfl (hK mi ho hP), fun z => absurd (show L ≤ i by omega) z⟩
  | succ r ih =>
    intro i P mi hr ho hFd hP hR
    have hE := h0.off67 ho
    have hFi := hF i (by omega)
    obtain ⟨ki, -, -, hFi3⟩ := id hFi
    have go : ∀ P1, spr q m d f (F i) P = some P1 → fpl q m d f F r (i + 1) P1 = some R → wpV G e 154 m_X0_spread [.ref 11, .ref c, .int (nI (F i))] (mi, ml, RX y) (fun mi1 ml1 => wp G e tX m_X0_findParts 38 [(0, .ref 11), (1, .ref c), (2, .int (nI (i + 1)))] [] (mi1, ml1, RX y) (QI K)) := by
      intro P1 h1 h2
      refine p_spread hE hc hc25 hc67 (hf.off (ho c (by omega))) hFi hP h1 (fun mi1 ho1 hP1 => ?_)
      refine ih (i + 1) P1 mi1 (by omega) (fun o oo => by rw [ho1 o (by omega)]; exact ho o oo) ⟨?_, hFd.2.1, fun j hj => ?_⟩ hP1 h2
      · rw [ho1 7 (by omega)]
        exact hFd.1
      · rw [ho1 8 (by omega)]
        exact hFd.2.2 j hj
    unfold fpl at hR
    apply b_X0_findParts_38
    refine p_many hFd ?_
    simp (disch := omega) only [s_le, s_lt, s_eq, s_eq0, s_in, s_ix, s_rm, s_div, s_pdlt, s_pdle, s_lepd, s_pdpd, s_pdlepd, s_pdadd, nI_add, pk_mul, pd_succ, Nat.not_lt_zero, Nat.zero_lt_succ, not_false_eq_true, not_true_eq_false, false_implies, true_implies, implies_true, and_true, true_and, Nat.reduceLT, Nat.reduceLeDiff, Nat.reduceAdd, Nat.reduceSub, Nat.zero_add, Nat.add_zero]
    refine ⟨fun z => absurd z (by omega), fun _ => ⟨fun c1 => ?_, fun c1 => ?_⟩⟩
    · rw [if_pos (Or.inl c1)] at hR
      refine p_get hFd (by omega) ?_
      rw [if_pos (by omega)]
      cases hS : spr q m d f (F i) P with
      | none => rw [hS] at hR; cases hR
      | some P1 => rw [hS] at hR; exact go P1 hS hR
    · refine p_get hFd (by omega) ?_
      rw [if_pos (by omega), s_sub (by omega)]
      refine p_get hFd (by omega) ?_
      rw [if_pos (by omega)]
      obtain ⟨k1, -, -, hFi4⟩ := hF (i - 1) (by omega)
      simp (disch := omega) only [s_le, s_lt, s_eq, s_eq0, s_in, s_ix, s_rm, s_div, s_pdlt, s_pdle, s_lepd, s_pdpd, s_pdlepd, s_pdadd, nI_add, pk_mul, pd_succ, Nat.not_lt_zero, Nat.zero_lt_succ, not_false_eq_true, not_true_eq_false, false_implies, true_implies, implies_true, and_true, true_and, Nat.reduceLT, Nat.reduceLeDiff, Nat.reduceAdd, Nat.reduceSub, Nat.zero_add, Nat.add_zero]
      refine ⟨fun c2 => ?_, fun c2 => ?_⟩
      · rw [if_neg (by omega)] at hR
        exact ih (i + 1) P mi (by omega) ho hFd hP hR
      · rw [if_pos (Or.inr c2)] at hR
        refine p_get hFd (by omega) ?_
        rw [if_pos (by omega)]
        cases hS : spr q m d f (F i) P with
        | none => rw [hS] at hR; cases hR
        | some P1 => rw [hS] at hR; exact go P1 hS hR
theorem p_fpa_loop {c : Nat} (hc : isR c) (hc25 : an c ≤ 25) (hc67 : 67 < c) {f : Nat → Nat} (mi0 : Nat → Nat → Int32) (h0 : En q m d n g mi0) (hf : Rw n mi0 c f) {R : Nat → Nat} (hR : fpa q m d f = some R) {K : Int32 → (Nat → Nat → Int32) → (Nat → Nat → Int64) → Prop}
    (hK : ∀ mi1, off67 mi0 mi1 → Pr q mi1 R → K (nI (cnt R 7 0)) mi1 ml) :
    ∀ (r i : Nat) (mi : Nat → Nat → Int32), r + i = 7 → off67 mi0 mi → (∀ j, j < i → mi 13 j = nI 1) → wp G e tX m_X0_findParts 2 [(0, .ref 11), (1, .ref c), (2, .int (nI i))] [] (mi, ml, RX y) (QI K) := by
  have w := h0.w
  have hq2 := w.q2
  have hd7 := w.d7
  have h1q : 1 < q ^ 13 := Nat.one_lt_pow (by omega) (by omega)
  intro r
  induction r with
  | zero =>
    intro i mi hr ho hz
    have hE := h0.off67 ho
    apply b_X0_findParts_2
    simp (disch := omega) only [s_le, s_lt, s_eq, s_eq0, s_in, s_ix, s_rm, s_div, s_pdlt, s_pdle, s_lepd, s_pdpd, s_pdlepd, s_pdadd, nI_add, pk_mul, pd_succ, Nat.not_lt_zero, Nat.zero_lt_succ, not_false_eq_true, not_true_eq_false, false_implies, true_implies, implies_true, and_true, true_and, Nat.reduceLT, Nat.reduceLeDiff, Nat.reduceAdd, Nat.reduceSub, Nat.zero_add, Nat.add_zero]
    refine ⟨fun _ => ?_, fun z => absurd (show 7 ≤ i by omega) z⟩
    refine p_points hE hc hc25 hc67 (hf.off (ho c (by omega))) (fun mi1 ho1 hM hlt => ?_)
    have ho2 : off67 mi0 mi1 := fun o oo => by rw [ho1 o (by omega)]; exact ho o oo
    have hp13 : pts q m d f < q ^ 13 := Nat.lt_of_lt_of_le hlt (Nat.pow_le_pow_right (by omega) (by omega))
    refine p_find (h0.off67 ho2).1 hp13 (hM.pos hq2) (fun mi2 ho3 hFd => ?_)
    have ho4 : off67 mi0 mi2 := fun o oo => by rw [ho3 o (by omega) (by omega) (by omega)]; exact ho2 o oo
    refine p_fpa_mid hc hc25 hc67 (fnd_all w.1 hp13 (hM.pos hq2)) hFd.2.1 mi0 h0 hf hK _ 0 (fun _ => 1) mi2 (Nat.add_zero _) ho4 hFd (fun j hj => ⟨?_, h1q⟩) hR
    rw [ho3 13 (by omega) (by omega) (by omega), ho1 13 (by omega)]
    exact hz j (by omega)
  | succ r ih =>
    intro i mi hr ho hz
    apply b_X0_findParts_2
    simp (disch := omega) only [s_le, s_lt, s_eq, s_eq0, s_in, s_ix, s_rm, s_div, s_pdlt, s_pdle, s_lepd, s_pdpd, s_pdlepd, s_pdadd, nI_add, pk_mul, pd_succ, Nat.not_lt_zero, Nat.zero_lt_succ, not_false_eq_true, not_true_eq_false, false_implies, true_implies, implies_true, and_true, true_and, Nat.reduceLT, Nat.reduceLeDiff, Nat.reduceAdd, Nat.reduceSub, Nat.zero_add, Nat.add_zero]
    refine ⟨fun z => absurd z (by omega), fun _ => ⟨by omega, ?_⟩⟩
    refine ih (i + 1) _ (by omega) (fun o oo => by rw [u2_off (by omega)]; exact ho o oo) (fun j hj => ?_)
    rw [u2_on]
    show (if j = i then _ else _) = _
    by_cases z : j = i
    · rw [if_pos z]
    · rw [if_neg z]
      exact hz j (by omega)
/-- the parts: how many; they stand in the row -/
theorem p_findParts (h0 : En q m d n g mi) {c : Nat} (hc : isR c) (hc25 : an c ≤ 25) (hc67 : 67 < c) {f : Nat → Nat} (hf : Rw n mi c f) {R : Nat → Nat} (hR : fpa q m d f = some R) {K : Int32 → (Nat → Nat → Int32) → (Nat → Nat → Int64) → Prop}
    (hK : ∀ mi1, off67 mi mi1 → Pr q mi1 R → K (nI (cnt R 7 0)) mi1 ml) : wpI G e 154 m_X0_findParts [.ref 11, .ref c] (mi, ml, RX y) K := by
  apply e_X0_findParts
  exact p_fpa_loop hc hc25 hc67 mi h0 hf hR hK 7 0 mi rfl (fun _ _ => rfl) (fun j hj => absurd hj (by omega))
theorem p_gu_loop (h0 : En q m d n g mi) {c : Nat} (hc : isR c) (hc3 : 3 ≤ an c) {f : Nat → Nat} (hf : Rw n mi c f) (hu : gun q m d n (f 2) < q) {K : Int32 → (Nat → Nat → Int32) → (Nat → Nat → Int64) → Prop} (hK : K (nI (gu q m d n (f 2))) mi ml) :
    ∀ (r j p : Nat), r + j = d → p < n → gul q m d (f 2) r j p = gul q m d (f 2) d 0 1 → wp G e tX m_X0_greatUnit 4 [(0, .ref 11), (1, .ref c), (2, .int (nI p)), (3, .int (nI j))] [] (mi, ml, RX y) (QI K) := by
  have hcN := hc.2
  have w := h0.w
  have hq2 := h0.1.two
  have hd7 := w.d7
  have hn2 := w.n2
  have hqn := gu_lt hq2.1 hu
  intro r
  induction r with
  | zero =>
    intro j p hr hp hgl
    have e1 : p = gul q m d (f 2) d 0 1 := hgl
    apply b_X0_greatUnit_4
    refine p_rdegree h0.2.1 ?_
    simp (disch := omega) only [s_le, s_lt, s_eq, s_eq0, s_in, s_ix, s_rm, s_div, s_pdlt, s_pdle, s_lepd, s_pdpd, s_pdlepd, s_pdadd, nI_add, pk_mul, pd_succ, Nat.not_lt_zero, Nat.zero_lt_succ, not_false_eq_true, not_true_eq_false, false_implies, true_implies, implies_true, and_true, true_and, Nat.reduceLT, Nat.reduceLeDiff, Nat.reduceAdd, Nat.reduceSub, Nat.zero_add, Nat.add_zero]
    refine ⟨fun _ => ?_, fun z => absurd (show d ≤ j by omega) z⟩
    refine p_dv h0 (show 1 < n by omega) hp (p_rdegree h0.2.1 ?_)
    rw [e1]
    have e9 : dv q m n 1 (gul q m d (f 2) d 0 1) = gun q m d n (f 2) := rfl
    rw [e9]
    unfold gu at hK
    simp (disch := omega) only [s_le, s_lt, s_eq, s_eq0, s_in, s_ix, s_rm, s_div, s_pdlt, s_pdle, s_lepd, s_pdpd, s_pdlepd, s_pdadd, nI_add, pk_mul, pd_succ, Nat.not_lt_zero, Nat.zero_lt_succ, not_false_eq_true, not_true_eq_false, false_implies, true_implies, implies_true, and_true, true_and, Nat.reduceLT, Nat.reduceLeDiff, Nat.reduceAdd, Nat.reduceSub, Nat.zero_add, Nat.add_zero]
    refine ⟨by omega, fun c1 => ?_, fun c1 => ?_⟩
    · rw [if_neg c1] at hK
      exact hK
    · rw [if_pos c1] at hK
      exact p_negative h0.1 (Nat.le_of_lt hu) hK
  | succ r ih =>
    intro j p hr hp hgl
    have hf2 := hf.2.2 2
    apply b_X0_greatUnit_4
    refine p_rdegree h0.2.1 ?_
    simp (disch := omega) only [s_le, s_lt, s_eq, s_eq0, s_in, s_ix, s_rm, s_div, s_pdlt, s_pdle, s_lepd, s_pdpd, s_pdlepd, s_pdadd, nI_add, pk_mul, pd_succ, Nat.not_lt_zero, Nat.zero_lt_succ, not_false_eq_true, not_true_eq_false, false_implies, true_implies, implies_true, and_true, true_and, Nat.reduceLT, Nat.reduceLeDiff, Nat.reduceAdd, Nat.reduceSub, Nat.zero_add, Nat.add_zero]
    refine ⟨fun z => absurd z (by omega), fun _ => ⟨hc.1, by omega, ?_⟩⟩
    rw [hf.1 2 (by omega)]
    refine p_tu h0 hf2 (by omega) (p_mu h0 hp (tu_lt w hf2) ?_)
    exact ih (j + 1) _ (by omega) (mu_lt w (tu_lt w hf2)) hgl
theorem p_greatUnit (h0 : En q m d n g mi) {c : Nat} (hc : isR c) (hc3 : 3 ≤ an c) {f : Nat → Nat} (hf : Rw n mi c f) (hu : gun q m d n (f 2) < q) {K : Int32 → (Nat → Nat → Int32) → (Nat → Nat → Int64) → Prop} (hK : K (nI (gu q m d n (f 2))) mi ml) : wpI G e 154 m_X0_greatUnit [.ref 11, .ref c] (mi, ml, RX y) K := by
  apply e_X0_greatUnit
  exact p_gu_loop h0 hc hc3 hf hu hK d 0 1 rfl (by have := h0.w.n2; omega) rfl
theorem p_gno_loop {c deg : Nat} (hc : ln q 13 c = deg + 1) (hc13 : c < q ^ 13) (hd1 : 1 ≤ deg) (h0 : En q m d n g mi) {K : Int32 → (Nat → Nat → Int32) → (Nat → Nat → Int64) → Prop} :
    ∀ (r j p : Nat), r + j = d / deg → p < q ^ (j * deg + 1) → (gnl q c r p < q ^ (d + 1) → K (nI (gnl q c r p)) mi ml) → wp G e tX m_X0_greatNorm 28 [(0, .ref 11), (2, .int (nI c)), (3, .int (nI p)), (4, .int (nI deg)), (5, .int (nI ((j + 1) * deg)))] [] (mi, ml, RX y) (QI K) := by
  have w := h0.w
  have hq2 := w.q2
  have hd7 := w.d7
  have hl := ln_le q 13 c
  have hdd := Nat.div_mul_le_self d deg
  have hd2 : d < (d / deg + 1) * deg := by
    have := Nat.div_add_mod d deg
    have h3 := Nat.mod_lt d (show 0 < deg by omega)
    rw [Nat.succ_mul, Nat.mul_comm]
    omega
  intro r
  induction r with
  | zero =>
    intro j p hr hp hK
    have hj : j = d / deg := by omega
    subst hj
    have hsm : (d / deg + 1) * deg ≤ 8 * 13 := Nat.mul_le_mul (by have := Nat.div_le_self d deg; omega) (by omega)
    apply b_X0_greatNorm_28
    simp (disch := omega) only [s_le, s_lt, s_eq, s_eq0, s_in, s_ix, s_rm, s_div, s_pdlt, s_pdle, s_lepd, s_pdpd, s_pdlepd, s_pdadd, nI_add, pk_mul, pd_succ, Nat.not_lt_zero, Nat.zero_lt_succ, not_false_eq_true, not_true_eq_false, false_implies, true_implies, implies_true, and_true, true_and, Nat.reduceLT, Nat.reduceLeDiff, Nat.reduceAdd, Nat.reduceSub, Nat.zero_add, Nat.add_zero]
    refine ⟨fun z => absurd z (by omega), fun _ => p_rdegree h0.2.1 ?_⟩
    simp (disch := omega) only [s_le, s_lt, s_eq, s_eq0, s_in, s_ix, s_rm, s_div, s_pdlt, s_pdle, s_lepd, s_pdpd, s_pdlepd, s_pdadd, nI_add, pk_mul, pd_succ, Nat.not_lt_zero, Nat.zero_lt_succ, not_false_eq_true, not_true_eq_false, false_implies, true_implies, implies_true, and_true, true_and, Nat.reduceLT, Nat.reduceLeDiff, Nat.reduceAdd, Nat.reduceSub, Nat.zero_add, Nat.add_zero]
    exact ⟨fun _ => hK (Nat.lt_of_lt_of_le hp (Nat.pow_le_pow_right (by omega) (by omega))), fun z => absurd hd2 z⟩
  | succ r ih =>
    intro j p hr hp hK
    have hle : (j + 1) * deg ≤ d / deg * deg := Nat.mul_le_mul_right _ (by omega)
    have e1 : (j + 1) * deg = j * deg + deg := Nat.succ_mul j deg
    have e2 : (j + 1 + 1) * deg = (j + 1) * deg + deg := Nat.succ_mul (j + 1) deg
    have lp := ln_le_lt (m := 13) hq2 hp
    have hcl : c < q ^ (deg + 1) := by
      rw [← hc]
      exact ln_lt hc13
    have hpr := prd_lt hq2 hp hcl (by omega) (by omega)
    apply b_X0_greatNorm_28
    simp (disch := omega) only [s_le, s_lt, s_eq, s_eq0, s_in, s_ix, s_rm, s_div, s_pdlt, s_pdle, s_lepd, s_pdpd, s_pdlepd, s_pdadd, nI_add, pk_mul, pd_succ, Nat.not_lt_zero, Nat.zero_lt_succ, not_false_eq_true, not_true_eq_false, false_implies, true_implies, implies_true, and_true, true_and, Nat.reduceLT, Nat.reduceLeDiff, Nat.reduceAdd, Nat.reduceSub, Nat.zero_add, Nat.add_zero]
    refine ⟨fun z => absurd z (by omega), fun _ => p_rdegree h0.2.1 ?_⟩
    simp (disch := omega) only [s_le, s_lt, s_eq, s_eq0, s_in, s_ix, s_rm, s_div, s_pdlt, s_pdle, s_lepd, s_pdpd, s_pdlepd, s_pdadd, nI_add, pk_mul, pd_succ, Nat.not_lt_zero, Nat.zero_lt_succ, not_false_eq_true, not_true_eq_false, false_implies, true_implies, implies_true, and_true, true_and, Nat.reduceLT, Nat.reduceLeDiff, Nat.reduceAdd, Nat.reduceSub, Nat.zero_add, Nat.add_zero]
    refine ⟨fun z => absurd z (by omega), fun _ => ?_⟩
    refine p_product h0.1 (Nat.lt_of_lt_of_le hp (Nat.pow_le_pow_right (by omega) (by omega))) hc13 (by omega) ?_
    rw [← e2]
    exact ih (j + 1) _ (by omega) (Nat.lt_of_lt_of_le hpr (Nat.pow_le_pow_right (by omega) (by omega))) hK
theorem p_greatNorm (h0 : En q m d n g mi) {c : Nat} (hc : isR c) (hc67 : 67 < c) (hc3 : 3 ≤ an c) {f : Nat → Nat} (hf : Rw n mi c f) (hu : gun q m d n (f 2) < q) {K : Int32 → (Nat → Nat → Int32) → (Nat → Nat → Int64) → Prop}
    (hK : ∀ (ch : Nat) (mi1 : Nat → Nat → Int32), off16 mi mi1 → chc q m d (f 0) = some ch → gno q m d n f ch < q ^ (d + 1) → K (nI (gno q m d n f ch)) mi1 ml) : wpI G e 154 m_X0_greatNorm [.ref 11, .ref c] (mi, ml, RX y) K := by
  have hcN := hc.2
  have w := h0.w
  have hq2 := w.q2
  have hd7 := w.d7
  have hd1 : 1 ≤ d := w.2.2.2.2.1
  have hul := gu_lt hq2 hu
  apply e_X0_greatNorm
  simp (disch := omega) only [s_le, s_lt, s_eq, s_eq0, s_in, s_ix, s_rm, s_div, s_pdlt, s_pdle, s_lepd, s_pdpd, s_pdlepd, s_pdadd, nI_add, pk_mul, pd_succ, Nat.not_lt_zero, Nat.zero_lt_succ, not_false_eq_true, not_true_eq_false, false_implies, true_implies, implies_true, and_true, true_and, Nat.reduceLT, Nat.reduceLeDiff, Nat.reduceAdd, Nat.reduceSub, Nat.zero_add, Nat.add_zero]
  refine ⟨hc.1, by omega, ?_⟩
  rw [hf.1 0 (by omega)]
  refine p_chc h0 (hf.2.2 0) (fun ch mi1 ho1 hch hlt => ?_)
  have hE := h0.off16 ho1
  have hch13 : ch < q ^ 13 := Nat.lt_of_lt_of_le hlt (Nat.pow_le_pow_right (by omega) (by omega))
  refine p_greatUnit hE hc hc3 (hf.off (ho1 c (by omega))) hu (p_degree hE.1 hch13 ?_)
  have hK1 := hK ch mi1 ho1 hch
  unfold gno at hK1
  have hl := ln_le q 13 ch
  have hq1 : q ^ 1 ≤ q ^ (d + 1) := Nat.pow_le_pow_right (by omega) (by omega)
  rw [Nat.pow_one] at hq1
  by_cases c1 : ln q 13 ch ≤ 1
  · rw [if_pos c1] at hK1
    apply b_X0_greatNorm_28
    simp (disch := omega) only [s_le, s_lt, s_eq, s_eq0, s_in, s_ix, s_rm, s_div, s_pdlt, s_pdle, s_lepd, s_pdpd, s_pdlepd, s_pdadd, nI_add, pk_mul, pd_succ, Nat.not_lt_zero, Nat.zero_lt_succ, not_false_eq_true, not_true_eq_false, false_implies, true_implies, implies_true, and_true, true_and, Nat.reduceLT, Nat.reduceLeDiff, Nat.reduceAdd, Nat.reduceSub, Nat.zero_add, Nat.add_zero]
    exact ⟨fun _ => hK1 (by omega), fun z => absurd c1 z⟩
  · rw [if_neg c1] at hK1
    obtain ⟨deg, hdeg⟩ : ∃ deg, ln q 13 ch = deg + 1 := ⟨ln q 13 ch - 1, by omega⟩
    rw [hdeg, Nat.add_sub_cancel] at hK1
    rw [hdeg, pd_succ]
    have := p_gno_loop (G := G) (e := e) (ml := ml) (y := y) (K := K) hdeg hch13 (by omega) hE (d / deg) 0 (gu q m d n (f 2)) rfl (by rw [Nat.zero_mul, Nat.zero_add, Nat.pow_one]; exact hul) hK1
    rw [Nat.zero_add, Nat.one_mul] at this
    exact this
theorem p_greatTrace (h0 : En q m d n g mi) {c : Nat} (hc : isR c) (hc25 : an c ≤ 25) (hc67 : 67 < c) (hc3 : 3 ≤ an c) {f : Nat → Nat} (hf : Rw n mi c f) (hu : gun q m d n (f 2) < q) {K : Int32 → (Nat → Nat → Int32) → (Nat → Nat → Int64) → Prop}
    (hK : ∀ (ch : Nat) (mi1 : Nat → Nat → Int32), off16 mi mi1 → chc q m d (f 0) = some ch → K (nI (gtr q m d n f ch)) mi1 ml) : wpI G e 154 m_X0_greatTrace [.ref 11, .ref c] (mi, ml, RX y) K := by
  have w := h0.w
  have hq2 := w.q2
  have hd7 := w.d7
  have hul := gu_lt hq2 hu
  have h1q : 1 < q ^ 13 := Nat.one_lt_pow (by omega) (by omega)
  apply e_X0_greatTrace
  refine p_greatUnit h0 hc hc3 hf hu (p_negative h0.1 (Nat.le_of_lt hul) ?_)
  refine p_greatNorm h0 hc hc67 hc3 hf hu (fun ch mi1 ho1 hch hlt => ?_)
  have hE := h0.off16 ho1
  refine p_sum hE.1 h1q (Nat.lt_of_lt_of_le hlt (Nat.pow_le_pow_right (by omega) (by omega))) ?_
  refine p_points hE hc hc25 hc67 (hf.off (ho1 c (by omega))) (fun mi2 ho2 hM hlt2 => ?_)
  have ho3 : off16 mi mi2 := fun o oo => by rw [ho2 o oo]; exact ho1 o oo
  refine p_mix (h0.off16 ho3).1 (cmb_lt _ hq2 13 _ _) (Nat.lt_of_lt_of_le hlt2 (Nat.pow_le_pow_right (by omega) (by omega))) (mod_q_lt hq2 _) ?_
  exact hK ch mi2 ho3 hch
end GRT
