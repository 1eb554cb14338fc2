/-! the reference: stays, greatest -/
def gst (q m d n g1 g2 : Nat) : Nat := sg (fun c => if (g1 = 0 ∨ tu q m d (c + 1) 1 = c + 1) ∧ (g2 = 0 ∨ tu q m d (c + 1) 2 = c + 1) then 1 else 0) (n - 1)
def mgt1 (q m d n g0 g1 j : Nat) : Nat := if hgt q m d (r3 g0 g1 (j + 1)) (mch q m d g0) = some 2 then gst q m d n g1 (j + 1) else 0
def mgs (q m d n g0 : Nat) : Nat := sg (fun g1 => sg (fun j => mgt1 q m d n g0 g1 j) (n - 1)) n
def GreOK : Prop := ∀ q m d n x g0, Pw q m d n → 1 ≤ x → x < n → full q m n x → g0 < n → mgs q m d n g0 / (n - 1) = cgr q m d n x g0 (mch q m d g0)
theorem sg_le {f : Nat → Nat} {B : Nat} (h : ∀ i, f i ≤ B) : ∀ N, sg f N ≤ N * B
  | 0 => Nat.zero_le _
  | N + 1 => by
    have := sg_le h N
    have := h N
    show sg f N + f N ≤ (N + 1) * B
    rw [Nat.add_mul, Nat.one_mul]
    omega
theorem gst_le (q m d n g1 g2 : Nat) : gst q m d n g1 g2 ≤ n - 1 := by
  have := sg_le (f := fun c => if (g1 = 0 ∨ tu q m d (c + 1) 1 = c + 1) ∧ (g2 = 0 ∨ tu q m d (c + 1) 2 = c + 1) then 1 else 0) (B := 1) (fun i => by
    split <;> omega) (n - 1)
  rw [Nat.mul_one] at this
  exact this
theorem mgt1_le (q m d n g0 g1 j : Nat) : mgt1 q m d n g0 g1 j ≤ n - 1 := by
  unfold mgt1
  split
  · exact gst_le ..
  · omega
theorem upR_at {f : Nat → Nat → Nat} {j : Nat} {r : Nat → Nat} : upR f j r j = r := by
  unfold upR
  rw [if_pos rfl]
section MGR
variable {G : GC} {e n q m d : Nat} {ml : Nat → Nat → Int64} {A : Ast} {K : Int32 → (Nat → Nat → Int32) → (Nat → Nat → Int64) → Prop}
theorem m_stays {g1 g2 : Nat} {mi : Nat → Nat → Int32} (hM : Mw q m d n mi) (h1 : g1 < n) (h2 : g2 < n) (hK : K (nI (gst q m d n g1 g2)) mi ml) : wpI G e 168 m_X10_stays [.ref 154, .int (nI g1), .int (nI g2)] (mi, ml, RX RM) K := by
  have hn := hM.two
  have w := hM.1.1
  have h4 : mi 154 4 = nI n := hM.2.1.2.2.2
  have loop : ∀ (r c : Nat), r + c = n - 1 → wp G e tM m_X10_stays 5 [(0, .ref 154), (1, .int (nI g1)), (2, .int (nI g2)), (3, .int (nI (sg (fun c => if (g1 = 0 ∨ tu q m d (c + 1) 1 = c + 1) ∧ (g2 = 0 ∨ tu q m d (c + 1) 2 = c + 1) then 1 else 0) c))), (4, .int (nI (c + 1)))] [] (mi, ml, RX RM) (QI K) := by
    intro r
    induction r with
    | zero =>
      intro c hc
      have hc : c = n - 1 := by omega
      subst hc
      apply b_X10_stays_5
      rw [h4]
      refine ⟨fun _ => hK, fun z => absurd ?_ z⟩
      rw [s_le (by omega) (by omega)]
      omega
    | succ r ih =>
      intro c hc
      have hs : sg (fun c => if (g1 = 0 ∨ tu q m d (c + 1) 1 = c + 1) ∧ (g2 = 0 ∨ tu q m d (c + 1) 2 = c + 1) then 1 else 0) c ≤ c := by
        have := sg_le (f := fun c => if (g1 = 0 ∨ tu q m d (c + 1) 1 = c + 1) ∧ (g2 = 0 ∨ tu q m d (c + 1) 2 = c + 1) then 1 else 0) (B := 1) (fun i => by
          split <;> omega) c
        rw [Nat.mul_one] at this
        exact this
      have hx : c + 1 < n := by omega
      have l1 := tu_lt (i := 1) w hx
      have l2 := tu_lt (i := 2) w hx
      have nx : ∀ v, v = (if (g1 = 0 ∨ tu q m d (c + 1) 1 = c + 1) ∧ (g2 = 0 ∨ tu q m d (c + 1) 2 = c + 1) then 1 else 0) → wp G e tM m_X10_stays 5 [(0, .ref 154), (1, .int (nI g1)), (2, .int (nI g2)), (3, .int (nI (sg (fun c => if (g1 = 0 ∨ tu q m d (c + 1) 1 = c + 1) ∧ (g2 = 0 ∨ tu q m d (c + 1) 2 = c + 1) then 1 else 0) c + v))), (4, .int (nI (c + 1 + 1)))] [] (mi, ml, RX RM) (QI K) := fun v hv => by
        rw [hv]
        exact ih (c + 1) (by omega)
      have nx0 := nx 0
      have nx1 := nx 1
      rw [Nat.add_zero] at nx0
      apply b_X10_stays_5
      rw [h4]
      simp (disch := omega) only [s_le, s_lt, s_eq, s_eq0, s_in, s_ix, s_rm, s_div, s_pdlt, s_pdle, s_lepd, s_pdpd, s_pdlepd, s_pdadd, nI_add, pk_mul, pd_succ, Nat.not_lt_zero, Nat.zero_lt_succ, not_false_eq_true, not_true_eq_false, false_implies, true_implies, implies_true, and_true, true_and, Nat.reduceLT, Nat.reduceLeDiff, Nat.reduceAdd, Nat.reduceSub, Nat.zero_add, Nat.add_zero]
      refine ⟨fun z => absurd z (by omega), fun _ => ⟨fun a => ⟨fun b => ?_, fun b => m_raise hM hx (by omega) ?_⟩, fun a => m_raise hM hx (by omega) ?_⟩⟩
      · exact nx1 (by rw [if_pos ⟨Or.inl a, Or.inl b⟩])
      · simp (disch := omega) only [s_le, s_lt, s_eq, s_eq0, s_in, s_ix, s_rm, s_div, s_pdlt, s_pdle, s_lepd, s_pdpd, s_pdlepd, s_pdadd, nI_add, pk_mul, pd_succ, Nat.not_lt_zero, Nat.zero_lt_succ, not_false_eq_true, not_true_eq_false, false_implies, true_implies, implies_true, and_true, true_and, Nat.reduceLT, Nat.reduceLeDiff, Nat.reduceAdd, Nat.reduceSub, Nat.zero_add, Nat.add_zero]
        refine ⟨fun z => nx0 ?_, fun z => nx1 ?_⟩
        · rw [if_neg (fun y => by rcases y.2 with y | y; exact b y; exact z y)]
        · rw [if_pos ⟨Or.inl a, Or.inr z⟩]
      · simp (disch := omega) only [s_le, s_lt, s_eq, s_eq0, s_in, s_ix, s_rm, s_div, s_pdlt, s_pdle, s_lepd, s_pdpd, s_pdlepd, s_pdadd, nI_add, pk_mul, pd_succ, Nat.not_lt_zero, Nat.zero_lt_succ, not_false_eq_true, not_true_eq_false, false_implies, true_implies, implies_true, and_true, true_and, Nat.reduceLT, Nat.reduceLeDiff, Nat.reduceAdd, Nat.reduceSub, Nat.zero_add, Nat.add_zero]
        refine ⟨fun z => nx0 ?_, fun z => ⟨fun b => nx1 ?_, fun b => m_raise hM hx (by omega) ?_⟩⟩
        · rw [if_neg (fun y => by rcases y.1 with y | y; exact a y; exact z y)]
        · rw [if_pos ⟨Or.inr z, Or.inl b⟩]
        · simp (disch := omega) only [s_le, s_lt, s_eq, s_eq0, s_in, s_ix, s_rm, s_div, s_pdlt, s_pdle, s_lepd, s_pdpd, s_pdlepd, s_pdadd, nI_add, pk_mul, pd_succ, Nat.not_lt_zero, Nat.zero_lt_succ, not_false_eq_true, not_true_eq_false, false_implies, true_implies, implies_true, and_true, true_and, Nat.reduceLT, Nat.reduceLeDiff, Nat.reduceAdd, Nat.reduceSub, Nat.zero_add, Nat.add_zero]
          refine ⟨fun z2 => nx0 ?_, fun z2 => nx1 ?_⟩
          · rw [if_neg (fun y => by rcases y.2 with y | y; exact b y; exact z2 y)]
          · rw [if_pos ⟨Or.inr z, Or.inr z2⟩]
  apply e_X10_stays
  exact loop (n - 1) 0 rfl
/-- A with g at the last place -/
def atN (A : Ast) (g : Nat → Nat) : Ast := (aq A, am A, atx A, adn A, aal A, upR (amd A) 9 g, amp A, aks A)
def Gi (mi0 : Nat → Nat → Int32) (g0 : Nat) (mi : Nat → Nat → Int32) : Prop := ((∀ o, o ≠ 154 → o ≠ 155 → o ≠ 161 → o ≠ 164 → o ≠ 165 → o ≠ 166 → o ≠ 167 → mi o = mi0 o) ∧ ∀ k, k ≠ 9 → k ≠ 10 → mi 154 k = mi0 154 k) ∧ (∀ k, (k < 46 ∨ 50 ≤ k) → mi 155 k = mi0 155 k) ∧ mi 155 46 = nI g0 ∧ mi 155 49 = nI 0
theorem Gi.off {mi0 mi mi1 : Nat → Nat → Int32} {g0 : Nat} (h : Gi mi0 g0 mi) (ho : offS mi mi1) : Gi mi0 g0 mi1 := by
  have e := ho.1 155 (by omega) (by omega) (by omega) (by omega) (by omega) (by omega)
  refine ⟨⟨fun o a1 a2 a3 a4 a5 a6 a7 => by rw [ho.1 o a1 a3 a4 a5 a6 a7]; exact h.1.1 o a1 a2 a3 a4 a5 a6 a7, fun k a b => by rw [ho.2 k a b]; exact h.1.2 k a b⟩, fun k hk => by rw [e]; exact h.2.1 k hk, by rw [e]; exact h.2.2.1, by rw [e]; exact h.2.2.2⟩
theorem Gi.put {mi0 mi : Nat → Nat → Int32} {g0 : Nat} (h : Gi mi0 g0 mi) {v1 v2 : Int32} : Gi mi0 g0 (u2 (u2 mi 155 47 v1) 155 48 v2) := by
  refine ⟨⟨fun o a1 a2 a3 a4 a5 a6 a7 => by rw [u2_off a2, u2_off a2]; exact h.1.1 o a1 a2 a3 a4 a5 a6 a7, fun k a b => by rw [u2_off (by omega), u2_off (by omega)]; exact h.1.2 k a b⟩, fun k hk => by rw [u2_ne (by omega), u2_ne (by omega)]; exact h.2.1 k hk, by rw [u2_ne (by omega), u2_ne (by omega)]; exact h.2.2.1, by rw [u2_ne (by omega), u2_ne (by omega)]; exact h.2.2.2⟩
theorem Gi.mw {mi0 mi : Nat → Nat → Int32} {g0 : Nat} (h : Gi mi0 g0 mi) (hM : Mw q m d n mi0) : Mw q m d n mi := hM.off ⟨h.2.1 0 (by omega), h.2.1 1 (by omega)⟩ ⟨h.1.2 3 (by omega) (by omega), h.1.2 4 (by omega) (by omega)⟩ (h.1.1 158 (by omega) (by omega) (by omega) (by omega) (by omega) (by omega) (by omega)) (h.1.1 159 (by omega) (by omega) (by omega) (by omega) (by omega) (by omega) (by omega)) (h.1.1 160 (by omega) (by omega) (by omega) (by omega) (by omega) (by omega) (by omega))
theorem Gi.ma {mi0 mi : Nat → Nat → Int32} {g0 : Nat} (h : Gi mi0 g0 mi) (hA : Ma 155 A mi0) (g1 g2 : Nat) : Ma 155 (atN A (r3 g0 g1 g2)) (u2 (u2 mi 155 47 (nI g1)) 155 48 (nI g2)) := by
  have hp := h.put (v1 := nI g1) (v2 := nI g2)
  have e47 : u2 (u2 mi 155 47 (nI g1)) 155 48 (nI g2) 155 47 = nI g1 := by rw [u2_ne (by omega), u2_at]
  have e48 : u2 (u2 mi 155 47 (nI g1)) 155 48 (nI g2) 155 48 = nI g2 := u2_at
  generalize u2 (u2 mi 155 47 (nI g1)) 155 48 (nI g2) = mi1 at *
  obtain ⟨-, p2, p3, p4⟩ := hp
  obtain ⟨b0, b1, b2, b3, b4, b5, b6, b7, b8, b9⟩ := hA
  refine ⟨by rw [p2 0 (by omega)]; exact b0, by rw [p2 1 (by omega)]; exact b1, by rw [p2 2 (by omega)]; exact b2, by rw [p2 3 (by omega)]; exact b3, by rw [p2 4 (by omega)]; exact b4, by rw [p2 5 (by omega)]; exact b5, by rw [p2 6 (by omega)]; exact b6, fun i hi k hk => ?_, fun i hi k hk => by rw [p2 _ (by omega)]; exact b8 i hi k hk, fun i hi => by rw [p2 _ (by omega)]; exact b9 i hi⟩
  by_cases c : i = 9
  · subst c
    have ea : amd (atN A (r3 g0 g1 g2)) 9 = r3 g0 g1 g2 := upR_at (f := amd A) (j := 9) (r := r3 g0 g1 g2)
    rw [ea]
    unfold r3
    by_cases k0 : k = 0
    · subst k0; rw [if_pos rfl]; exact p3
    by_cases k1 : k = 1
    · subst k1; rw [if_neg (by omega), if_pos rfl]; exact e47
    by_cases k2 : k = 2
    · subst k2; rw [if_neg (by omega), if_neg (by omega), if_pos rfl]; exact e48
    rw [if_neg k0, if_neg k1, if_neg k2, show 10 + 4 * 9 + k = 49 by omega]
    exact p4
  · have ea : amd (atN A (r3 g0 g1 g2)) i = amd A i := if_neg c
    rw [ea, p2 _ (by omega)]
    exact b7 i hi k hk
theorem r3_Rmo {g0 g1 g2 : Nat} (h0 : g0 < n) (h1 : g1 < n) (h2 : g2 < n) (h : g2 ≠ 0) : Rmo n (r3 g0 g1 g2) := by
  refine ⟨fun k => ?_, fun k hk => ?_, ?_⟩
  · unfold r3
    split
    · exact h0
    split
    · exact h1
    split
    · exact h2
    · omega
  · unfold r3
    rw [if_neg (by omega), if_neg (by omega), if_neg (by omega)]
  · have : rl (r3 g0 g1 g2) 25 = 2 + 1 := rl_is (by unfold r3; rw [if_neg (by omega), if_neg (by omega), if_pos rfl]; exact h) (by omega) (fun i hi _ => by unfold r3; rw [if_neg (by omega), if_neg (by omega), if_neg (by omega)])
    omega
theorem m_greatest (hC : ChrOK) {s : Cst} {mi0 : Nat → Nat → Int32} (hM0 : Mw q m d n mi0) (h : Ma 155 A mi0) {v : Int32} (hK0 : asN n v = none → K NONE mi0 ml) (hK1 : ∀ g0, asN n v = some g0 → g0 < n → ∀ mi1, offS mi0 mi1 → K (nI (mgs q m d n g0 / (n - 1))) mi1 ml) : wpI G e 168 m_X10_greatest [.ref 154, .int v] (mi0, ml, RX RM) K := by
  have hn := hM0.two
  have w := hM0.1.1
  have hp := hM0.1
  apply e_X10_greatest
  refine m_isRest hM0 (fun g0 hv hg0 => ⟨fun _ => ?_, fun z => absurd z (by decide)⟩) (fun hno => ⟨fun z => absurd rfl z, fun _ => hK0 (asN_none hno)⟩)
  subst hv
  have hK := hK1 g0 (by rw [asN_nI (by omega), if_pos hg0]) hg0
  have h127 : n * ((n - 1) * (n - 1)) ≤ 128 * (127 * 127) := Nat.mul_le_mul hn.2 (Nat.mul_le_mul (by omega) (by omega))
  have rowb : ∀ g1 j, sg (fun j => mgt1 q m d n g0 g1 j) j ≤ j * (n - 1) := fun g1 j => sg_le (fun i => mgt1_le ..) j
  have allb : ∀ g1, sg (fun g1 => sg (fun j => mgt1 q m d n g0 g1 j) (n - 1)) g1 ≤ g1 * ((n - 1) * (n - 1)) := fun g1 => sg_le (fun i => rowb i (n - 1)) g1
  have inner : ∀ (g1 : Nat), g1 < n → (∀ mi, Gi mi0 g0 mi → wp G e tM m_X10_greatest 72 [(0, .ref 154), (2, .int (nI 46)), (3, .int (mi0 155 46)), (4, .int (mi0 155 47)), (5, .int (mi0 155 48)), (6, .int (mi0 155 49)), (7, .int (nI (sg (fun g1 => sg (fun j => mgt1 q m d n g0 g1 j) (n - 1)) (g1 + 1)))), (8, .int (nI (g1 + 1)))] [] (mi, ml, RX RM) (QI K)) → ∀ (r j : Nat) (mi : Nat → Nat → Int32), r + j = n - 1 → Gi mi0 g0 mi → wp G e tM m_X10_greatest 84 [(0, .ref 154), (2, .int (nI 46)), (3, .int (mi0 155 46)), (4, .int (mi0 155 47)), (5, .int (mi0 155 48)), (6, .int (mi0 155 49)), (7, .int (nI (sg (fun g1 => sg (fun j => mgt1 q m d n g0 g1 j) (n - 1)) g1 + sg (fun j => mgt1 q m d n g0 g1 j) j))), (8, .int (nI g1)), (9, .int (nI (j + 1)))] [] (mi, ml, RX RM) (QI K) := by
    intro g1 hg1 hnext r
    induction r with
    | zero =>
      intro j mi hj hG
      have hj : j = n - 1 := by omega
      subst hj
      have h4 : mi 154 4 = nI n := (hG.mw hM0).2.1.2.2.2
      have := hnext mi hG
      apply b_X10_greatest_84
      rw [h4]
      refine ⟨fun _ => ?_, fun z => absurd ?_ z⟩
      · simp (disch := omega) only [s_le, s_lt, s_eq, s_eq0, s_in, s_ix, s_rm, s_div, s_pdlt, s_pdle, s_lepd, s_pdpd, s_pdlepd, s_pdadd, nI_add, pk_mul, pd_succ, Nat.not_lt_zero, Nat.zero_lt_succ, not_false_eq_true, not_true_eq_false, false_implies, true_implies, implies_true, and_true, true_and, Nat.reduceLT, Nat.reduceLeDiff, Nat.reduceAdd, Nat.reduceSub, Nat.zero_add, Nat.add_zero]
        exact this
      · rw [s_le (by omega) (by omega)]
        omega
    | succ r ih =>
      intro j mi hj hG
      have hMm := hG.mw hM0
      have h4 : mi 154 4 = nI n := hMm.2.1.2.2.2
      have hGp := hG.put (v1 := nI g1) (v2 := nI (j + 1))
      have hMp := hGp.mw hM0
      have hAp := hG.ma h g1 (j + 1)
      have hb1 := allb g1
      have hb2 := rowb g1 j
      have hm1 := mgt1_le q m d n g0 g1 j
      have hb3 : g1 * ((n - 1) * (n - 1)) ≤ n * ((n - 1) * (n - 1)) := Nat.mul_le_mul_right _ (by omega)
      have hb4 : j * (n - 1) ≤ 127 * 127 := Nat.mul_le_mul (by omega) (by omega)
      apply b_X10_greatest_84
      rw [h4]
      simp (disch := omega) only [s_le, s_lt, s_eq, s_eq0, s_in, s_ix, s_rm, s_div, s_pdlt, s_pdle, s_lepd, s_pdpd, s_pdlepd, s_pdadd, nI_add, pk_mul, pd_succ, Nat.not_lt_zero, Nat.zero_lt_succ, not_false_eq_true, not_true_eq_false, false_implies, true_implies, implies_true, and_true, true_and, Nat.reduceLT, Nat.reduceLeDiff, Nat.reduceAdd, Nat.reduceSub, Nat.zero_add, Nat.add_zero]
      refine ⟨fun z => absurd z (by omega), fun _ => ?_⟩
      refine m_height (A := atN A (r3 g0 g1 (j + 1))) hC hMp hAp (by omega) ?_ (fun mi1 z o1 hz => ?_)
      · have ea : amd (atN A (r3 g0 g1 (j + 1))) 9 = r3 g0 g1 (j + 1) := upR_at (f := amd A) (j := 9) (r := r3 g0 g1 (j + 1))
        rw [ea]
        exact r3_Rmo hg0 hg1 (by omega) (by omega)
      · have ea : amd (atN A (r3 g0 g1 (j + 1))) 9 = r3 g0 g1 (j + 1) := upR_at (f := amd A) (j := 9) (r := r3 g0 g1 (j + 1))
        rw [ea] at hz
        have ez : hgt q m d (r3 g0 g1 (j + 1)) (mch q m d g0) = some z := hz
        have hzl := hgt_lt ez
        have em : mgt1 q m d n g0 g1 j = if z = 2 then gst q m d n g1 (j + 1) else 0 := by
          unfold mgt1
          rw [ez]
          by_cases y : z = 2
          · rw [if_pos y, if_pos (by rw [y])]
          · rw [if_neg y, if_neg (fun x => y (Option.some.inj x))]
        have hG1 := hGp.off o1
        have hM1 := hG1.mw hM0
        have := ih (j + 1) mi1 (by omega) hG1
        have es : sg (fun j => mgt1 q m d n g0 g1 j) (j + 1) = sg (fun j => mgt1 q m d n g0 g1 j) j + mgt1 q m d n g0 g1 j := rfl
        rw [es, em] at this
        simp (disch := omega) only [s_le, s_lt, s_eq, s_eq0, s_in, s_ix, s_rm, s_div, s_pdlt, s_pdle, s_lepd, s_pdpd, s_pdlepd, s_pdadd, nI_add, pk_mul, pd_succ, Nat.not_lt_zero, Nat.zero_lt_succ, not_false_eq_true, not_true_eq_false, false_implies, true_implies, implies_true, and_true, true_and, Nat.reduceLT, Nat.reduceLeDiff, Nat.reduceAdd, Nat.reduceSub, Nat.zero_add, Nat.add_zero]
        refine ⟨fun y => ?_, fun y => ?_⟩
        · rw [if_neg y, Nat.add_zero] at this
          exact this
        · rw [if_pos y, ← Nat.add_assoc] at this
          refine m_stays hM1 hg1 (by omega) ?_
          simp (disch := omega) only [s_le, s_lt, s_eq, s_eq0, s_in, s_ix, s_rm, s_div, s_pdlt, s_pdle, s_lepd, s_pdpd, s_pdlepd, s_pdadd, nI_add, pk_mul, pd_succ, Nat.not_lt_zero, Nat.zero_lt_succ, not_false_eq_true, not_true_eq_false, false_implies, true_implies, implies_true, and_true, true_and, Nat.reduceLT, Nat.reduceLeDiff, Nat.reduceAdd, Nat.reduceSub, Nat.zero_add, Nat.add_zero]
          exact this
  have outer : ∀ (r g1 : Nat) (mi : Nat → Nat → Int32), r + g1 = n → Gi mi0 g0 mi → wp G e tM m_X10_greatest 72 [(0, .ref 154), (2, .int (nI 46)), (3, .int (mi0 155 46)), (4, .int (mi0 155 47)), (5, .int (mi0 155 48)), (6, .int (mi0 155 49)), (7, .int (nI (sg (fun g1 => sg (fun j => mgt1 q m d n g0 g1 j) (n - 1)) g1))), (8, .int (nI g1))] [] (mi, ml, RX RM) (QI K) := by
    intro r
    induction r with
    | zero =>
      intro g1 mi hg hG
      have hg : g1 = n := by omega
      subst hg
      have h4 : mi 154 4 = nI g1 := (hG.mw hM0).2.1.2.2.2
      have hb1 := allb g1
      have e0 : ∀ v1 v2 v3 v4, u2 (u2 (u2 (u2 mi 155 46 v1) 155 47 v2) 155 48 v3) 155 49 v4 154 4 = nI g1 := fun v1 v2 v3 v4 => by
        rw [u2_off (by omega), u2_off (by omega), u2_off (by omega), u2_off (by omega)]
        exact h4
      have e1 : nI g1 - nI 1 = nI (g1 - 1) := s_sub (by omega)
      have hfin : offS mi0 (u2 (u2 (u2 (u2 mi 155 46 (mi0 155 46)) 155 47 (mi0 155 47)) 155 48 (mi0 155 48)) 155 49 (mi0 155 49)) := by
        refine ⟨fun o a1 a2 a3 a4 a5 a6 => ?_, fun k a b => ?_⟩
        · by_cases c : o = 155
          · subst c
            refine funext fun k => ?_
            by_cases k49 : k = 49
            · rw [k49, u2_at]
            by_cases k48 : k = 48
            · rw [k48, u2_ne (by omega), u2_at]
            by_cases k47 : k = 47
            · rw [k47, u2_ne (by omega), u2_ne (by omega), u2_at]
            by_cases k46 : k = 46
            · rw [k46, u2_ne (by omega), u2_ne (by omega), u2_ne (by omega), u2_at]
            rw [u2_ne k49, u2_ne k48, u2_ne k47, u2_ne k46]
            exact hG.2.1 k (by omega)
          · rw [u2_off c, u2_off c, u2_off c, u2_off c]
            exact hG.1.1 o a1 c a2 a3 a4 a5 a6
        · rw [u2_off (by omega), u2_off (by omega), u2_off (by omega), u2_off (by omega)]
          exact hG.1.2 k a b
      have := hK _ hfin
      have hms : sg (fun g1_1 => sg (fun j => mgt1 q m d g1 g0 g1_1 j) (g1 - 1)) g1 = mgs q m d g1 g0 := rfl
      apply b_X10_greatest_72
      rw [h4]
      simp (disch := omega) only [s_le, s_lt, s_eq, s_eq0, s_in, s_ix, s_rm, s_div, s_pdlt, s_pdle, s_lepd, s_pdpd, s_pdlepd, s_pdadd, nI_add, pk_mul, pd_succ, Nat.not_lt_zero, Nat.zero_lt_succ, not_false_eq_true, not_true_eq_false, false_implies, true_implies, implies_true, and_true, true_and, Nat.reduceLT, Nat.reduceLeDiff, Nat.reduceAdd, Nat.reduceSub, Nat.zero_add, Nat.add_zero, e0, e1, hms, Nat.le_refl]
      exact ⟨by omega, this⟩
    | succ r ih =>
      intro g1 mi hg hG
      have h4 : mi 154 4 = nI n := (hG.mw hM0).2.1.2.2.2
      have := inner g1 (by omega) (fun mi1 hG1 => ih (g1 + 1) mi1 (by omega) hG1) (n - 1) 0 mi rfl hG
      have es : sg (fun j => mgt1 q m d n g0 g1 j) 0 = 0 := rfl
      rw [es, Nat.add_zero] at this
      apply b_X10_greatest_72
      rw [h4]
      simp (disch := omega) only [s_le, s_lt, s_eq, s_eq0, s_in, s_ix, s_rm, s_div, s_pdlt, s_pdle, s_lepd, s_pdpd, s_pdlepd, s_pdadd, nI_add, pk_mul, pd_succ, Nat.not_lt_zero, Nat.zero_lt_succ, not_false_eq_true, not_true_eq_false, false_implies, true_implies, implies_true, and_true, true_and, Nat.reduceLT, Nat.reduceLeDiff, Nat.reduceAdd, Nat.reduceSub, Nat.zero_add, Nat.add_zero]
      exact ⟨fun z => absurd z (by omega), fun _ => this⟩
  simp (disch := omega) only [s_le, s_lt, s_eq, s_eq0, s_in, s_ix, s_rm, s_div, s_pdlt, s_pdle, s_lepd, s_pdpd, s_pdlepd, s_pdadd, nI_add, pk_mul, pd_succ, Nat.not_lt_zero, Nat.zero_lt_succ, not_false_eq_true, not_true_eq_false, false_implies, true_implies, implies_true, and_true, true_and, Nat.reduceLT, Nat.reduceLeDiff, Nat.reduceAdd, Nat.reduceSub, Nat.zero_add, Nat.add_zero]
  refine outer n 0 _ rfl ?_
  refine ⟨⟨fun o a1 a2 a3 a4 a5 a6 a7 => by rw [u2_off a2, u2_off a2], fun k a b => by rw [u2_off (by omega), u2_off (by omega)]⟩, fun k hk => by rw [u2_ne (by omega), u2_ne (by omega)], by rw [u2_ne (by omega), u2_at], u2_at⟩
end MGR
