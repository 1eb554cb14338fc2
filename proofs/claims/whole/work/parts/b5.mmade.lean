/-! the reference: made -/
/-- t less y^(q-1) -/
def wyr (q m y : Nat) : Nat → Nat := fun k => if k = 0 then cmb q (q - 1) 13 0 (gp q m y (q - 1)) else if k = 1 then 1 else 0
def mdr (q m d : Nat) (g : Nat → Nat) (x : Nat) : Nat → Nat → Nat
  | 0 => r1 1
  | i + 1 => cv q m d (wyr q m (vl q m d (mdr q m d g x i) (itr (vl q m d g) i x))) (mdr q m d g x i)
def mdv (q m d : Nat) (g : Nat → Nat) (x i : Nat) : Nat := vl q m d (mdr q m d g x i) (itr (vl q m d g) i x)
def MadeOK : Prop := ∀ q m d n (g : Nat → Nat) x, Pw q m d n → (∀ k, g k < n) → x < n → ∃ k, k ≤ d ∧ mdv q m d g x k = 0 ∧ (∀ i, i < k → mdv q m d g x i ≠ 0) ∧ mdr q m d g x k = mak q m d n g x
section MDE
variable {q m d n : Nat}
theorem wyr_lt (w : Wd q m d n) {y : Nat} (hy : y < n) : ∀ k, wyr q m y k < n := fun k => by
  have := w.n2
  unfold wyr
  split
  · exact cmb_ltn w w.pos (gp_lt w hy _)
  · split <;> omega
theorem mdr_ok (hp : Pw q m d n) {g : Nat → Nat} {x : Nat} (hx : x < n) : ∀ i, (∀ j, mdr q m d g x i j < n) ∧ (∀ j, i < j → mdr q m d g x i j = 0) ∧ mdr q m d g x i i ≠ 0
  | 0 => by
    have := hp.1.n2
    refine ⟨fun j => ?_, fun j hj => if_neg (by omega), ?_⟩
    · show (if j = 0 then 1 else 0) < n
      split <;> omega
    · show (if 0 = 0 then 1 else 0) ≠ 0
      rw [if_pos rfl]
      omega
  | i + 1 => by
    have w := hp.1
    obtain ⟨a1, a2, a3⟩ := mdr_ok hp (g := g) hx i
    have hy : mdv q m d g x i < n := vl_lt w (itr_lt (fun _ h => vl_lt w h) i x hx)
    have hw := wyr_lt w hy
    obtain ⟨l1, l2⟩ := cv_lead hp hw a1 (F := 1) (L := i) (by unfold wyr; rw [if_neg (by omega), if_pos rfl]; omega) a3 (fun k hk => by unfold wyr; rw [if_neg (by omega), if_neg (by omega)]) a2
    rw [Nat.add_comm 1 i] at l1 l2
    exact ⟨fun j => cv_lt w a1 j, l2, l1⟩
end MDE
section MMD
variable {G : GC} {e n q m d : Nat} {ml : Nat → Nat → Int64} {A : Ast} {K : Int32 → (Nat → Nat → Int32) → (Nat → Nat → Int64) → Prop}
theorem m_md_pow {x y : Nat} {i : Nat} {mi : Nat → Nat → Int32} (hM : Mw q m d n mi) (hy : y < n) (hK : wp G e tM m_X10_made 68 [(0, .ref 154), (1, .int (nI i)), (3, .int (nI x)), (4, .int (nI y)), (5, .int (nI (gp q m y (q - 1)))), (6, .int (nI q))] [] (mi, ml, RX RM) (QI K)) : ∀ (r k : Nat), r + k = q → 1 ≤ k → wp G e tM m_X10_made 68 [(0, .ref 154), (1, .int (nI i)), (3, .int (nI x)), (4, .int (nI y)), (5, .int (nI (gp q m y (k - 1)))), (6, .int (nI k))] [] (mi, ml, RX RM) (QI K) := by
  have w := hM.1.1
  have hq2 := hM.2.1.1.two
  have hb := hM.2.1.1.2
  intro r
  induction r with
  | zero =>
    intro k hk _
    have : k = q := by omega
    subst this
    exact hK
  | succ r ih =>
    intro k hk hk1
    have := ih (k + 1) (by omega) (by omega)
    rw [Nat.add_sub_cancel] at this
    obtain ⟨j, rfl⟩ : ∃ j, k = j + 1 := ⟨k - 1, by omega⟩
    rw [Nat.add_sub_cancel]
    apply b_X10_made_68
    simp (disch := omega) only [s_le, s_lt, s_eq, s_eq0, s_in, s_ix, s_rm, s_div, s_pdlt, s_pdle, s_lepd, s_pdpd, s_pdlepd, s_pdadd, nI_add, pk_mul, pd_succ, Nat.not_lt_zero, Nat.zero_lt_succ, not_false_eq_true, not_true_eq_false, false_implies, true_implies, implies_true, and_true, true_and, Nat.reduceLT, Nat.reduceLeDiff, Nat.reduceAdd, Nat.reduceSub, Nat.zero_add, Nat.add_zero, hb]
    refine ⟨fun z => absurd z (by omega), fun _ => m_mul hM (gp_lt w hy j) hy ?_⟩
    exact this
theorem m_made (hMd : MadeOK) {s : Cst} {mi0 : Nat → Nat → Int32} (hs : A = cN s) (hM : Mw q m d n mi0) (hq : aq (cN s) = q) (hm : am (cN s) = m) (hd : dO (cN s) = d) (hnO : nO (cN s) = n) (h : Ma 155 A mi0) (h10 : kc (aks A) 0 (adn A) ≤ 10) (h11 : kc (aks A) 1 (adn A) ≤ 10) (hks : ∀ i, aks A i ≤ 1) (hl : ∀ i, i < kc (aks A) 0 (adn A) → Rmo n (amd A i)) {v1 v2 : Int32}
    (hK : ∀ mi1, (∀ o, o ≠ 155 → o ≠ 161 → mi1 o = mi0 o) → mi1 155 0 = mi0 155 0 → mi1 155 1 = mi0 155 1 → Ma 155 (cN (fMade s v1 v2).2) mi1 → K (fMade s v1 v2).1 mi1 ml) : wpI G e 168 m_X10_made [.ref 154, .int v1, .int v2] (mi0, ml, RX RM) K := by
  subst hs
  have hn := hM.two
  have w := hM.1.1
  have h2 := w.q2
  have hd7 := w.d7
  have hq2 := hM.2.1.1.two
  unfold fMade at hK
  rw [hq, hm, hd, hnO] at hK
  have fail : (∀ (p : Int32 × Cst), p = (NONE, s) → (∀ mi1, (∀ o, o ≠ 155 → o ≠ 161 → mi1 o = mi0 o) → mi1 155 0 = mi0 155 0 → mi1 155 1 = mi0 155 1 → Ma 155 (cN p.2) mi1 → K p.1 mi1 ml) → K NONE mi0 ml) := fun p hp hh => by
    subst hp
    exact hh mi0 (fun _ _ _ => rfl) rfl rfl h
  have e3 : mi0 155 3 = nI (kc (aks (cN s)) 1 (adn (cN s))) := h.2.2.2.1
  apply e_X10_made
  refine m_isModule h h10 (fun i hi hv hlt => ⟨fun z => absurd z (by decide), fun _ => ?_⟩) (fun hno => ⟨fun _ => ?_, fun z => absurd rfl z⟩)
  · rw [hi] at hK
    subst hv
    have hR := hl i hlt
    refine m_isRest hM (fun x hx hlx => ⟨fun z => absurd z (by decide), fun _ => ?_⟩) (fun hno => ⟨fun _ => ?_, fun z => absurd rfl z⟩)
    · subst hx
      rw [asN_nI (by omega), if_pos hlx] at hK
      have hK2 : ∀ mi1, (∀ o, o ≠ 155 → o ≠ 161 → mi1 o = mi0 o) → mi1 155 0 = mi0 155 0 → mi1 155 1 = mi0 155 1 → Ma 155 (cN (tellP s (mak q m d n (amd (cN s) i) x)).2) mi1 → K (tellP s (mak q m d n (amd (cN s) i) x)).1 mi1 ml := hK
      simp (disch := omega) only [s_le, s_lt, s_eq, s_eq0, s_in, s_ix, s_rm, s_div, s_pdlt, s_pdle, s_lepd, s_pdpd, s_pdlepd, s_pdadd, nI_add, pk_mul, pd_succ, Nat.not_lt_zero, Nat.zero_lt_succ, not_false_eq_true, not_true_eq_false, false_implies, true_implies, implies_true, and_true, true_and, Nat.reduceLT, Nat.reduceLeDiff, Nat.reduceAdd, Nat.reduceSub, Nat.zero_add, Nat.add_zero, e3]
      refine ⟨fun c => ?_, fun c => ?_⟩
      · obtain ⟨k0, k1, k2, k3, k4⟩ := hMd q m d n (amd (cN s) i) x hM.1 hR.1 hlx
        refine m_clear (n := n) (r := 2) (by omega) (by omega) (fun mi1 ho hw => ?_)
        have hW : Wr n (u2 mi1 161 50 (nI 1)) 2 (r1 1) := by
          refine ⟨by omega, fun k hk => ?_, fun k hk => if_neg (by omega), fun k => ?_⟩
          · unfold r1
            by_cases c0 : k = 0
            · subst c0
              rw [if_pos rfl, u2_at]
            · rw [if_neg c0, u2_ne (by omega)]
              exact hw.2.1 k hk
          · unfold r1
            split <;> omega
        have hoV : ∀ o, o ≠ 161 → u2 mi1 161 50 (nI 1) o = mi0 o := fun o z => by rw [u2_off z, ho.1 o z]
        have hMa : ∀ mi2, (∀ o, o ≠ 161 → mi2 o = mi0 o) → Mw q m d n mi2 := fun mi2 z => hM.offS (offS.w z)
        have loop : ∀ (r k : Nat) (mi : Nat → Nat → Int32), r + k = k0 → (∀ o, o ≠ 161 → mi o = mi0 o) → Wr n mi 2 (mdr q m d (amd (cN s) i) x k) → wp G e tM m_X10_made 52 [(0, .ref 154), (1, .int (nI i)), (3, .int (nI (itr (vl q m d (amd (cN s) i)) k x))), (4, .int (nI (mdv q m d (amd (cN s) i) x k)))] [] (mi, ml, RX RM) (QI K) := by
          intro r
          induction r with
          | zero =>
            intro k mi hk ho1 hW1
            have : k = k0 := by omega
            subst this
            rw [k4] at hW1
            apply b_X10_made_52
            rw [k2]
            refine ⟨fun _ => ?_, fun z => absurd rfl z⟩
            refine m_tellMap (h.off (ho1 155 (by omega))) hn.2 hW1 h10 h11 hks (fun hc mi2 ho2 g0 g1 hA => ?_) (fun hc => ?_)
            · unfold tellP at hK2
              rw [if_pos hc] at hK2
              exact hK2 mi2 (fun o o1 o2 => by rw [ho2 o o1, ho1 o o2]) (by rw [g0, ho1 155 (by omega)]) (by rw [g1, ho1 155 (by omega)]) hA
            · unfold tellP at hK2
              rw [if_neg hc] at hK2
              exact hK2 _ (fun o o1 o2 => ho1 o o2) (by rw [ho1 155 (by omega)]) (by rw [ho1 155 (by omega)]) (h.off (ho1 155 (by omega)))
          | succ r ih =>
            intro k mi hk ho1 hW1
            have hMk := hMa mi ho1
            have hxk := itr_lt (fun _ h => vl_lt (f := amd (cN s) i) w h) k x hlx
            have hyk : mdv q m d (amd (cN s) i) x k < n := vl_lt w hxk
            obtain ⟨a1, a2, a3⟩ := mdr_ok hM.1 (g := amd (cN s) i) hlx k
            apply b_X10_made_52
            have hne := k3 k (by omega)
            simp (disch := omega) only [s_le, s_lt, s_eq, s_eq0, s_in, s_ix, s_rm, s_div, s_pdlt, s_pdle, s_lepd, s_pdpd, s_pdlepd, s_pdadd, nI_add, pk_mul, pd_succ, Nat.not_lt_zero, Nat.zero_lt_succ, not_false_eq_true, not_true_eq_false, false_implies, true_implies, implies_true, and_true, true_and, Nat.reduceLT, Nat.reduceLeDiff, Nat.reduceAdd, Nat.reduceSub, Nat.zero_add, Nat.add_zero]
            refine ⟨fun z => absurd z hne, fun _ => ?_⟩
            refine m_clear (n := n) (r := 5) (by omega) (by omega) (fun mi2 o2 w2 => ?_)
            have hM2 := hMk.offV o2
            refine m_md_pow (y := mdv q m d (amd (cN s) i) x k) hM2 hyk ?_ (q - 1) 1 (by omega) (Nat.le_refl _)
            apply b_X10_made_68
            have hb := hM2.2.1.1.2
            simp (disch := omega) only [s_le, s_lt, s_eq, s_eq0, s_in, s_ix, s_rm, s_div, s_pdlt, s_pdle, s_lepd, s_pdpd, s_pdlepd, s_pdadd, nI_add, pk_mul, pd_succ, Nat.not_lt_zero, Nat.zero_lt_succ, not_false_eq_true, not_true_eq_false, false_implies, true_implies, implies_true, and_true, true_and, Nat.reduceLT, Nat.reduceLeDiff, Nat.reduceAdd, Nat.reduceSub, Nat.zero_add, Nat.add_zero, hb, Nat.le_refl]
            refine m_minus hM2.2.1.1 (w.lt13 (gp_lt w hyk _)) ?_
            have hW5 : Wr n (u2 (u2 mi2 161 125 (nI (cmb q (q - 1) 13 0 (gp q m (mdv q m d (amd (cN s) i) x k) (q - 1))))) 161 126 (nI 1)) 5 (wyr q m (mdv q m d (amd (cN s) i) x k)) := by
              refine ⟨by omega, fun j hj => ?_, fun j hj => ?_, wyr_lt w hyk⟩
              · unfold wyr
                by_cases c0 : j = 0
                · subst c0
                  rw [if_pos rfl, u2_ne (by omega), u2_at]
                · by_cases c1 : j = 1
                  · subst c1
                    rw [if_neg (by omega), if_pos rfl, u2_at]
                  · rw [if_neg c0, if_neg c1, u2_ne (by omega), u2_ne (by omega)]
                    exact w2.2.1 j hj
              · unfold wyr
                rw [if_neg (by omega), if_neg (by omega)]
            have hW2 : Wr n (u2 (u2 mi2 161 125 (nI (cmb q (q - 1) 13 0 (gp q m (mdv q m d (amd (cN s) i) x k) (q - 1))))) 161 126 (nI 1)) 2 (mdr q m d (amd (cN s) i) x k) := by
              have h0 := hW1.offV o2 (by omega)
              refine ⟨h0.1, fun j hj => ?_, h0.2.2⟩
              rw [u2_ne (by omega), u2_ne (by omega)]
              exact h0.2.1 j hj
            have o3 : ∀ o, o ≠ 161 → u2 (u2 mi2 161 125 (nI (cmb q (q - 1) 13 0 (gp q m (mdv q m d (amd (cN s) i) x k) (q - 1))))) 161 126 (nI 1) o = mi0 o := fun o z => by rw [u2_off z, u2_off z, o2.1 o z, ho1 o z]
            have hM3 := hMa _ o3
            have hf1 : rl (wyr q m (mdv q m d (amd (cN s) i) x k)) 25 = 1 + 1 := rl_is (by unfold wyr; rw [if_neg (by omega), if_pos rfl]; omega) (by omega) (fun j hj _ => by unfold wyr; rw [if_neg (by omega), if_neg (by omega)])
            have hf2 : rl (mdr q m d (amd (cN s) i) x k) 25 = k + 1 := rl_is a3 (by omega) (fun j hj _ => a2 j hj)
            refine m_multiply (a := 5) (b := 2) (c := 3) hM3 hW5 hW2 (by omega) (by omega) (by omega) (fun _ mi4 o4 w4 => ?_) (fun z => absurd (Or.inr (Or.inr (by omega))) z)
            refine m_lay (r := 3) (c := 2) (by omega) (by omega) w4 (fun mi5 o5 w5 => ?_)
            have ho5 : ∀ o, o ≠ 161 → mi5 o = mi0 o := fun o z => by rw [o5.1 o z, o4.1 o z, o3 o z]
            have hM5 := hMa _ ho5
            refine m_stepped hM5 (h.off (ho5 155 (by omega))) (by omega) hR.1 hR.2.1 hxk ?_
            refine m_sent hM5 w5 (vl_lt w hxk) ?_
            have := ih (k + 1) mi5 (by omega) ho5 w5
            rw [itr_suc] at this
            unfold mdv at this
            rw [itr_suc] at this
            exact this
        refine m_sent (hMa _ hoV) hW hlx ?_
        exact loop k0 0 _ (by omega) hoV hW
      · unfold tellP at hK2
        rw [if_neg (by omega)] at hK2
        exact hK2 mi0 (fun _ _ _ => rfl) rfl rfl h
    · rw [asN_none hno] at hK
      exact fail _ rfl hK
  · rw [hno] at hK
    exact fail _ rfl hK
end MMD
