/-! the class's face: text, told -/
variable {mo : Nat → Nat → Int32}
def txB : Bool := (List.range 4).all (fun j => Nat.beq (ak (147 + j)) 11 && Nat.beq (an (147 + j)) 300) && (Nat.beq (ak 152) 11 && Nat.beq (an 152) 300 && Nat.beq (ak 151) 11 && Nat.beq (an 151) 4)
theorem txB_ok : txB = true := by decide +kernel
theorem tx_row {j : Nat} (hj : j < 4) : isR (147 + j) ∧ an (147 + j) = 300 := by
  have h := txB_ok
  unfold txB at h
  rw [Bool.and_eq_true] at h
  have h1 := List.all_eq_true.mp h.1 j (List.mem_range.mpr hj)
  simp only [Bool.and_eq_true, nbq] at h1
  exact ⟨⟨⟨h1.1, by omega⟩, by rw [h1.2]; omega⟩, h1.2⟩
theorem tx_tape : (isR 152 ∧ an 152 = 300) ∧ ak 151 = 11 ∧ an 151 = 4 := by
  have h := txB_ok
  unfold txB at h
  rw [Bool.and_eq_true] at h
  have h1 := h.2
  simp only [Bool.and_eq_true, nbq] at h1
  exact ⟨⟨⟨⟨h1.1.1.1, by omega⟩, by rw [h1.1.1.2]; omega⟩, h1.1.1.2⟩, h1.1.2, h1.2⟩
section FC6
variable {G : GC} {e : Nat} {mi : Nat → Nat → Int32} {ml : Nat → Nat → Int64} {y : Nat → Nat → Option Nat} {s : Cst}
theorem CI.rd {A1 : Cst} {q m d n g c len nC : Nat} {tx : Nat → Nat} {w : Bool} {r : PS} {mi1 : Nat → Nat → Int32} (h : CI mo s mi) (ho : offR mi mi1) (hr : RE q m d n g c len tx w nC r mi1) : CI mo s mi1 := by
  obtain ⟨⟨g0, num, S, h1, h2⟩, h3, h4, h5, h6, h7⟩ := h
  exact ⟨⟨g0, _, _, h1.off (fun o o1 o2 => ho o (by omega)), hr.rest⟩, h3.off (fun o o1 o2 => ho o (by omega)), h4.off (fun o o1 o2 => ho o (by omega)), h5, h6, h7.off (ho 0 (by omega)) (fun o o1 o2 => ho o (by omega)) (fun o o1 => ho o (by omega))⟩
theorem p_text (he : 32 ≤ e) (h : CI mo s mi) {K : Int32 → (Nat → Nat → Int32) → (Nat → Nat → Int64) → Prop} (hK : ∀ num S mi1, num ≤ 10000 → CI mo (fText s num S).2 mi1 → K (fText s num S).1 mi1 ml) : wpI G e 154 m_X9_text [.ref 0] (mi, ml, RX y) K := by
  obtain ⟨⟨g, num, S, hE, hR⟩, hN, hKp, hSN, hSK, hT⟩ := id h
  obtain ⟨t1, t2, t3, t4, t5, t6, t7, t8, t9⟩ := id hT
  have hx4 : atx (cN s) ≤ 4 := hSN.2.1
  replace hK := fun mi1 => hK num S mi1 hR.2.2.1
  unfold fText at hK
  apply e_X9_text
  apply e_X6_texts
  rw [show mi 96 2 = nI (atx (cN s)) from hN.2.2.1, t1]
  simp (disch := omega) only [s_le, s_lt, s_eq, s_eq0, s_in, s_ix, s_rm, s_div, s_pdlt, s_pdle, s_lepd, s_pdpd, s_pdlepd, s_pdadd, nI_add, pk_mul, pd_succ, Nat.not_lt_zero, Nat.zero_lt_succ, not_false_eq_true, not_true_eq_false, false_implies, true_implies, implies_true, and_true, true_and, Nat.reduceLT, Nat.reduceLeDiff, Nat.reduceAdd, Nat.reduceSub, Nat.zero_add, Nat.add_zero]
  refine ⟨fun z => ?_, fun z => ?_⟩
  · rw [if_neg (by omega)] at hK
    have hTx : Tx 152 (cTl s) (cTb s) mi := ⟨tx_tape.1.1, tx_tape.1.2, by omega, t2, t6, fun i hi => t5 i (by omega)⟩
    refine p_check he hE hTx hR (fun mi1 nC1 ho1 h1 => ?_)
    have hF4 : sF (cR s num S) ≤ 4 := pCk_F 21 _ 0 (by show 0 ≤ 4; omega)
    have h13 : mi1 73 13 = (if sF (cR s num S) = 0 then -(nI 1) else nI (sA (cR s num S))) := h1.2.2.2.2.2.2.2.2.1
    have hC1 := h.rd (A1 := s) ho1 h1
    change RE _ _ _ _ g 152 (cTl s) (cTb s) false nC1 (cR s num S) mi1 at h1
    show wpI G e 154 m_X4_faultPlace [.ref 73] ((u2 mi1 0 14 (nI (sF (cR s num S)))), ml, (RX y)) _
    apply e_X4_faultPlace
    rw [u2_off (show 73 ≠ 0 by omega), h13]
    generalize hvP : (if sF (cR s num S) = 0 then -(nI 1) else nI (sA (cR s num S))) = vP
    have q14 : u2 (u2 mi1 0 14 (nI (sF (cR s num S)))) 0 15 vP 0 14 = nI (sF (cR s num S)) := by rw [u2_ne (by decide), u2_at]
    have q13 : u2 (u2 mi1 0 14 (nI (sF (cR s num S)))) 0 15 vP 0 13 = nI (cTl s) := by rw [u2_ne (by decide), u2_ne (by decide), ho1 0 (by omega)]; exact t1
    have q15 : u2 (u2 mi1 0 14 (nI (sF (cR s num S)))) 0 15 vP 0 15 = vP := u2_at
    have qo : ∀ o, o ≠ 0 → u2 (u2 mi1 0 14 (nI (sF (cR s num S)))) 0 15 vP o = mi1 o := fun o h => by rw [u2_off h, u2_off h]
    rw [q14, q13]
    generalize u2 (u2 mi1 0 14 (nI (sF (cR s num S)))) 0 15 vP = mi2 at q14 q13 q15 qo ⊢
    obtain ⟨⟨g0, num1, S1, c1, c2⟩, c3, c4, c5, c6, c7⟩ := hC1
    obtain ⟨d1, d2, d3, d4, d5, d6, d7, d8, d9⟩ := c7
    rw [s_eq (by omega) (by omega)]
    refine ⟨fun z2 => ?_, fun z2 => ?_⟩
    · rw [if_neg z2] at hK hvP
      refine hK _ ⟨⟨g0, num1, S1, c1.off (fun o o1 o2 => by rw [u2_off (by omega), qo o (by omega)]), c2.off (fun o o1 o2 => by rw [u2_off (by omega), qo o (by omega)])⟩, c3.off (fun o o1 o2 => by rw [u2_off (by omega), qo o (by omega)]), c4.off (fun o o1 o2 => by rw [u2_off (by omega), qo o (by omega)]), c5, c6, u2_at, Nat.zero_le _, by rw [u2_ne (by decide)]; exact q14, by rw [u2_ne (by decide), q15, ← hvP], ?_, d6, fun j hj => ?_, d8, fun o o1 => (by rw [u2_off (by omega), qo o (by omega)] : _ = mi1 o).trans (d9 o o1)⟩
      · intro i hi
        rw [u2_off (by omega), qo 152 (by omega)]
        exact d5 i hi
      · rw [u2_off (by omega), u2_off (by omega), qo 151 (by omega), qo (147 + j) (by omega)]
        exact d7 j hj
    · rw [if_pos z2] at hK hvP
      obtain ⟨r1, r2⟩ := tx_row z
      have e0 : ix (nI 0) = 0 := s_ix (by omega)
      have en1 : ¬ nI 0 < 0 := nI_pos (by omega)
      have en2 : ¬ nI (cTl s) < 0 := nI_pos (by omega)
      rw [s_ix (show cTl s < 2 ^ 31 by omega), tx_tape.1.2, r2]
      refine ⟨z, ⟨tx_tape.1.1.1.1, r1.1⟩, ⟨en1, en1, en2, by omega, by omega⟩, z, ?_⟩
      have w13 : ur mi2 (147 + atx (cN s)) (va_cpy (mi2 152) (mi2 (147 + atx (cN s))) 0 0 (cTl s)) 0 13 = nI (cTl s) := by
        rw [ur_off (show 0 ≠ 147 + atx (cN s) by omega)]
        exact q13
      rw [w13]
      have wo : ∀ o, o ≠ 151 → o ≠ 147 + atx (cN s) → u2 (ur mi2 (147 + atx (cN s)) (va_cpy (mi2 152) (mi2 (147 + atx (cN s))) 0 0 (cTl s))) 151 (atx (cN s)) (nI (cTl s)) o = mi2 o := fun o a b => by rw [u2_off a, ur_off b]
      have wx : ∀ i, i < 300 → u2 (ur mi2 (147 + atx (cN s)) (va_cpy (mi2 152) (mi2 (147 + atx (cN s))) 0 0 (cTl s))) 151 (atx (cN s)) (nI (cTl s)) (147 + atx (cN s)) i = nI (if i < cTl s then cTb s i else cXb s (atx (cN s)) i) := by
        intro i hi
        rw [u2_off (show 147 + atx (cN s) ≠ 151 by omega), ur_on]
        by_cases z3 : i < cTl s
        · rw [pk_cpy_in (Nat.zero_le _) (by omega), if_pos z3, Nat.sub_zero, Nat.zero_add, qo 152 (by omega)]
          exact d5 i hi
        · rw [pk_cpy_out (Or.inr (by omega)), if_neg z3, qo _ (by omega)]
          exact (d7 _ z).2.2 i hi
      have wl : ∀ j, j < 4 → u2 (ur mi2 (147 + atx (cN s)) (va_cpy (mi2 152) (mi2 (147 + atx (cN s))) 0 0 (cTl s))) 151 (atx (cN s)) (nI (cTl s)) 151 j = nI (if j = atx (cN s) then cTl s else cXl s j) := by
        intro j hj
        by_cases z3 : j = atx (cN s)
        · rw [z3, u2_at, if_pos rfl]
        · rw [u2_ne z3, ur_off (by omega), if_neg z3, qo 151 (by omega)]
          exact (d7 j hj).1
      generalize u2 (ur mi2 (147 + atx (cN s)) (va_cpy (mi2 152) (mi2 (147 + atx (cN s))) 0 0 (cTl s))) 151 (atx (cN s)) (nI (cTl s)) = mi3 at wo wx wl ⊢
      apply e_X6_addText
      have m96 : mi3 96 2 = nI (atx (cN s)) := by rw [wo 96 (by omega) (by omega), qo 96 (by omega)]; exact c3.2.2.1
      rw [m96, nI_add]
      have fo : ∀ o, o ≠ 0 → o ≠ 96 → o ≠ 151 → o ≠ 147 + atx (cN s) → u2 (u2 mi3 96 2 (nI (atx (cN s) + 1))) 0 13 (nI 0) o = mi1 o := fun o a b c d => by rw [u2_off a, u2_off b, wo o c d, qo o a]
      have f96 : ∀ k, k ≠ 2 → u2 (u2 mi3 96 2 (nI (atx (cN s) + 1))) 0 13 (nI 0) 96 k = mi1 96 k := fun k hk => by rw [u2_off (by omega), u2_ne hk, wo 96 (by omega) (by omega), qo 96 (by omega)]
      have f0 : ∀ k, k ≠ 13 → u2 (u2 mi3 96 2 (nI (atx (cN s) + 1))) 0 13 (nI 0) 0 k = mi2 0 k := fun k hk => by rw [u2_ne hk, u2_off (by omega), wo 0 (by omega) (by omega)]
      obtain ⟨n0, n1, n2, n3, n4, n5, n6, n7, n8⟩ := c3
      refine hK _ ⟨⟨g0, num1, S1, c1.off (fun o o1 o2 => fo o (by omega) (by omega) (by omega) (by omega)), c2.off (fun o o1 o2 => fo o (by omega) (by omega) (by omega) (by omega))⟩, ⟨by rw [f96 0 (by omega)]; exact n0, by rw [f96 1 (by omega)]; exact n1, by rw [u2_off (by omega), u2_at]; rfl, by rw [f96 3 (by omega)]; exact n3, by rw [f96 4 (by omega)]; exact n4, fun i hi => ⟨(n5 i hi).1.off (fo _ (by omega) (by omega) (by omega) (by omega)), (n5 i hi).2.off (fo _ (by omega) (by omega) (by omega) (by omega))⟩, by rw [fo (96 + 23) (by omega) (by omega) (by omega) (by omega)]; exact n6, by rw [fo (96 + 23) (by omega) (by omega) (by omega) (by omega)]; exact n7, fun i hi => by rw [fo (96 + 24) (by omega) (by omega) (by omega) (by omega)]; exact n8 i hi⟩,
        c4.off (fun o o1 o2 => fo o (by omega) (by omega) (by omega) (by omega)), ⟨c5.1, by show atx (cN s) + 1 ≤ 4; omega, c5.2.2⟩, c6, u2_at, Nat.zero_le _, by rw [f0 14 (by omega), q14, z2], by rw [f0 15 (by omega), q15, ← hvP], ?_, d6, fun j hj => ?_, fun j i => ?_, fun o o1 => (fo o (by omega) (by omega) (by omega) (by omega)).trans (d9 o o1)⟩
      · intro i hi
        rw [fo 152 (by omega) (by omega) (by omega) (by omega)]
        exact d5 i hi
      · refine ⟨?_, ?_, fun i hi => ?_⟩
        · rw [u2_off (by omega), u2_off (by omega)]
          exact wl j hj
        · show (if j = atx (cN s) then cTl s else cXl s j) ≤ 300
          split
          · exact t2
          · exact (d7 j hj).2.1
        · rw [u2_off (by omega), u2_off (by omega)]
          show mi3 (147 + j) i = nI (upR (cXb s) (atx (cN s)) _ j i)
          by_cases z3 : j = atx (cN s)
          · rw [z3, upR_eq]
            exact wx i hi
          · rw [upR_ne z3, wo _ (by omega) (by omega), qo _ (by omega)]
            exact (d7 j hj).2.2 i hi
      · show upR (cXb s) (atx (cN s)) _ j i < 256
        by_cases z3 : j = atx (cN s)
        · rw [z3, upR_eq]
          show (if i < cTl s then cTb s i else cXb s (atx (cN s)) i) < 256
          split
          · exact t6 i
          · exact t8 _ i
        · rw [upR_ne z3]
          exact t8 j i
  · rw [if_pos (by omega)] at hK
    exact hK mi h
theorem RE.keep {q m d n g c len nC : Nat} {tx : Nat → Nat} {w : Bool} {r : PS} {mi1 : Nat → Nat → Int32} (h : RE q m d n g c len tx w nC r mi) (hc : 120 < c) (ho : ∀ o, (o < 96 ∨ 120 < o) → mi1 o = mi o) : RE q m d n g c len tx w nC r mi1 := by
  have e1 := h.2.2.rows (mi1 := mi1) (S := sS r) (ho 73 (by omega)) (fun i hi => (h.row hi).off (ho _ (by omega)))
  exact ⟨h.1.off (fun o o1 o2 => ho o (by omega)), h.2.1.off (ho c (by omega)), e1⟩
theorem p_told_loop (he : 32 ≤ e) {q m d n g c len : Nat} {tx : Nat → Nat} (hc : 120 < c) {K : Int32 → (Nat → Nat → Int32) → (Nat → Nat → Int64) → Prop} {R : Int32 × Cst} (hK : ∀ mi1, CI mo R.2 mi1 → K R.1 mi1 ml) :
    ∀ (f k : Nat) (r : PS) (nC : Nat) (s : Cst) (mi : Nat → Nat → Int32), f + k = 20 → nC ≤ 20 → n = nO (cN s) → CI mo s mi → RE q m d n g c len tx true nC r mi → tol q m d n tx len f k r nC s = some R →
      wp G e tX m_X9_told 45 [(0, .ref 0), (2, .int (nI k))] [] (mi, ml, RX y) (QI K) := by
  intro f
  induction f with
  | zero =>
    intro k r nC s mi hf hn hnn h hr hR
    have e1 := Option.some.inj hR
    subst e1
    apply b_X9_told_45
    simp (disch := omega) only [s_le, s_lt, s_eq, s_eq0, s_in, s_ix, s_rm, s_div, s_pdlt, s_pdle, s_lepd, s_pdpd, s_pdlepd, s_pdadd, nI_add, pk_mul, pd_succ, Nat.not_lt_zero, Nat.zero_lt_succ, not_false_eq_true, not_true_eq_false, false_implies, true_implies, implies_true, and_true, true_and, Nat.reduceLT, Nat.reduceLeDiff, Nat.reduceAdd, Nat.reduceSub, Nat.zero_add, Nat.add_zero]
    exact ⟨fun _ => hK mi h, fun z => absurd (show 20 ≤ k by omega) z⟩
  | succ f ih =>
    intro k r nC s mi hf hn hnn h hr hR
    have hw := hr.1.w
    unfold tol at hR
    apply b_X9_told_45
    simp (disch := omega) only [s_le, s_lt, s_eq, s_eq0, s_in, s_ix, s_rm, s_div, s_pdlt, s_pdle, s_lepd, s_pdpd, s_pdlepd, s_pdadd, nI_add, pk_mul, pd_succ, Nat.not_lt_zero, Nat.zero_lt_succ, not_false_eq_true, not_true_eq_false, false_implies, true_implies, implies_true, and_true, true_and, Nat.reduceLT, Nat.reduceLeDiff, Nat.reduceAdd, Nat.reduceSub, Nat.zero_add, Nat.add_zero]
    refine ⟨fun z => absurd z (by omega), fun _ => p_readClause he hr hn (fun mi1 ho1 h1 => ?_)⟩
    have hC1 := h.rd (A1 := s) ho1 h1
    have hv := pCl_V (w := true) (tx := tx) (len := len) (nC := nC) (s := r) hw
    have hnC : (pCl true q m d n tx len r nC).2.2 ≤ 20 := by
      unfold pCl
      split
      · exact hn
      split
      · exact hn
      split
      · exact hn
      next a b c3 =>
      split
      · show nC + 1 ≤ 20
        omega
      · show nC + 1 ≤ 20
        omega
    have hk3 : (pCl true q m d n tx len r nC).1 ≤ 3 := by
      unfold pCl
      split
      · show 0 ≤ 3; omega
      split
      · exact Nat.le_refl 3
      split
      · exact Nat.le_refl 3
      split
      · show (if _ then kd tx (sL r) else 3) ≤ 3
        split
        · rcases (kI_kd (tx := tx) (L := sL r)).2 with z | z | z <;> omega
        · exact Nat.le_refl 3
      · exact Nat.le_refl 3
    generalize pCl true q m d n tx len r nC = P at h1 hR hv hnC hk3
    have h6 : mi1 73 6 = nI (bi (sK P.2.1)) := h1.2.2.2.2.2.1
    by_cases c0 : P.1 = 0
    · rw [if_pos c0] at hR
      have e1 := Option.some.inj hR
      subst e1
      have ek : kI P.1 = nI 0 := by rw [c0]; rfl
      rw [ek]
      exact ⟨fun z => absurd rfl z, fun _ => hK mi1 hC1⟩
    rw [if_neg c0] at hR
    by_cases c3 : P.1 = 3
    · rw [if_pos c3] at hR
      cases hR
    rw [if_neg c3] at hR
    have ek : kI P.1 = nI P.1 := if_neg c3
    have hBs : isB (nI (bi (sK P.2.1))) := by cases sK P.2.1; exact Or.inl rfl; exact Or.inr rfl
    rw [ek]
    have hst : ∀ (KK : Prop), True := fun _ => trivial
    by_cases c2 : P.1 = 2
    · rw [c2]
      refine ⟨fun _ => ⟨fun z => absurd rfl z, fun _ => ?_⟩, fun z => absurd z (by decide)⟩
      apply e_X4_cannot
      rw [h6]
      refine ⟨hBs, fun z => ?_, fun z => ?_⟩
      · rw [if_pos ((bi_ne _).mp z)] at hR
        have e1 := Option.some.inj hR
        subst e1
        exact hK mi1 hC1
      · have hs0 : ¬ sK P.2.1 = true := fun z2 => absurd z ((bi_ne _).mpr z2)
        rw [if_neg hs0, if_pos c2] at hR
        apply e_X4_result
        simp (disch := omega) only [s_le, s_lt, s_eq, s_eq0, s_in, s_ix, s_rm, s_div, s_pdlt, s_pdle, s_lepd, s_pdpd, s_pdlepd, s_pdadd, nI_add, pk_mul, pd_succ, Nat.not_lt_zero, Nat.zero_lt_succ, not_false_eq_true, not_true_eq_false, false_implies, true_implies, implies_true, and_true, true_and, Nat.reduceLT, Nat.reduceLeDiff, Nat.reduceAdd, Nat.reduceSub, Nat.zero_add, Nat.add_zero]
        obtain ⟨a1, a2⟩ := rd_row (show 0 < 20 by omega)
        have hvd : Vd n P.2.1 0 := hv (Or.inr c2) (by
          unfold wk
          cases hq : sK P.2.1
          · rfl
          · exact absurd hq hs0)
        have hrow := h1.rown (show 0 < 20 by omega) hvd
        rw [hnn] at hrow
        refine q_tellP hC1 a1 a2 (by omega) hrow (fun mi2 ho2 h2 => ?_)
        by_cases c4 : (tellP s (sS P.2.1 0)).1 = NONE
        · rw [if_pos c4] at hR
          have e1 := Option.some.inj hR
          subst e1
          have e2 : (tellP s (sS P.2.1 0)).2 = s := by
            unfold tellP at c4 ⊢
            split at c4
            · exact absurd c4 (nI_neg1 (by have := h.ten; omega))
            · next z9 => rw [if_neg z9]
          rw [e2] at h2
          exact ⟨fun z9 => absurd c4 z9, fun _ => hK mi2 h2⟩
        · rw [if_neg c4] at hR
          refine ⟨fun _ => ih (k + 1) _ _ _ mi2 (by omega) hnC ?_ h2 (h1.keep hc ho2) hR, fun z9 => absurd z9 c4⟩
          rw [hnn]
          unfold tellP
          split <;> rfl
    · have c1 : P.1 = 1 := by omega
      rw [c1]
      refine ⟨fun _ => ⟨fun _ => ?_, fun z => absurd z (by decide)⟩, fun z => absurd z (by decide)⟩
      apply e_X4_cannot
      rw [h6]
      refine ⟨hBs, fun z => ?_, fun z => ?_⟩
      · rw [if_pos ((bi_ne _).mp z)] at hR
        have e1 := Option.some.inj hR
        subst e1
        exact hK mi1 hC1
      · have hs0 : ¬ sK P.2.1 = true := fun z2 => absurd z ((bi_ne _).mpr z2)
        rw [if_neg hs0, if_neg c2] at hR
        apply e_X4_result
        simp (disch := omega) only [s_le, s_lt, s_eq, s_eq0, s_in, s_ix, s_rm, s_div, s_pdlt, s_pdle, s_lepd, s_pdpd, s_pdlepd, s_pdadd, nI_add, pk_mul, pd_succ, Nat.not_lt_zero, Nat.zero_lt_succ, not_false_eq_true, not_true_eq_false, false_implies, true_implies, implies_true, and_true, true_and, Nat.reduceLT, Nat.reduceLeDiff, Nat.reduceAdd, Nat.reduceSub, Nat.zero_add, Nat.add_zero]
        obtain ⟨a1, a2⟩ := rd_row (show 0 < 20 by omega)
        have hvd : Vd n P.2.1 0 := hv (Or.inl c1) (by
          unfold wk
          cases hq : sK P.2.1
          · rfl
          · exact absurd hq hs0)
        have hrow := h1.rown (show 0 < 20 by omega) hvd
        rw [hnn] at hrow
        refine q_tellM hC1 a1 a2 (by omega) hrow (fun mi2 ho2 h2 => ?_)
        by_cases c4 : (tellM s (sS P.2.1 0)).1 = NONE
        · rw [if_pos c4] at hR
          have e1 := Option.some.inj hR
          subst e1
          have e2 : (tellM s (sS P.2.1 0)).2 = s := by
            unfold tellM at c4 ⊢
            split at c4
            · exact absurd c4 (nI_neg1 (by have := h.ten; omega))
            · next z9 => rw [if_neg z9]
          rw [e2] at h2
          exact ⟨fun z9 => absurd c4 z9, fun _ => hK mi2 h2⟩
        · rw [if_neg c4] at hR
          refine ⟨fun _ => ih (k + 1) _ _ _ mi2 (by omega) hnC ?_ h2 (h1.keep hc ho2) hR, fun z9 => absurd z9 c4⟩
          rw [hnn]
          unfold tellM
          split <;> rfl
theorem p_told (he : 32 ≤ e) (h : CI mo s mi) {v : Int32} {K : Int32 → (Nat → Nat → Int32) → (Nat → Nat → Int64) → Prop} (hOK : ∀ num S, num ≤ 10000 → ∃ R, fTold s v num S = some R ∧ ∀ mi1, CI mo R.2 mi1 → K R.1 mi1 ml) : wpI G e 154 m_X9_told [.ref 0, .int v] (mi, ml, RX y) K := by
  obtain ⟨⟨g, num, S, hE, hR⟩, hN, hKp, hSN, hSK, hT⟩ := id h
  obtain ⟨t1, t2, t3, t4, t5, t6, t7, t8, t9⟩ := id hT
  have hx4 : atx (cN s) ≤ 4 := hSN.2.1
  obtain ⟨R, hRR, hK⟩ := hOK num S hR.2.2.1
  unfold fTold at hRR
  apply e_X9_told
  have hN2 : mi 96 2 = nI (atx (cN s)) := hN.2.2.1
  by_cases z : v < 0
  · rw [asN_neg z] at hRR
    have e1 := Option.some.inj hRR
    subst e1
    exact ⟨fun _ => hK mi h, fun z2 => absurd z (by rw [nI_0] at z2; exact z2)⟩
  · obtain ⟨j, hj, rfl⟩ := nI_of z
    rw [asN_nI hj] at hRR
    refine ⟨fun z2 => absurd z2 (by rw [nI_0]; exact z), fun _ => ?_⟩
    apply e_X6_texts
    rw [hN2]
    simp (disch := omega) only [s_le, s_lt, s_eq, s_eq0, s_in, s_ix, s_rm, s_div, s_pdlt, s_pdle, s_lepd, s_pdpd, s_pdlepd, s_pdadd, nI_add, pk_mul, pd_succ, Nat.not_lt_zero, Nat.zero_lt_succ, not_false_eq_true, not_true_eq_false, false_implies, true_implies, implies_true, and_true, true_and, Nat.reduceLT, Nat.reduceLeDiff, Nat.reduceAdd, Nat.reduceSub, Nat.zero_add, Nat.add_zero]
    refine ⟨fun z2 => ?_, fun z2 => ⟨fun z3 => ?_, fun z3 => absurd (show j < 4 by omega) z3⟩⟩
    · rw [if_neg (by omega)] at hRR
      have e1 := Option.some.inj hRR
      subst e1
      exact hK mi h
    · rw [if_pos (by omega)] at hRR
      replace hRR : tol (aq (cN s)) (am (cN s)) (dO (cN s)) (nO (cN s)) (cXb s j) (cXl s j) 20 0 (st0 (cXb s j) (cXl s j) num S) 0 s = some R := hRR
      obtain ⟨r1, r2⟩ := tx_row z3
      obtain ⟨x1, x2, x3⟩ := t7 j z3
      have hTx : Tx (147 + j) (cXl s j) (cXb s j) mi := ⟨r1, r2, by omega, x2, t8 j, fun i hi => x3 i (by omega)⟩
      rw [x1]
      refine ⟨by omega, by omega, ?_⟩
      refine p_startR (w := true) hE hTx hR (fun mi1 ho1 h1 => ?_)
      exact p_told_loop he (by omega) hK 20 0 _ 0 s mi1 rfl (by omega) rfl (h.rd (A1 := s) ho1 h1) h1 hRR
end FC6
