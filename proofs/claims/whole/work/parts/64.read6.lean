/-! class Reader: readOne, readClause, start, check -/
def kd (tx : Nat → Nat) (L : Lx) : Nat := if isw tx L wMod = true then 1 else if isw tx L wMap = true then 2 else 3
/-- (0 none, 1 module, 2 map, 3 a fault; then how many clauses) -/
def pCl (w : Bool) (q m d n : Nat) (tx : Nat → Nat) (len : Nat) (s : PS) (nC : Nat) : Nat × PS × Nat :=
  if (sL s).1 = 0 then (0, s, nC) else if kd tx (sL s) = 3 then (3, failS s 1, nC) else if 20 ≤ nC then (3, failS s 4, nC) else
    (if (pSum w q m d tx len (pOne w q m d n tx len 8) 0 (stepS tx len (sL s, false, sS s, sF s, sA s))).1 = true then
      (if (pExp tx len 59 (pSum w q m d tx len (pOne w q m d n tx len 8) 0 (stepS tx len (sL s, false, sS s, sF s, sA s))).2).1 = true then kd tx (sL s) else 3,
        (pExp tx len 59 (pSum w q m d tx len (pOne w q m d n tx len 8) 0 (stepS tx len (sL s, false, sS s, sF s, sA s))).2).2, nC + 1)
     else (3, (pSum w q m d tx len (pOne w q m d n tx len 8) 0 (stepS tx len (sL s, false, sS s, sF s, sA s))).2, nC + 1))
def kI (k : Nat) : Int32 := if k = 3 then -(nI 1) else nI k
def pCk (q m d n : Nat) (tx : Nat → Nat) (len : Nat) : Nat → PS → Nat → PS
  | 0, s, _ => s
  | f + 1, s, nC => if (pCl false q m d n tx len s nC).1 = 1 ∨ (pCl false q m d n tx len s nC).1 = 2 then pCk q m d n tx len f (pCl false q m d n tx len s nC).2.1 (pCl false q m d n tx len s nC).2.2 else (pCl false q m d n tx len s nC).2.1
def st0 (tx : Nat → Nat) (len num : Nat) (S : Nat → Nat → Nat) : PS := (stp tx len (0, 0, num, 0), false, S, 0, 0)
/-- the reader at rest -/
def Rdi (num : Nat) (S : Nat → Nat → Nat) (mi : Nat → Nat → Int32) : Prop := (∃ tok pl, mi 73 8 = nI tok ∧ mi 73 9 = nI pl) ∧ mi 73 10 = nI num ∧ num ≤ 10000 ∧ ∀ i, i < 20 → Rw 128 mi (75 + i) (S i)
section RD6
variable {G : GC} {q m d n g c len nC : Nat} {tx : Nat → Nat} {w : Bool} {ml : Nat → Nat → Int64} {y : Nat → Nat → Option Nat}
theorem RE.rest {mi : Nat → Nat → Int32} {s : PS} (h : RE q m d n g c len tx w nC s mi) : Rdi (sL s).2.2.1 (sS s) mi := ⟨⟨_, _, h.2.2.1.2.2.2.1, h.2.2.1.2.2.2.2.1⟩, h.2.2.1.2.2.2.2.2, h.2.2.2.1.2.2.1, fun i hi => h.row hi⟩
theorem isw_not {L : Lx} {ws : List Nat} (h : L.1 ≠ 3) : ¬ isw tx L ws = true := by
  unfold isw
  rw [decide_eq_false (fun a => h a.1), Bool.false_and]
  exact Bool.false_ne_true
theorem p_readOne : ∀ (k e : Nat), 4 * k ≤ e → k ≤ 8 → OkOne G e q m d n g c len nC tx w ml y (8 - k) (pOne w q m d n tx len k) := by
  intro k
  induction k with
  | zero =>
    intro e he hk t s mi K ht h hK
    unfold pOne at hK
    obtain ⟨t1, t2⟩ := h.tok
    by_cases c0 : (sL s).1 = 40 ∨ (sL s).1 = 45
    · rw [if_pos c0] at hK
      apply e_X4_readOne
      rw [t1]
      simp (disch := omega) only [s_le, s_lt, s_eq, s_eq0, s_in, s_ix, s_rm, s_div, s_pdlt, s_pdle, s_lepd, s_pdpd, s_pdlepd, s_pdadd, nI_add, pk_mul, pd_succ, Nat.not_lt_zero, Nat.zero_lt_succ, not_false_eq_true, not_true_eq_false, false_implies, true_implies, implies_true, and_true, true_and, Nat.reduceLT, Nat.reduceLeDiff, Nat.reduceAdd, Nat.reduceSub, Nat.zero_add, Nat.add_zero, Nat.one_ne_zero]
      refine ⟨fun _ => p_isWord h wT_ok ?_, fun z => absurd c0 (by omega)⟩
      rw [if_neg (isw_not (by omega))]
      refine ⟨fun _ => ?_, fun z2 => absurd rfl z2⟩
      rw [t1]
      simp (disch := omega) only [s_le, s_lt, s_eq, s_eq0, s_in, s_ix, s_rm, s_div, s_pdlt, s_pdle, s_lepd, s_pdpd, s_pdlepd, s_pdadd, nI_add, pk_mul, pd_succ, Nat.not_lt_zero, Nat.zero_lt_succ, not_false_eq_true, not_true_eq_false, false_implies, true_implies, implies_true, and_true, true_and, Nat.reduceLT, Nat.reduceLeDiff, Nat.reduceAdd, Nat.reduceSub, Nat.zero_add, Nat.add_zero, Nat.one_ne_zero]
      have hf : wpI G e 154 m_X4_fail [.ref 73, .int (nI 3)] (mi, ml, (RX y)) (fun r32 mi30 ml31 => (isB r32 ∧ K r32 mi30 ml31)) := p_fail h (by decide) (fun mi1 ho1 h1 => ⟨Or.inl rfl, hK mi1 ho1 h1⟩)
      exact ⟨fun _ => hf, fun _ => ⟨fun _ => hf, fun z => absurd c0 (by omega)⟩⟩
    · rw [if_neg c0] at hK
      exact p_leaf (by omega) ht h (fun z => c0 (Or.inl z)) (fun z => c0 (Or.inr z)) hK
  | succ k ih =>
    intro e he hk t s mi K ht h hK
    have hw := h.1.w
    have ih4 := ih (e - 4) (by omega) (by omega)
    have hov : OV w n (pOne w q m d n tx len k) := pOne_OV hw k
    have hD : 8 - (k + 1) + 1 = 8 - k := by omega
    have hD8 : 8 - (k + 1) < 8 := by omega
    unfold pOne at hK
    obtain ⟨t1, t2⟩ := h.tok
    by_cases c0 : (sL s).1 = 40 ∨ (sL s).1 = 45
    · apply e_X4_readOne
      rw [t1]
      simp (disch := omega) only [s_le, s_lt, s_eq, s_eq0, s_in, s_ix, s_rm, s_div, s_pdlt, s_pdle, s_lepd, s_pdpd, s_pdlepd, s_pdadd, nI_add, pk_mul, pd_succ, Nat.not_lt_zero, Nat.zero_lt_succ, not_false_eq_true, not_true_eq_false, false_implies, true_implies, implies_true, and_true, true_and, Nat.reduceLT, Nat.reduceLeDiff, Nat.reduceAdd, Nat.reduceSub, Nat.zero_add, Nat.add_zero, Nat.one_ne_zero]
      refine ⟨fun _ => p_isWord h wT_ok ?_, fun z => absurd c0 (by omega)⟩
      rw [if_neg (isw_not (by omega))]
      refine ⟨fun _ => ?_, fun z2 => absurd rfl z2⟩
      rw [t1]
      simp (disch := omega) only [s_le, s_lt, s_eq, s_eq0, s_in, s_ix, s_rm, s_div, s_pdlt, s_pdle, s_lepd, s_pdpd, s_pdlepd, s_pdadd, nI_add, pk_mul, pd_succ, Nat.not_lt_zero, Nat.zero_lt_succ, not_false_eq_true, not_true_eq_false, false_implies, true_implies, implies_true, and_true, true_and, Nat.reduceLT, Nat.reduceLeDiff, Nat.reduceAdd, Nat.reduceSub, Nat.zero_add, Nat.add_zero, Nat.one_ne_zero]
      rw [hD]
      rcases c0 with c0 | c0
      · rw [if_pos c0] at hK
        refine ⟨fun _ => ⟨fun _ => ⟨fun _ => ?_, fun z => absurd z (by omega)⟩, fun z => absurd (show 8 - (k + 1) < 8 by omega) z⟩, fun z => absurd c0 z⟩
        refine p_stepR h (fun mi1 ho1 h1 => ⟨by omega, ?_⟩)
        refine p_readSum (by omega) ih4 hov (by omega) h1 (fun mi2 ho2 h2 => ?_)
        by_cases c2 : (pSum w q m d tx len (pOne w q m d n tx len k) t (stepS tx len s)).1 = true
        · rw [if_pos c2] at hK
          rw [c2]
          generalize (pSum w q m d tx len (pOne w q m d n tx len k) t (stepS tx len s)).2 = S2 at hK h2
          unfold pExp at hK
          refine ⟨fun z => absurd z (by decide), fun _ => p_expect h2 (by omega) (fun z mi3 ho3 h3 => ?_) (fun z mi3 ho3 h3 => ?_)⟩
          · rw [if_pos z] at hK
            exact ⟨fun z2 => absurd z2 (by decide), fun _ => ⟨Or.inr rfl, hK mi3 ((ho1.trans ho2).trans ho3) h3⟩⟩
          · rw [if_neg z] at hK
            exact ⟨fun _ => ⟨Or.inl rfl, hK mi3 ((ho1.trans ho2).trans ho3) h3⟩, fun z2 => absurd rfl z2⟩
        · rw [if_neg c2] at hK
          rw [show bi (pSum w q m d tx len (pOne w q m d n tx len k) t (stepS tx len s)).1 = 0 from if_neg c2]
          exact ⟨fun _ => ⟨Or.inl rfl, hK mi2 (ho1.trans ho2) h2⟩, fun z => absurd rfl z⟩
      · rw [if_neg (by omega), if_pos c0] at hK
        refine ⟨fun z => absurd z (by omega), fun _ => ⟨fun _ => ⟨fun _ => ⟨fun z => absurd c0 z, fun _ => ?_⟩, fun z => absurd (show 8 - (k + 1) < 8 by omega) z⟩, fun z => absurd c0 z⟩⟩
        refine p_stepR h (fun mi1 ho1 h1 => ⟨by omega, ?_⟩)
        refine ih4 t _ mi1 _ (by omega) h1 (fun mi2 ho2 h2 => ?_)
        by_cases c2 : (pOne w q m d n tx len k t (stepS tx len s)).1 = true
        · rw [if_pos c2] at hK
          rw [c2]
          have hvr := hov t (stepS tx len s) c2
          generalize (pOne w q m d n tx len k t (stepS tx len s)).2 = S2 at hK h2 hvr
          refine ⟨fun _ => p_turnOver h2 (by omega) (fun z => (hvr.1 z).1) (fun mi3 ho3 h3 => ⟨Or.inr rfl, hK mi3 ((ho1.trans ho2).trans ho3) h3⟩), fun z => absurd z (by decide)⟩
        · rw [if_neg c2] at hK
          rw [show bi (pOne w q m d n tx len k t (stepS tx len s)).1 = 0 from if_neg c2]
          exact ⟨fun z => absurd rfl z, fun _ => ⟨Or.inl rfl, hK mi2 (ho1.trans ho2) h2⟩⟩
    · rw [if_neg (fun z => c0 (Or.inl z)), if_neg (fun z => c0 (Or.inr z))] at hK
      exact p_leaf (by omega) ht h (fun z => c0 (Or.inl z)) (fun z => c0 (Or.inr z)) hK
theorem kI_kd {L : Lx} : (if isw tx L wMod = true then nI 1 else if isw tx L wMap = true then nI 2 else -(nI 1)) = kI (kd tx L) ∧ (kd tx L = 1 ∨ kd tx L = 2 ∨ kd tx L = 3) := by
  unfold kd
  by_cases c1 : isw tx L wMod = true
  · rw [if_pos c1, if_pos c1]
    exact ⟨rfl, Or.inl rfl⟩
  · rw [if_neg c1, if_neg c1]
    by_cases c2 : isw tx L wMap = true
    · rw [if_pos c2, if_pos c2]
      exact ⟨rfl, Or.inr (Or.inl rfl)⟩
    · rw [if_neg c2, if_neg c2]
      exact ⟨rfl, Or.inr (Or.inr rfl)⟩
theorem p_readClause {e : Nat} (he : 32 ≤ e) {s : PS} {mi : Nat → Nat → Int32} (h : RE q m d n g c len tx w nC s mi) (hn20 : nC ≤ 20) {K : Int32 → (Nat → Nat → Int32) → (Nat → Nat → Int64) → Prop}
    (hK : ∀ mi1, offR mi mi1 → RE q m d n g c len tx w (pCl w q m d n tx len s nC).2.2 (pCl w q m d n tx len s nC).2.1 mi1 → K (kI (pCl w q m d n tx len s nC).1) mi1 ml) : wpI G e 154 m_X4_readClause [.ref 73] (mi, ml, RX y) K := by
  have h11 : mi 73 11 = nI nC := h.2.2.2.2.2.2.1
  unfold pCl at hK
  obtain ⟨t1, t2⟩ := h.tok
  apply e_X4_readClause
  rw [t1]
  simp (disch := omega) only [s_le, s_lt, s_eq, s_eq0, s_in, s_ix, s_rm, s_div, s_pdlt, s_pdle, s_lepd, s_pdpd, s_pdlepd, s_pdadd, nI_add, pk_mul, pd_succ, Nat.not_lt_zero, Nat.zero_lt_succ, not_false_eq_true, not_true_eq_false, false_implies, true_implies, implies_true, and_true, true_and, Nat.reduceLT, Nat.reduceLeDiff, Nat.reduceAdd, Nat.reduceSub, Nat.zero_add, Nat.add_zero]
  refine ⟨fun z => ?_, fun z => ?_⟩
  · rw [if_neg z] at hK
    refine p_clauseKind h ?_
    obtain ⟨k1, k2⟩ := kI_kd (tx := tx) (L := sL s)
    rw [k1]
    by_cases c1 : kd tx (sL s) = 3
    · rw [if_pos c1] at hK
      rw [c1]
      exact ⟨fun z2 => absurd rfl z2, fun _ => p_fail h (by decide) (fun mi1 ho1 h1 => hK mi1 ho1 h1)⟩
    · rw [if_neg c1] at hK
      have k3 : ¬ kI (kd tx (sL s)) = -(nI 1) := by
        rcases k2 with k2 | k2 | k2
        · rw [k2]; decide
        · rw [k2]; decide
        · exact absurd k2 c1
      refine ⟨fun _ => ?_, fun z2 => absurd z2 k3⟩
      rw [h11, nI_add]
      simp (disch := omega) only [s_le, s_lt, s_eq, s_eq0, s_in, s_ix, s_rm, s_div, s_pdlt, s_pdle, s_lepd, s_pdpd, s_pdlepd, s_pdadd, nI_add, pk_mul, pd_succ, Nat.not_lt_zero, Nat.zero_lt_succ, not_false_eq_true, not_true_eq_false, false_implies, true_implies, implies_true, and_true, true_and, Nat.reduceLT, Nat.reduceLeDiff, Nat.reduceAdd, Nat.reduceSub, Nat.zero_add, Nat.add_zero]
      refine ⟨fun c2 => ⟨Or.inl rfl, ?_⟩, fun c2 => ?_⟩
      · rw [if_neg (by omega)] at hK
        have h0 : RE q m d n g c len tx w (nC + 1) (sL s, false, sS s, sF s, sA s) (u2 (u2 mi 73 11 (nI (nC + 1))) 73 6 (nI 0)) := by
          obtain ⟨⟨r3, r4, r7, r8, r9, r10⟩, l1, h5, h6, g11, h12, h13, hr⟩ := h.2.2
          have go : ∀ k, k ≠ 6 → k ≠ 11 → u2 (u2 mi 73 11 (nI (nC + 1))) 73 6 (nI 0) 73 k = mi 73 k := fun k a b => by rw [u2_ne a, u2_ne b]
          exact h.off (fun o oo => by rw [u2_off (by omega), u2_off (by omega)]) ⟨⟨by rw [go 3 (by omega) (by omega)]; exact r3, by rw [go 4 (by omega) (by omega)]; exact r4, by rw [go 7 (by omega) (by omega)]; exact r7, by rw [go 8 (by omega) (by omega)]; exact r8, by rw [go 9 (by omega) (by omega)]; exact r9, by rw [go 10 (by omega) (by omega)]; exact r10⟩, l1, by rw [go 5 (by omega) (by omega)]; exact h5, u2_at, by rw [u2_ne (by decide), u2_at], by rw [go 12 (by omega) (by omega)]; exact h12, by rw [go 13 (by omega) (by omega)]; exact h13, fun i hi => (hr i hi).off (by rw [u2_off (by omega), u2_off (by omega)])⟩
        have ho0 : offR mi (u2 (u2 mi 73 11 (nI (nC + 1))) 73 6 (nI 0)) := fun o oo => by rw [u2_off (by omega), u2_off (by omega)]
        refine p_stepR h0 (fun mi1 ho1 h1 => ?_)
        have h8 := p_readOne (G := G) (q := q) (m := m) (d := d) (n := n) (g := g) (c := c) (len := len) (nC := nC + 1) (tx := tx) (w := w) (ml := ml) (y := y) 8 e (by omega) (Nat.le_refl 8)
        refine p_readSum (D := 0) (by omega) h8 (pOne_OV h.1.w 8) (by omega) h1 (fun mi2 ho2 h2 => ?_)
        by_cases c3 : (pSum w q m d tx len (pOne w q m d n tx len 8) 0 (stepS tx len (sL s, false, sS s, sF s, sA s))).1 = true
        · rw [if_pos c3] at hK
          rw [c3]
          generalize (pSum w q m d tx len (pOne w q m d n tx len 8) 0 (stepS tx len (sL s, false, sS s, sF s, sA s))).2 = S2 at hK h2
          unfold pExp at hK
          refine ⟨fun z => absurd z (by decide), fun _ => p_expect h2 (by omega) (fun z mi3 ho3 h3 => ?_) (fun z mi3 ho3 h3 => ?_)⟩
          · rw [if_pos z] at hK
            exact ⟨fun z2 => absurd z2 (by decide), fun _ => hK mi3 (((ho0.trans ho1).trans ho2).trans ho3) h3⟩
          · rw [if_neg z] at hK
            exact ⟨fun _ => hK mi3 (((ho0.trans ho1).trans ho2).trans ho3) h3, fun z2 => absurd rfl z2⟩
        · rw [if_neg c3] at hK
          rw [show bi (pSum w q m d tx len (pOne w q m d n tx len 8) 0 (stepS tx len (sL s, false, sS s, sF s, sA s))).1 = 0 from if_neg c3]
          exact ⟨fun _ => hK mi2 ((ho0.trans ho1).trans ho2) h2, fun z => absurd rfl z⟩
      · rw [if_pos (by omega)] at hK
        exact p_fail h (by decide) (fun mi1 ho1 h1 => hK mi1 ho1 h1)
  · rw [if_pos z] at hK
    exact hK mi (fun _ _ => rfl) h
theorem p_startR {e : Nat} {num : Nat} {S : Nat → Nat → Nat} {mi : Nat → Nat → Int32} (h0 : En q m d n g mi) (hT : Tx c len tx mi) (hR : Rdi num S mi) {K : (Nat → Nat → Int32) → (Nat → Nat → Int64) → Prop}
    (hK : ∀ mi1, offR mi mi1 → RE q m d n g c len tx w 0 (st0 tx len num S) mi1 → K mi1 ml) : wpV G e 154 m_X4_start [.ref 73, .ref c, .int (nI len), .int (nI (bi w))] (mi, ml, RX y) K := by
  obtain ⟨⟨tok, pl, hr8, hr9⟩, hr10, hnum, hrows⟩ := hR
  obtain ⟨hc, c300, c96, hlen, ht, hb⟩ := id hT
  have hsp : c < SP := Nat.lt_trans hc.1.2 (by decide)
  apply e_X4_start
  rw [c300]
  have e1 : (if (nI 300) < nI len then (nI 300) else nI len) = nI len := by
    by_cases z : nI 300 < nI len
    · rw [s_lt (by omega) (by omega)] at z
      omega
    · rw [if_neg z]
  rw [e1]
  refine ⟨⟨by omega, hsp⟩, hc.1, by cases w; exact Or.inl rfl; exact Or.inr rfl, Or.inl rfl, ?_⟩
  have hoff : ∀ o, o ≠ 73 → (u2 (u2 (u2 (u2 (u2 (u2 (u2 (u2 mi 73 3 (nI c)) 73 4 (nI len)) 73 5 (nI (bi w))) 73 6 (nI 0)) 73 7 (nI 0)) 73 11 (nI 0)) 73 12 (nI 0)) 73 13 (-(nI 1))) o = mi o := fun o h => by rw [u2_off h, u2_off h, u2_off h, u2_off h, u2_off h, u2_off h, u2_off h, u2_off h]
  have hT1 := hT.off (hoff c (by omega))
  refine p_step _ hT1 (L := (tok, pl, num, 0)) ⟨?_, ?_, ?_, ?_, ?_, ?_⟩ ⟨Nat.zero_le _, hnum⟩ (fun mi1 ho1 hk1 hL1 => ?_)
  · rw [u2_ne (by decide), u2_ne (by decide), u2_ne (by decide), u2_ne (by decide), u2_ne (by decide), u2_ne (by decide), u2_ne (by decide), u2_at]
  · rw [u2_ne (by decide), u2_ne (by decide), u2_ne (by decide), u2_ne (by decide), u2_ne (by decide), u2_ne (by decide), u2_at]
  · rw [u2_ne (by decide), u2_ne (by decide), u2_ne (by decide), u2_at]
  · rw [u2_ne (by decide), u2_ne (by decide), u2_ne (by decide), u2_ne (by decide), u2_ne (by decide), u2_ne (by decide), u2_ne (by decide), u2_ne (by decide)]; exact hr8
  · rw [u2_ne (by decide), u2_ne (by decide), u2_ne (by decide), u2_ne (by decide), u2_ne (by decide), u2_ne (by decide), u2_ne (by decide), u2_ne (by decide)]; exact hr9
  · rw [u2_ne (by decide), u2_ne (by decide), u2_ne (by decide), u2_ne (by decide), u2_ne (by decide), u2_ne (by decide), u2_ne (by decide), u2_ne (by decide)]; exact hr10
  · have ho2 : ∀ o, o ≠ 73 → mi1 o = mi o := fun o h => by rw [ho1 o h, hoff o h]
    refine hK mi1 (fun o oo => ho2 o (by omega)) ⟨h0.off (fun o o1 o2 => ho2 o (by omega)), hT.off (ho2 c (by omega)), hL1, ?_, ?_, ?_, ?_, ?_, ?_, fun i hi => (hrows i hi).off (ho2 _ (by omega))⟩
    · exact tkn_ok ht (skp_le _ _ (Nat.zero_le _)).2 hnum
    · rw [hk1 5 (by omega) (by omega) (by omega) (by omega), u2_ne (by decide), u2_ne (by decide), u2_ne (by decide), u2_ne (by decide), u2_ne (by decide), u2_at]
    · rw [hk1 6 (by omega) (by omega) (by omega) (by omega), u2_ne (by decide), u2_ne (by decide), u2_ne (by decide), u2_ne (by decide), u2_at]
      rfl
    · rw [hk1 11 (by omega) (by omega) (by omega) (by omega), u2_ne (by decide), u2_ne (by decide), u2_at]
    · rw [hk1 12 (by omega) (by omega) (by omega) (by omega), u2_ne (by decide), u2_at]
      rfl
    · rw [hk1 13 (by omega) (by omega) (by omega) (by omega), u2_at]
      rfl
theorem p_check_loop {e : Nat} (he : 32 ≤ e) (mi0 : Nat → Nat → Int32) {K : Int32 → (Nat → Nat → Int32) → (Nat → Nat → Int64) → Prop} :
    ∀ (f i : Nat) (s : PS) (nC : Nat) (mi : Nat → Nat → Int32), f + i = 21 → nC ≤ i → offR mi0 mi → RE q m d n g c len tx false nC s mi →
      (∀ mi1 nC1, offR mi0 mi1 → RE q m d n g c len tx false nC1 (pCk q m d n tx len f s nC) mi1 → K (nI (sF (pCk q m d n tx len f s nC))) mi1 ml) →
      wp G e tX m_X4_check 9 [(0, .ref 73), (3, .int (nI i))] [] (mi, ml, RX y) (QI K) := by
  intro f
  induction f with
  | zero =>
    intro i s nC mi hf hn ho h hK
    have h12 : mi 73 12 = nI (sF s) := h.2.2.2.2.2.2.2.1
    apply b_X4_check_9
    rw [h12]
    simp (disch := omega) only [s_le, s_lt, s_eq, s_eq0, s_in, s_ix, s_rm, s_div, s_pdlt, s_pdle, s_lepd, s_pdpd, s_pdlepd, s_pdadd, nI_add, pk_mul, pd_succ, Nat.not_lt_zero, Nat.zero_lt_succ, not_false_eq_true, not_true_eq_false, false_implies, true_implies, implies_true, and_true, true_and, Nat.reduceLT, Nat.reduceLeDiff, Nat.reduceAdd, Nat.reduceSub, Nat.zero_add, Nat.add_zero]
    exact ⟨fun _ => hK mi nC ho h, fun z => absurd (show 20 < i by omega) z⟩
  | succ f ih =>
    intro i s nC mi hf hn ho h hK
    unfold pCk at hK
    apply b_X4_check_9
    simp (disch := omega) only [s_le, s_lt, s_eq, s_eq0, s_in, s_ix, s_rm, s_div, s_pdlt, s_pdle, s_lepd, s_pdpd, s_pdlepd, s_pdadd, nI_add, pk_mul, pd_succ, Nat.not_lt_zero, Nat.zero_lt_succ, not_false_eq_true, not_true_eq_false, false_implies, true_implies, implies_true, and_true, true_and, Nat.reduceLT, Nat.reduceLeDiff, Nat.reduceAdd, Nat.reduceSub, Nat.zero_add, Nat.add_zero]
    refine ⟨fun z => absurd z (by omega), fun _ => ?_⟩
    refine p_readClause he h (by omega) (fun mi1 ho1 h1 => ?_)
    have hk4 : (pCl false q m d n tx len s nC).1 ≤ 3 ∧ (pCl false q m d n tx len s nC).2.2 ≤ nC + 1 := by
      unfold pCl
      split
      · exact ⟨by show 0 ≤ 3; omega, by show nC ≤ _; omega⟩
      split
      · exact ⟨Nat.le_refl 3, by show nC ≤ _; omega⟩
      split
      · exact ⟨Nat.le_refl 3, by show nC ≤ _; omega⟩
      split
      · refine ⟨?_, Nat.le_refl _⟩
        show (if _ then kd tx (sL s) else 3) ≤ 3
        split
        · rcases (kI_kd (tx := tx) (L := sL s)).2 with z | z | z <;> omega
        · exact Nat.le_refl 3
      · exact ⟨Nat.le_refl 3, Nat.le_refl _⟩
    have h12 : mi1 73 12 = nI (sF (pCl false q m d n tx len s nC).2.1) := h1.2.2.2.2.2.2.2.1
    by_cases c1 : (pCl false q m d n tx len s nC).1 = 1 ∨ (pCl false q m d n tx len s nC).1 = 2
    · rw [if_pos c1] at hK
      have hkI : kI (pCl false q m d n tx len s nC).1 = nI (pCl false q m d n tx len s nC).1 := if_neg (by omega)
      rw [hkI]
      simp (disch := omega) only [s_le, s_lt, s_eq, s_eq0, s_in, s_ix, s_rm, s_div, s_pdlt, s_pdle, s_lepd, s_pdpd, s_pdlepd, s_pdadd, nI_add, pk_mul, pd_succ, Nat.not_lt_zero, Nat.zero_lt_succ, not_false_eq_true, not_true_eq_false, false_implies, true_implies, implies_true, and_true, true_and, Nat.reduceLT, Nat.reduceLeDiff, Nat.reduceAdd, Nat.reduceSub, Nat.zero_add, Nat.add_zero]
      refine ⟨fun _ => ih (i + 1) _ _ mi1 (by omega) (by omega) (ho.trans ho1) h1 hK, fun z => absurd (show 0 < (pCl false q m d n tx len s nC).1 by omega) z⟩
    · rw [if_neg c1] at hK
      have hkI : ¬ nI 0 < kI (pCl false q m d n tx len s nC).1 := by
        rcases (show (pCl false q m d n tx len s nC).1 = 0 ∨ (pCl false q m d n tx len s nC).1 = 3 by omega) with z | z
        · rw [z]; decide
        · rw [z]; decide
      rw [h12]
      exact ⟨fun z => absurd z hkI, fun _ => hK mi1 _ (ho.trans ho1) h1⟩
/-- checks a text for faults -/
theorem p_check {e : Nat} (he : 32 ≤ e) {num : Nat} {S : Nat → Nat → Nat} {mi : Nat → Nat → Int32} (h0 : En q m d n g mi) (hT : Tx c len tx mi) (hR : Rdi num S mi) {K : Int32 → (Nat → Nat → Int32) → (Nat → Nat → Int64) → Prop}
    (hK : ∀ mi1 nC1, offR mi mi1 → RE q m d n g c len tx false nC1 (pCk q m d n tx len 21 (st0 tx len num S) 0) mi1 → K (nI (sF (pCk q m d n tx len 21 (st0 tx len num S) 0))) mi1 ml) : wpI G e 154 m_X4_check [.ref 73, .ref c, .int (nI len)] (mi, ml, RX y) K := by
  apply e_X4_check
  refine p_startR (w := false) h0 hT hR (fun mi1 ho1 h1 => ?_)
  exact p_check_loop he mi 21 0 _ 0 mi1 rfl (Nat.le_refl 0) ho1 h1 hK
end RD6
