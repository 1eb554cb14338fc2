/-! the class's face: feed .. noughts -/
variable {mo : Nat → Nat → Int32}
def bt (v : Int32) (sh : Nat) : Nat := (us v (nI sh)).toBitVec.toNat % 256
theorem bt_lt (v : Int32) (sh : Nat) : bt v sh < 256 := Nat.mod_lt _ (by decide)
theorem bt_eq (v : Int32) (sh : Nat) : (us v (nI sh)) &&& (nI 255) = nI (bt v sh) := pk_and (us v (nI sh)) 8 rfl
def fd4 (v : Int32) (tl : Nat) (tb : Nat → Nat) : Nat → Nat := up1 (up1 (up1 (up1 tb tl (bt v 24)) (tl + 1) (bt v 16)) (tl + 2) (bt v 8)) (tl + 3) (bt v 0)
def sTape (s : Cst) (tl : Nat) (tb : Nat → Nat) : Cst := (s.1, s.2.1, (tl, tb), s.2.2.2)
def fFeed (s : Cst) (v1 v2 v3 v4 v5 : Int32) : Int32 × Cst := if cTl s ≤ 280 then (nI (cTl s + 20), sTape s (cTl s + 20) (fd4 v5 (cTl s + 16) (fd4 v4 (cTl s + 12) (fd4 v3 (cTl s + 8) (fd4 v2 (cTl s + 4) (fd4 v1 (cTl s) (cTb s))))))) else (NONE, s)
def fEnd (s : Cst) (v : Int32) : Int32 × Cst := match asN (cTl s + 1) v with
  | some a => (nI a, sTape s a (cTb s))
  | none => (NONE, s)
def fFault (s : Cst) (v : Int32) : Int32 := if v = nI 0 then cF s else if v = nI 1 then cP s else NONE
def fOfR (f : Nat → Nat) (N : Nat) (v : Int32) : Int32 := if v = NONE then pd (rl f N) else match asN N v with
  | some i => nI (f i)
  | none => nI 0
def fOf (s : Cst) (v1 v2 v3 : Int32) : Int32 := if ¬ NONE ≤ v3 then NONE else if v1 = nI 0 then (match asN (kc (aks (cN s)) 0 (adn (cN s))) v2 with
    | some i => fOfR (amd (cN s) i) 4 v3
    | none => NONE)
  else match asN (kc (aks (cN s)) 1 (adn (cN s))) v2 with
    | some i => fOfR (amp (cN s) i) 8 v3
    | none => NONE
def fAct (s : Cst) (v1 v2 v3 : Int32) : Int32 := match asN (kc (aks (cN s)) 0 (adn (cN s))) v1, asN (aq (cN s) ^ 13) v2, asN (nO (cN s)) v3 with
  | some i, some a, some x => nI (snd (aq (cN s)) (am (cN s)) (dO (cN s)) (amd (cN s) i) a x)
  | some _, some _, none => NONE
  | some _, none, _ => NONE
  | none, _, _ => NONE
def fActs (s : Cst) (v1 v2 v3 : Int32) : Int32 := match asN (kc (aks (cN s)) 0 (adn (cN s))) v1, asN (aq (cN s) ^ 13) v2, asN 25 v3 with
  | some i, some a, some j => if (trn (aq (cN s)) (am (cN s)) (dO (cN s)) (amd (cN s) i) a).1 = true then nI ((trn (aq (cN s)) (am (cN s)) (dO (cN s)) (amd (cN s) i) a).2 j) else NONE
  | some _, some _, none => NONE
  | some _, none, _ => NONE
  | none, _, _ => NONE
def fSend (s : Cst) (v1 v2 : Int32) : Int32 := match asN (kc (aks (cN s)) 1 (adn (cN s))) v1, asN (nO (cN s)) v2 with
  | some i, some x => nI (vl (aq (cN s)) (am (cN s)) (dO (cN s)) (amp (cN s) i) x)
  | some _, none => NONE
  | none, _ => NONE
def nol (q m d : Nat) (f : Nat → Nat) (a : Nat) (v : Int32) : Nat → Nat → Nat → Int32
  | 0, _, k => if v = NONE then nI k else NONE
  | r + 1, x, k => if snd q m d f a x = 0 then (if nI k = v then nI x else nol q m d f a v r (x + 1) (k + 1)) else nol q m d f a v r (x + 1) k
def fNoughts (s : Cst) (v1 v2 v3 : Int32) : Int32 := if ¬ NONE ≤ v3 then NONE else match asN (kc (aks (cN s)) 0 (adn (cN s))) v1, asN (aq (cN s) ^ 13) v2 with
  | some i, some a => nol (aq (cN s)) (am (cN s)) (dO (cN s)) (amd (cN s) i) a v3 (nO (cN s)) 0 0
  | some _, none => NONE
  | none, _ => NONE
section FC3
variable {G : GC} {e : Nat} {mi : Nat → Nat → Int32} {ml : Nat → Nat → Int64} {y : Nat → Nat → Option Nat} {s : Cst}
theorem neg8 (r : Nat) : nI (8 * (r + 1)) + (-(nI 8)) = nI (8 * r) := by
  rw [Int32.add_neg_eq_sub, s_sub (by omega), Nat.mul_succ, Nat.add_sub_cancel]
theorem p_feedFour {v : Int32} {tl : Nat} {tb : Nat → Nat} (h0 : mi 0 13 = nI tl) (hl : tl + 4 ≤ 300) (ht : ∀ i, i < 300 → mi 152 i = nI (tb i)) {K : (Nat → Nat → Int32) → (Nat → Nat → Int64) → Prop}
    (hK : ∀ mi1, (∀ o, o ≠ 0 → o ≠ 152 → mi1 o = mi o) → (∀ k, k ≠ 13 → mi1 0 k = mi 0 k) → mi1 0 13 = nI (tl + 4) → (∀ i, i < 300 → mi1 152 i = nI (fd4 v tl tb i)) → K mi1 ml) : wpV G e 154 m_X9_feedFour [.ref 0, .int v] (mi, ml, RX y) K := by
  have one : ∀ (r tl : Nat) (tb : Nat → Nat) (mi1 : Nat → Nat → Int32) (K1 : (Nat → Nat → Int32) → (Nat → Nat → Int64) → Prop), tl < 300 → 8 * r < 100 → mi1 0 13 = nI tl → (∀ i, i < 300 → mi1 152 i = nI (tb i)) →
      (∀ mi2, (∀ o, o ≠ 0 → o ≠ 152 → mi2 o = mi1 o) → (∀ k, k ≠ 13 → mi2 0 k = mi1 0 k) → mi2 0 13 = nI (tl + 1) → (∀ i, i < 300 → mi2 152 i = nI (up1 tb tl (bt v (8 * r)) i)) → wp G e tX m_X9_feedFour 3 [(0, .ref 0), (1, .int v), (2, .int (nI (8 * r) + (-(nI 8))))] [] (mi2, ml, RX y) (QV K1)) →
      wp G e tX m_X9_feedFour 3 [(0, .ref 0), (1, .int v), (2, .int (nI (8 * r)))] [] (mi1, ml, RX y) (QV K1) := by
    intro r tl tb mi1 K1 hl hr h1 h2 hK
    apply b_X9_feedFour_3
    rw [h1, s_ix (by omega), u2_off (show 0 ≠ 152 by omega), h1, nI_add, bt_eq, s_in (by omega)]
    refine ⟨fun z => ?_, fun _ => ⟨fun z => ?_, fun _ => ⟨by omega, hK _ (fun o o1 o2 => by rw [u2_off o1, u2_off o2]) (fun k hk => by rw [u2_ne hk, u2_off (by omega)]) u2_at (fun i hi => ?_)⟩⟩⟩
    · rw [s_lt (by omega) (by omega)] at z
      omega
    · rw [s_le (by omega) (by omega)] at z
      omega
    · rw [u2_off (by omega)]
      show u2 mi1 152 tl _ 152 i = nI (if i = tl then _ else _)
      by_cases c : i = tl
      · rw [if_pos c, c, u2_at]
      · rw [if_neg c, u2_ne c]
        exact h2 i hi
  apply e_X9_feedFour
  refine one 3 tl tb mi K (by omega) (by omega) h0 ht (fun mi1 a1 a2 a3 a4 => ?_)
  rw [neg8 2]
  refine one 2 (tl + 1) _ mi1 K (by omega) (by omega) a3 a4 (fun mi2 b1 b2 b3 b4 => ?_)
  rw [neg8 1]
  refine one 1 (tl + 2) _ mi2 K (by omega) (by omega) b3 b4 (fun mi3 c1 c2 c3 c4 => ?_)
  rw [neg8 0]
  refine one 0 (tl + 3) _ mi3 K (by omega) (by omega) c3 c4 (fun mi4 d1 d2 d3 d4 => ?_)
  apply b_X9_feedFour_3
  refine ⟨fun _ => hK mi4 (fun o o1 o2 => by rw [d1 o o1 o2, c1 o o1 o2, b1 o o1 o2, a1 o o1 o2]) (fun k hk => by rw [d2 k hk, c2 k hk, b2 k hk, a2 k hk]) d3 d4, fun z => absurd (show (nI (8 * 0) + (-(nI 8))) < nI 0 by decide) z⟩
theorem fd4_lt {v : Int32} {tl : Nat} {tb : Nat → Nat} (h : ∀ i, tb i < 256) : ∀ i, fd4 v tl tb i < 256 := by
  intro i
  unfold fd4 up1
  split
  · exact bt_lt _ _
  split
  · exact bt_lt _ _
  split
  · exact bt_lt _ _
  split
  · exact bt_lt _ _
  · exact h i
theorem CI.tape (h : CI mo s mi) {mi1 : Nat → Nat → Int32} {tl : Nat} {tb : Nat → Nat} (ho : ∀ o, o ≠ 0 → o ≠ 152 → mi1 o = mi o) (hk : ∀ k, k ≠ 13 → mi1 0 k = mi 0 k) (h13 : mi1 0 13 = nI tl) (hl : tl ≤ 300) (ht : ∀ i, i < 300 → mi1 152 i = nI (tb i)) (hb : ∀ i, tb i < 256) : CI mo (sTape s tl tb) mi1 := by
  obtain ⟨⟨g, num, S, h1, h2⟩, h3, h4, h5, h6, t1, t2, t3, t4, t5, t6, t7, t8, t9⟩ := h
  refine ⟨⟨g, num, S, h1.off (fun o o1 o2 => ho o (by omega) (by omega)), h2.off (fun o o1 o2 => ho o (by omega) (by omega))⟩, h3.off (fun o o1 o2 => ho o (by omega) (by omega)), h4.off (fun o o1 o2 => ho o (by omega) (by omega)), h5, h6, h13, hl, by rw [hk 14 (by omega)]; exact t3, by rw [hk 15 (by omega)]; exact t4, ht, hb, fun j hj => ?_, t8, fun o o1 => (ho o (by omega) (by omega)).trans (t9 o o1)⟩
  rw [ho 151 (by omega) (by omega), ho (147 + j) (by omega) (by omega)]
  exact t7 j hj
theorem p_feed (h : CI mo s mi) {v1 v2 v3 v4 v5 : Int32} {K : Int32 → (Nat → Nat → Int32) → (Nat → Nat → Int64) → Prop} (hK : ∀ mi1, CI mo (fFeed s v1 v2 v3 v4 v5).2 mi1 → K (fFeed s v1 v2 v3 v4 v5).1 mi1 ml) : wpI G e 154 m_X9_feed [.ref 0, .int v1, .int v2, .int v3, .int v4, .int v5] (mi, ml, RX y) K := by
  obtain ⟨-, -, -, -, -, t1, t2, t3, t4, t5, t6, t7, t8, t9⟩ := id h
  unfold fFeed at hK
  apply e_X9_feed
  rw [t1]
  simp (disch := omega) only [s_le, s_lt, s_eq, s_eq0, s_in, s_ix, s_rm, s_div, s_pdlt, s_pdle, s_lepd, s_pdpd, s_pdlepd, s_pdadd, nI_add, pk_mul, pd_succ, Nat.not_lt_zero, Nat.zero_lt_succ, not_false_eq_true, not_true_eq_false, false_implies, true_implies, implies_true, and_true, true_and, Nat.reduceLT, Nat.reduceLeDiff, Nat.reduceAdd, Nat.reduceSub, Nat.zero_add, Nat.add_zero]
  refine ⟨fun c => ?_, fun c => ?_⟩
  · rw [if_pos c] at hK
    refine p_feedFour t1 (by omega) t5 (fun m1 a1 a2 a3 a4 => ?_)
    refine p_feedFour a3 (by omega) a4 (fun m2 b1 b2 b3 b4 => ?_)
    refine p_feedFour b3 (by omega) b4 (fun m3 c1 c2 c3 c4 => ?_)
    refine p_feedFour c3 (by omega) c4 (fun m4 d1 d2 d3 d4 => ?_)
    refine p_feedFour d3 (by omega) d4 (fun m5 e1 e2 e3 e4 => ?_)
    rw [e3]
    exact hK m5 (h.tape (fun o o1 o2 => by rw [e1 o o1 o2, d1 o o1 o2, c1 o o1 o2, b1 o o1 o2, a1 o o1 o2]) (fun k hk => by rw [e2 k hk, d2 k hk, c2 k hk, b2 k hk, a2 k hk]) e3 (by omega) e4 (fd4_lt (fd4_lt (fd4_lt (fd4_lt (fd4_lt t6))))))
  · rw [if_neg c] at hK
    exact hK mi h
theorem p_end (h : CI mo s mi) {v : Int32} {K : Int32 → (Nat → Nat → Int32) → (Nat → Nat → Int64) → Prop} (hK : ∀ mi1, CI mo (fEnd s v).2 mi1 → K (fEnd s v).1 mi1 ml) : wpI G e 154 m_X9_end [.ref 0, .int v] (mi, ml, RX y) K := by
  obtain ⟨-, -, -, -, -, t1, t2, t3, t4, t5, t6, t7, t8, t9⟩ := id h
  unfold fEnd at hK
  apply e_X9_end
  rw [t1]
  refine ⟨fun c => ?_, fun c => ?_⟩
  · rw [asN_neg (by rw [nI_0] at c; exact c)] at hK
    exact hK mi h
  · obtain ⟨a, ha, rfl⟩ := nI_of (by rw [nI_0] at c; exact c)
    rw [asN_nI ha] at hK
    simp (disch := omega) only [s_le, s_lt, s_eq, s_eq0, s_in, s_ix, s_rm, s_div, s_pdlt, s_pdle, s_lepd, s_pdpd, s_pdlepd, s_pdadd, nI_add, pk_mul, pd_succ, Nat.not_lt_zero, Nat.zero_lt_succ, not_false_eq_true, not_true_eq_false, false_implies, true_implies, implies_true, and_true, true_and, Nat.reduceLT, Nat.reduceLeDiff, Nat.reduceAdd, Nat.reduceSub, Nat.zero_add, Nat.add_zero]
    refine ⟨fun z => ?_, fun z => ?_⟩
    · rw [if_pos (by omega)] at hK
      exact hK _ (h.tape (fun o o1 o2 => u2_off o1) (fun k hk => u2_ne hk) u2_at (by omega) (fun i hi => by rw [u2_off (by omega)]; exact t5 i hi) t6)
    · rw [if_neg (by omega)] at hK
      exact hK mi h
theorem p_fault (h : CI mo s mi) {v : Int32} {K : Int32 → (Nat → Nat → Int32) → (Nat → Nat → Int64) → Prop} (hK : K (fFault s v) mi ml) : wpI G e 154 m_X9_fault [.ref 0, .int v] (mi, ml, RX y) K := by
  obtain ⟨-, -, -, -, -, t1, t2, t3, t4, -⟩ := id h
  unfold fFault at hK
  apply e_X9_fault
  rw [t3, t4]
  refine ⟨fun z => ?_, fun z => ⟨fun z2 => ?_, fun z2 => ?_⟩⟩
  · rw [if_pos z] at hK; exact hK
  · rw [if_neg z, if_pos z2] at hK; exact hK
  · rw [if_neg z, if_neg z2] at hK; exact hK
theorem of_row {n c N : Nat} (hn : n ≤ 128) (hc : isR c) (hN : an c = N) {f : Nat → Nat} (hf : Rw n mi c f) {v : Int32} (hv : NONE ≤ v) {K : Int32 → (Nat → Nat → Int32) → (Nat → Nat → Int64) → Prop} (hK : K (fOfR f N v) mi ml) :
    (¬ v = (-(nI 1)) → ((ak c = 11 ∧ c < 154) ∧ (((nI (an c)) ≤ v → K (nI 0) mi ml) ∧ (¬ (nI (an c)) ≤ v → ((ak c = 11 ∧ c < 154) ∧ (vp_in v (an c) ∧ K (mi c (ix v)) mi ml)))))) ∧ (v = (-(nI 1)) → (wpI G e 154 m_X8_degreeOf [.ref c] (mi, ml, (RX y)) (fun r9 mi7 ml8 => K r9 mi7 ml8))) := by
  have hc31 := hc.2
  unfold fOfR at hK
  refine ⟨fun z => ?_, fun z => ?_⟩
  · rw [if_neg z] at hK
    have hnn : ¬ v < 0 := by
      intro z2
      have h1 : (-(nI 1)) ≤ v := hv
      rw [Int32.le_iff_toInt_le] at h1
      rw [Int32.lt_iff_toInt_lt] at z2
      have h2 : (-(nI 1)).toInt = -1 := by decide
      have h3 : (0 : Int32).toInt = 0 := by decide
      have h4 : v.toInt = -1 := by omega
      exact z (Int32.toInt_inj.mp (by rw [h4, h2]))
    obtain ⟨j, hj, rfl⟩ := nI_of hnn
    rw [asN_nI hj] at hK
    simp (disch := omega) only [s_le, s_lt, s_eq, s_eq0, s_in, s_ix, s_rm, s_div, s_pdlt, s_pdle, s_lepd, s_pdpd, s_pdlepd, s_pdadd, nI_add, pk_mul, pd_succ, Nat.not_lt_zero, Nat.zero_lt_succ, not_false_eq_true, not_true_eq_false, false_implies, true_implies, implies_true, and_true, true_and, Nat.reduceLT, Nat.reduceLeDiff, Nat.reduceAdd, Nat.reduceSub, Nat.zero_add, Nat.add_zero]
    refine ⟨hc.1, fun z2 => ?_, fun z2 => ⟨hc.1, by omega, ?_⟩⟩
    · rw [if_neg (by omega)] at hK
      exact hK
    · rw [if_pos (by omega)] at hK
      rw [hf.1 j (by omega)]
      exact hK
  · rw [if_pos z] at hK
    refine p_degreeOf hc (hf.row hn) ?_
    rw [hN]
    exact hK
theorem p_of (h : CI mo s mi) {v1 v2 v3 : Int32} {K : Int32 → (Nat → Nat → Int32) → (Nat → Nat → Int64) → Prop} (hK : K (fOf s v1 v2 v3) mi ml) : wpI G e 154 m_X9_of [.ref 0, .int v1, .int v2, .int v3] (mi, ml, RX y) K := by
  obtain ⟨g, hE⟩ := h.en
  have hn128 : nO (cN s) ≤ 128 := hE.w.2.2.2.2.2.2
  unfold fOf at hK
  apply e_X9_of
  refine ⟨fun c1 => ?_, fun c1 => ?_⟩
  · refine q_has0 h (fun i hi hv hlt => ⟨fun z => absurd z (by decide), fun _ => ⟨fun z => ?_, fun z => ?_⟩⟩) (fun hno => ⟨fun _ => ?_, fun z => absurd rfl z⟩)
    · rw [if_neg (fun z2 => z2 z), if_pos c1, hi] at hK
      obtain ⟨m1, m2, m3, m4, m5⟩ := h.mod hlt
      subst hv
      exact p_sget0 m5 (of_row hn128 m1 m2 m3 z hK)
    · rw [if_pos z] at hK
      exact hK
    · rw [hno] at hK
      by_cases z : ¬ NONE ≤ v3
      · rw [if_pos z] at hK; exact hK
      · rw [if_neg z, if_pos c1] at hK; exact hK
  · refine q_has1 h (fun i hi hv hlt => ⟨fun z => absurd z (by decide), fun _ => ⟨fun z => ?_, fun z => ?_⟩⟩) (fun hno => ⟨fun _ => ?_, fun z => absurd rfl z⟩)
    · rw [if_neg (fun z2 => z2 z), if_neg c1, hi] at hK
      obtain ⟨m1, m2, m3, m4, m5⟩ := h.map hlt
      subst hv
      exact p_sget1 m5 (of_row hn128 m1 m2 m3 z hK)
    · rw [if_pos z] at hK
      exact hK
    · rw [hno] at hK
      by_cases z : ¬ NONE ≤ v3
      · rw [if_pos z] at hK; exact hK
      · rw [if_neg z, if_neg c1] at hK; exact hK
theorem p_isActing (h : CI mo s mi) {v1 v2 : Int32} {K : Int32 → (Nat → Nat → Int32) → (Nat → Nat → Int64) → Prop}
    (h1 : ∀ i a, asN (kc (aks (cN s)) 0 (adn (cN s))) v1 = some i → asN (aq (cN s) ^ 13) v2 = some a → v1 = nI i → i < kc (aks (cN s)) 0 (adn (cN s)) → v2 = nI a → a < aq (cN s) ^ 13 → K (nI 1) mi ml)
    (h0 : (asN (kc (aks (cN s)) 0 (adn (cN s))) v1 = none ∨ asN (aq (cN s) ^ 13) v2 = none) → K (nI 0) mi ml) : wpI G e 154 m_X9_isActing [.ref 0, .int v1, .int v2] (mi, ml, RX y) K := by
  obtain ⟨g, hE⟩ := h.en
  apply e_X9_isActing
  refine q_has0 h (fun i hi hv hlt => ⟨fun z => absurd z (by decide), fun _ => ?_⟩) (fun hno => ⟨fun _ => ⟨Or.inl rfl, h0 (Or.inl hno)⟩, fun z => absurd rfl z⟩)
  exact q_holds hE.1 (fun a ha hva hla => ⟨fun z => absurd z (by decide), fun _ => ⟨Or.inr rfl, h1 i a hi ha hv hlt hva hla⟩⟩) (fun hno => ⟨fun _ => ⟨Or.inl rfl, h0 (Or.inr hno)⟩, fun z => absurd rfl z⟩)
theorem opt_cases {α : Type} (o : Option α) : o = none ∨ ∃ a, o = some a := by
  cases o with
  | none => exact Or.inl rfl
  | some a => exact Or.inr ⟨a, rfl⟩
theorem p_act (h : CI mo s mi) {v1 v2 v3 : Int32} {K : Int32 → (Nat → Nat → Int32) → (Nat → Nat → Int64) → Prop} (hK : K (fAct s v1 v2 v3) mi ml) : wpI G e 154 m_X9_act [.ref 0, .int v1, .int v2, .int v3] (mi, ml, RX y) K := by
  obtain ⟨g, hE⟩ := h.en
  unfold fAct at hK
  apply e_X9_act
  refine p_isActing h (fun i a hi ha hv hlt hva hla => ⟨fun z => absurd z (by decide), fun _ => ?_⟩) (fun hno => ⟨fun _ => ?_, fun z => absurd rfl z⟩)
  · rw [hi, ha] at hK
    refine q_rholds hE (fun x hx hvx hlx => ⟨fun _ => ?_, fun z => absurd z (by decide)⟩) (fun hno => ⟨fun z => absurd rfl z, fun _ => ?_⟩)
    · rw [hx] at hK
      obtain ⟨m1, m2, m3, m4, m5⟩ := h.mod hlt
      subst hv
      subst hva
      subst hvx
      exact p_sget0 m5 (p_sendBy hE m1 (by omega) hla m3 hlx hK)
    · rw [hno] at hK
      exact hK
  · rcases hno with z | z
    · rw [z] at hK
      exact hK
    · rw [z] at hK
      rcases opt_cases (asN (kc (aks (cN s)) 0 (adn (cN s))) v1) with z2 | ⟨i, z2⟩ <;> rw [z2] at hK <;> exact hK
theorem p_acts (h : CI mo s mi) {v1 v2 v3 : Int32} {K : Int32 → (Nat → Nat → Int32) → (Nat → Nat → Int64) → Prop} (hK : ∀ mi1, CI mo s mi1 → K (fActs s v1 v2 v3) mi1 ml) : wpI G e 154 m_X9_acts [.ref 0, .int v1, .int v2, .int v3] (mi, ml, RX y) K := by
  obtain ⟨g, hE⟩ := h.en
  obtain ⟨-, -, -, -, r153, l153⟩ := rowK
  unfold fActs at hK
  apply e_X9_acts
  refine p_isActing h (fun i a hi ha hv hlt hva hla => ⟨fun z => absurd z (by decide), fun _ => ?_⟩) (fun hno => ⟨fun _ => ?_, fun z => absurd rfl z⟩)
  · rw [hi, ha] at hK
    obtain ⟨m1, m2, m3, m4, m5⟩ := h.mod hlt
    subst hv
    subst hva
    refine ⟨fun z => ?_, fun z => ?_⟩
    · rw [asN_neg (by rw [nI_0] at z; exact z)] at hK
      exact hK mi h
    · obtain ⟨j, hj, rfl⟩ := nI_of (by rw [nI_0] at z; exact z)
      rw [asN_nI hj] at hK
      simp (disch := omega) only [s_le, s_lt, s_eq, s_eq0, s_in, s_ix, s_rm, s_div, s_pdlt, s_pdle, s_lepd, s_pdpd, s_pdlepd, s_pdadd, nI_add, pk_mul, pd_succ, Nat.not_lt_zero, Nat.zero_lt_succ, not_false_eq_true, not_true_eq_false, false_implies, true_implies, implies_true, and_true, true_and, Nat.reduceLT, Nat.reduceLeDiff, Nat.reduceAdd, Nat.reduceSub, Nat.zero_add, Nat.add_zero]
      refine ⟨fun z2 => p_sget0 m5 (p_turn hE r153 l153 m1 (by omega) (by omega) (by omega) hla m3 (fun mi1 ho1 hr1 => ?_)), fun z2 => ?_⟩
      · have h1 := h.off (mi1 := mi1) (fun o oo => ho1 o (by omega))
        rw [if_pos (by omega)] at hK
        by_cases c : (trn (aq (cN s)) (am (cN s)) (dO (cN s)) (amd (cN s) i) a).1 = true
        · rw [if_pos c]
          refine ⟨fun _ => ⟨by omega, ?_⟩, fun z => absurd z (by decide)⟩
          rw [hr1.1 j (by omega)]
          have := hK mi1 h1
          simp only [if_pos c] at this
          exact this
        · rw [if_neg c]
          refine ⟨fun z => absurd rfl z, fun _ => ?_⟩
          have := hK mi1 h1
          simp only [if_neg c] at this
          exact this
      · rw [if_neg (by omega)] at hK
        exact hK mi h
  · rcases hno with z | z
    · rw [z] at hK
      exact hK mi h
    · rw [z] at hK
      rcases opt_cases (asN (kc (aks (cN s)) 0 (adn (cN s))) v1) with z2 | ⟨i, z2⟩ <;> rw [z2] at hK <;> exact hK mi h
theorem p_send (h : CI mo s mi) {v1 v2 : Int32} {K : Int32 → (Nat → Nat → Int32) → (Nat → Nat → Int64) → Prop} (hK : K (fSend s v1 v2) mi ml) : wpI G e 154 m_X9_send [.ref 0, .int v1, .int v2] (mi, ml, RX y) K := by
  obtain ⟨g, hE⟩ := h.en
  unfold fSend at hK
  apply e_X9_send
  refine q_has1 h (fun i hi hv hlt => ⟨fun z => absurd z (by decide), fun _ => ?_⟩) (fun hno => ⟨fun _ => ?_, fun z => absurd rfl z⟩)
  · rw [hi] at hK
    refine q_rholds hE (fun x hx hvx hlx => ⟨fun _ => ?_, fun z => absurd z (by decide)⟩) (fun hno => ⟨fun z => absurd rfl z, fun _ => ?_⟩)
    · rw [hx] at hK
      obtain ⟨m1, m2, m3, m4, m5⟩ := h.map hlt
      subst hv
      subst hvx
      exact p_sget1 m5 (p_vl hE m1 (by omega) m3 hlx hK)
    · rw [hno] at hK
      exact hK
  · rw [hno] at hK
    exact hK
theorem p_noughts (h : CI mo s mi) {v1 v2 v3 : Int32} {K : Int32 → (Nat → Nat → Int32) → (Nat → Nat → Int64) → Prop} (hK : K (fNoughts s v1 v2 v3) mi ml) : wpI G e 154 m_X9_noughts [.ref 0, .int v1, .int v2, .int v3] (mi, ml, RX y) K := by
  obtain ⟨g, hE⟩ := h.en
  have w := hE.w
  have hn128 : nO (cN s) ≤ 128 := hE.w.2.2.2.2.2.2
  unfold fNoughts at hK
  apply e_X9_noughts
  refine p_isActing h (fun i a hi ha hv hlt hva hla => ⟨fun z => absurd z (by decide), fun _ => ⟨fun z => ?_, fun z => ?_⟩⟩) (fun hno => ⟨fun _ => ?_, fun z => absurd rfl z⟩)
  · rw [if_neg (fun z2 => z2 z), hi, ha] at hK
    obtain ⟨m1, m2, m3, m4, m5⟩ := h.mod hlt
    subst hv
    subst hva
    have loop : ∀ (r x k : Nat), r + x = nO (cN s) → k ≤ x → K (nol (aq (cN s)) (am (cN s)) (dO (cN s)) (amd (cN s) i) a v3 r x k) mi ml → wp G e tX m_X9_noughts 33 [(0, .ref 0), (2, .int (nI a)), (3, .int v3), (4, .ref (98 + i)), (5, .int (nI k)), (6, .int (nI x))] [] (mi, ml, RX y) (QI K) := by
      intro r
      induction r with
      | zero =>
        intro x k hr hk hK
        apply b_X9_noughts_33
        refine p_rsize hE.2.1 ?_
        simp (disch := omega) only [s_le, s_lt, s_eq, s_eq0, s_in, s_ix, s_rm, s_div, s_pdlt, s_pdle, s_lepd, s_pdpd, s_pdlepd, s_pdadd, nI_add, pk_mul, pd_succ, Nat.not_lt_zero, Nat.zero_lt_succ, not_false_eq_true, not_true_eq_false, false_implies, true_implies, implies_true, and_true, true_and, Nat.reduceLT, Nat.reduceLeDiff, Nat.reduceAdd, Nat.reduceSub, Nat.zero_add, Nat.add_zero]
        refine ⟨fun _ => ⟨fun z2 => ?_, fun z2 => ?_⟩, fun z2 => absurd (show nO (cN s) ≤ x by omega) z2⟩
        · have e1 : nol (aq (cN s)) (am (cN s)) (dO (cN s)) (amd (cN s) i) a v3 0 x k = NONE := if_neg z2
          rw [e1] at hK
          exact hK
        · have e1 : nol (aq (cN s)) (am (cN s)) (dO (cN s)) (amd (cN s) i) a v3 0 x k = nI k := if_pos z2
          rw [e1] at hK
          exact hK
      | succ r ih =>
        intro x k hr hk hK
        have hsx := snd_lt (a := a) (f := amd (cN s) i) w (show x < nO (cN s) by omega)
        unfold nol at hK
        apply b_X9_noughts_33
        refine p_rsize hE.2.1 ?_
        simp (disch := omega) only [s_le, s_lt, s_eq, s_eq0, s_in, s_ix, s_rm, s_div, s_pdlt, s_pdle, s_lepd, s_pdpd, s_pdlepd, s_pdadd, nI_add, pk_mul, pd_succ, Nat.not_lt_zero, Nat.zero_lt_succ, not_false_eq_true, not_true_eq_false, false_implies, true_implies, implies_true, and_true, true_and, Nat.reduceLT, Nat.reduceLeDiff, Nat.reduceAdd, Nat.reduceSub, Nat.zero_add, Nat.add_zero]
        refine ⟨fun z2 => absurd z2 (by omega), fun _ => p_sendBy hE m1 (by omega) hla m3 (by omega) ?_⟩
        simp (disch := omega) only [s_le, s_lt, s_eq, s_eq0, s_in, s_ix, s_rm, s_div, s_pdlt, s_pdle, s_lepd, s_pdpd, s_pdlepd, s_pdadd, nI_add, pk_mul, pd_succ, Nat.not_lt_zero, Nat.zero_lt_succ, not_false_eq_true, not_true_eq_false, false_implies, true_implies, implies_true, and_true, true_and, Nat.reduceLT, Nat.reduceLeDiff, Nat.reduceAdd, Nat.reduceSub, Nat.zero_add, Nat.add_zero]
        refine ⟨fun z2 => ?_, fun z2 => ⟨fun z3 => ?_, fun z3 => ?_⟩⟩
        · rw [if_neg z2] at hK
          exact ih (x + 1) k (by omega) (by omega) hK
        · rw [if_pos z2, if_neg z3] at hK
          exact ih (x + 1) (k + 1) (by omega) (by omega) hK
        · rw [if_pos z2, if_pos z3] at hK
          exact hK
    exact p_sget0 m5 (loop (nO (cN s)) 0 0 rfl (Nat.le_refl 0) hK)
  · rw [if_pos z] at hK
    exact hK
  · have e1 : (if ¬ NONE ≤ v3 then NONE else match asN (kc (aks (cN s)) 0 (adn (cN s))) v1, asN (aq (cN s) ^ 13) v2 with
      | some i, some a => nol (aq (cN s)) (am (cN s)) (dO (cN s)) (amd (cN s) i) a v3 (nO (cN s)) 0 0
      | some _, none => NONE
      | none, _ => NONE) = NONE := by
      split
      · rfl
      · rcases hno with z | z
        · rw [z]
        · rw [z]
          rcases opt_cases (asN (kc (aks (cN s)) 0 (adn (cN s))) v1) with z2 | ⟨i, z2⟩ <;> rw [z2]
    rw [e1] at hK
    exact hK
end FC3
