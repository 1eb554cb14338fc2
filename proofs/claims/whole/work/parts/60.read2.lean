/-! class Reader: words, and what is worked -/
/-- (token.., stuck, slots, fault, its place) -/
abbrev PS : Type := Lx × Bool × (Nat → Nat → Nat) × Nat × Nat
abbrev sL (s : PS) : Lx := s.1
abbrev sK (s : PS) : Bool := s.2.1
abbrev sS (s : PS) : Nat → Nat → Nat := s.2.2.1
abbrev sF (s : PS) : Nat := s.2.2.2.1
abbrev sA (s : PS) : Nat := s.2.2.2.2
def bi (b : Bool) : Nat := if b = true then 1 else 0
theorem bi_lt (b : Bool) : bi b < 2 := by unfold bi; split <;> omega
def Rdm (c len : Nat) (w : Bool) (nC : Nat) (s : PS) (mi : Nat → Nat → Int32) : Prop := RL c len (sL s) mi ∧ Lok len (sL s) ∧ mi 73 5 = nI (bi w) ∧ mi 73 6 = nI (bi (sK s)) ∧ mi 73 11 = nI nC ∧ mi 73 12 = nI (sF s) ∧ mi 73 13 = (if sF s = 0 then -(nI 1) else nI (sA s)) ∧ ∀ i, i < 20 → Rw 128 mi (75 + i) (sS s i)
/-- the reader in its world, with its text -/
def RE (q m d n g c len : Nat) (tx : Nat → Nat) (w : Bool) (nC : Nat) (s : PS) (mi : Nat → Nat → Int32) : Prop := En q m d n g mi ∧ Tx c len tx mi ∧ Rdm c len w nC s mi
def offR (mi mi1 : Nat → Nat → Int32) : Prop := ∀ o, (o < 73 ∨ 94 < o) → mi1 o = mi o
def rdB : Bool := (List.range 20).all (fun i => Nat.beq (ak (75 + i)) 11 && Nat.beq (an (75 + i)) 25)
theorem rdB_ok : rdB = true := by decide +kernel
theorem rd_row {i : Nat} (hi : i < 20) : isR (75 + i) ∧ an (75 + i) = 25 := by
  have h := List.all_eq_true.mp rdB_ok i (List.mem_range.mpr hi)
  simp only [Bool.and_eq_true, nbq] at h
  exact ⟨⟨⟨h.1, by omega⟩, by rw [h.2]; omega⟩, h.2⟩
def wbl (tx : Nat → Nat) (ws : List Nat) (p : Nat) : Nat → Nat → Bool
  | 0, _ => true
  | r + 1, i => if tx (p + i) = ws.getD i 0 then wbl tx ws p r (i + 1) else false
def isw (tx : Nat → Nat) (L : Lx) (ws : List Nat) : Bool := decide (L.1 = 3 ∧ L.2.2.2 - L.2.1 = ws.length) && wbl tx ws L.2.1 ws.length 0
def wMod : List Nat := [109, 111, 100, 117, 108, 101]
def wMap : List Nat := [109, 97, 112]
def wT : List Nat := [116]
def wOK (c : Nat) (ws : List Nat) : Prop := (SP < c ∧ c < SP + 4) ∧ slen c = ws.length ∧ ws.length < 10 ∧ ∀ i, i < ws.length → schr c i = nI (ws.getD i 0) ∧ ws.getD i 0 < 256
theorem wMod_ok : wOK 1000000001 wMod := ⟨by decide, rfl, by decide, fun i hi => by
  have hi : i < 6 := hi
  rcases (show i = 0 ∨ i = 1 ∨ i = 2 ∨ i = 3 ∨ i = 4 ∨ i = 5 by omega) with rfl | rfl | rfl | rfl | rfl | rfl <;> exact ⟨rfl, by decide⟩⟩
theorem wMap_ok : wOK 1000000002 wMap := ⟨by decide, rfl, by decide, fun i hi => by
  have hi : i < 3 := hi
  rcases (show i = 0 ∨ i = 1 ∨ i = 2 by omega) with rfl | rfl | rfl <;> exact ⟨rfl, by decide⟩⟩
theorem wT_ok : wOK 1000000003 wT := ⟨by decide, rfl, by decide, fun i hi => by
  have hi : i < 1 := hi
  have e : i = 0 := by omega
  subst e
  exact ⟨rfl, by decide⟩⟩
def failS (s : PS) (v : Nat) : PS := (sL s, sK s, sS s, v, (sL s).2.1)
def stepS (tx : Nat → Nat) (len : Nat) (s : PS) : PS := (stp tx len (sL s), sK s, sS s, sF s, sA s)
def wk (w : Bool) (s : PS) : Bool := w && !(sK s)
def putS (w : Bool) (s : PS) (t i x : Nat) : PS := if wk w s = true then (sL s, sK s, upR (sS s) t (fun k => if k = i then x else 0), sF s, sA s) else s
def addS (w : Bool) (q : Nat) (s : PS) (t : Nat) (less : Bool) : PS := if wk w s = true then (sL s, sK s, upR (sS s) t (fun k => cmb q (if less = true then q - 1 else 1) 13 (sS s t k) (sS s (t + 1) k)), sF s, sA s) else s
def mulS (w : Bool) (q m d : Nat) (s : PS) (t : Nat) : PS := if wk w s = true then
    (if 0 < rl (sS s t) 25 ∧ 0 < rl (sS s (t + 1)) 25 ∧ 26 < rl (sS s t) 25 + rl (sS s (t + 1)) 25 then (sL s, true, sS s, sF s, sA s) else (sL s, sK s, upR (sS s) t (cv q m d (sS s t) (sS s (t + 1))), sF s, sA s)) else s
def turnS (w : Bool) (q : Nat) (s : PS) (t : Nat) : PS := if wk w s = true then (sL s, sK s, upR (upR (sS s) (t + 1) (sS s t)) t (fun k => cmb q (q - 1) 13 0 (sS s t k)), sF s, sA s) else s
def rsl (w : Bool) (q m d t : Nat) : Nat → PS → PS
  | 0, s => s
  | f + 1, s => rsl w q m d t f (mulS w q m d s t)
def raiseS (w : Bool) (q m d : Nat) (s : PS) (t p : Nat) : PS := if wk w s = true then rsl w q m d t p (sL s, sK s, upR (upR (sS s) (t + 1) (sS s t)) t (r1 1), sF s, sA s) else s
def numS (w : Bool) (n : Nat) (s : PS) : PS := if w = true ∧ n ≤ (sL s).2.2.1 then (sL s, true, sS s, sF s, sA s) else s
theorem upR_ne {f : Nat → Nat → Nat} {j i : Nat} {r : Nat → Nat} (h : i ≠ j) : upR f j r i = f i := if_neg h
theorem upR_eq {f : Nat → Nat → Nat} {j : Nat} {r : Nat → Nat} : upR f j r j = r := if_pos rfl
section RD2
variable {G : GC} {e q m d n g c len nC : Nat} {tx : Nat → Nat} {w : Bool} {s : PS} {mi : Nat → Nat → Int32} {ml : Nat → Nat → Int64} {y : Nat → Nat → Option Nat}
theorem RE.c_out (h : RE q m d n g c len tx w nC s mi) : 94 < c := by have := h.2.1.2.2.1; omega
theorem Rdm.step {mi1 : Nat → Nat → Int32} {L : Lx} (h : Rdm c len w nC s mi) (ho : ∀ o, o ≠ 73 → mi1 o = mi o) (hk : ∀ k, k ≠ 7 → k ≠ 8 → k ≠ 9 → k ≠ 10 → mi1 73 k = mi 73 k) (hL : RL c len L mi1) (hl : Lok len L) : Rdm c len w nC (L, sK s, sS s, sF s, sA s) mi1 := by
  obtain ⟨h1, h2, h5, h6, h11, h12, h13, hr⟩ := h
  exact ⟨hL, hl, by rw [hk 5 (by omega) (by omega) (by omega) (by omega)]; exact h5, by rw [hk 6 (by omega) (by omega) (by omega) (by omega)]; exact h6, by rw [hk 11 (by omega) (by omega) (by omega) (by omega)]; exact h11, by rw [hk 12 (by omega) (by omega) (by omega) (by omega)]; exact h12, by rw [hk 13 (by omega) (by omega) (by omega) (by omega)]; exact h13, fun i hi => (hr i hi).off (ho _ (by omega))⟩
theorem Rdm.rows {mi1 : Nat → Nat → Int32} {S : Nat → Nat → Nat} (h : Rdm c len w nC s mi) (h73 : mi1 73 = mi 73) (hr : ∀ i, i < 20 → Rw 128 mi1 (75 + i) (S i)) : Rdm c len w nC (sL s, sK s, S, sF s, sA s) mi1 := by
  obtain ⟨h1, h2, h5, h6, h11, h12, h13, -⟩ := h
  unfold RL at h1
  rw [← h73] at h1 h5 h6 h11 h12 h13
  exact ⟨h1, h2, h5, h6, h11, h12, h13, hr⟩
theorem Rdm.stuck {b : Bool} (h : Rdm c len w nC s mi) : Rdm c len w nC (sL s, b, sS s, sF s, sA s) (u2 mi 73 6 (nI (bi b))) := by
  obtain ⟨⟨r3, r4, r7, r8, r9, r10⟩, h2, h5, h6, h11, h12, h13, hr⟩ := h
  exact ⟨⟨by rw [u2_ne (by decide)]; exact r3, by rw [u2_ne (by decide)]; exact r4, by rw [u2_ne (by decide)]; exact r7, by rw [u2_ne (by decide)]; exact r8, by rw [u2_ne (by decide)]; exact r9, by rw [u2_ne (by decide)]; exact r10⟩, h2, by rw [u2_ne (by decide)]; exact h5, u2_at, by rw [u2_ne (by decide)]; exact h11, by rw [u2_ne (by decide)]; exact h12, by rw [u2_ne (by decide)]; exact h13, fun i hi => (hr i hi).off (u2_off (by omega))⟩
theorem Rdm.fail {v : Nat} (h : Rdm c len w nC s mi) (hv : v ≠ 0) : Rdm c len w nC (failS s v) (u2 (u2 mi 73 12 (nI v)) 73 13 ((u2 mi 73 12 (nI v)) 73 9)) := by
  obtain ⟨⟨r3, r4, r7, r8, r9, r10⟩, h2, h5, h6, h11, h12, h13, hr⟩ := h
  have go : ∀ k, k ≠ 12 → k ≠ 13 → u2 (u2 mi 73 12 (nI v)) 73 13 ((u2 mi 73 12 (nI v)) 73 9) 73 k = mi 73 k := fun k a b => by rw [u2_ne b, u2_ne a]
  refine ⟨⟨by rw [go 3 (by omega) (by omega)]; exact r3, by rw [go 4 (by omega) (by omega)]; exact r4, by rw [go 7 (by omega) (by omega)]; exact r7, by rw [go 8 (by omega) (by omega)]; exact r8, by rw [go 9 (by omega) (by omega)]; exact r9, by rw [go 10 (by omega) (by omega)]; exact r10⟩, h2, by rw [go 5 (by omega) (by omega)]; exact h5, by rw [go 6 (by omega) (by omega)]; exact h6, by rw [go 11 (by omega) (by omega)]; exact h11, by rw [u2_ne (by decide), u2_at]; rfl, ?_, fun i hi => (hr i hi).off (by rw [u2_off (by omega), u2_off (by omega)])⟩
  rw [u2_at, u2_ne (by decide), r9]
  show _ = (if v = 0 then _ else _)
  rw [if_neg hv]
  rfl
theorem RE.off (h : RE q m d n g c len tx w nC s mi) {s1 : PS} {nC1 : Nat} {mi1 : Nat → Nat → Int32} (ho : offR mi mi1) (h1 : Rdm c len w nC1 s1 mi1) : RE q m d n g c len tx w nC1 s1 mi1 :=
  ⟨h.1.off (fun o o1 o2 => ho o (by omega)), h.2.1.off (ho c (by have := h.c_out; omega)), h1⟩
theorem p_stepR (h : RE q m d n g c len tx w nC s mi) {K : (Nat → Nat → Int32) → (Nat → Nat → Int64) → Prop} (hK : ∀ mi1, offR mi mi1 → RE q m d n g c len tx w nC (stepS tx len s) mi1 → K mi1 ml) : wpV G e 154 m_X4_step [.ref 73] (mi, ml, RX y) K := by
  obtain ⟨hL, hl, -⟩ := h.2.2
  refine p_step mi h.2.1 hL ⟨hl.2.2.2, hl.2.2.1⟩ (fun mi1 ho hk h1 => ?_)
  have ho2 : offR mi mi1 := fun o oo => ho o (by omega)
  exact hK mi1 ho2 (h.off ho2 (h.2.2.step ho hk h1 (stp_ok h.2.1.2.2.2.2.1 hl)))
theorem p_fail (h : RE q m d n g c len tx w nC s mi) {v : Nat} (hv : v ≠ 0) {K : Int32 → (Nat → Nat → Int32) → (Nat → Nat → Int64) → Prop} (hK : ∀ mi1, offR mi mi1 → RE q m d n g c len tx w nC (failS s v) mi1 → K (nI 0) mi1 ml) : wpI G e 154 m_X4_fail [.ref 73, .int (nI v)] (mi, ml, RX y) K := by
  apply e_X4_fail
  have ho : offR mi (u2 (u2 mi 73 12 (nI v)) 73 13 ((u2 mi 73 12 (nI v)) 73 9)) := fun o oo => by rw [u2_off (by omega), u2_off (by omega)]
  exact ⟨Or.inl rfl, hK _ ho (h.off ho (h.2.2.fail hv))⟩
theorem p_expect (h : RE q m d n g c len tx w nC s mi) {v : Nat} (hv : v < 256) {K : Int32 → (Nat → Nat → Int32) → (Nat → Nat → Int64) → Prop}
    (hK1 : (sL s).1 = v → ∀ mi1, offR mi mi1 → RE q m d n g c len tx w nC (stepS tx len s) mi1 → K (nI 1) mi1 ml) (hK0 : (sL s).1 ≠ v → ∀ mi1, offR mi mi1 → RE q m d n g c len tx w nC (failS s 1) mi1 → K (nI 0) mi1 ml) :
    wpI G e 154 m_X4_expect [.ref 73, .int (nI v)] (mi, ml, RX y) K := by
  have h8 : mi 73 8 = nI (sL s).1 := h.2.2.1.2.2.2.1
  have hlt := h.2.2.2.1.1
  apply e_X4_expect
  rw [h8]
  simp (disch := omega) only [s_le, s_lt, s_eq, s_eq0, s_in, s_ix, s_rm, s_div, s_pdlt, s_pdle, s_lepd, s_pdpd, s_pdlepd, s_pdadd, nI_add, pk_mul, pd_succ, Nat.not_lt_zero, Nat.zero_lt_succ, not_false_eq_true, not_true_eq_false, false_implies, true_implies, implies_true, and_true, true_and, Nat.reduceLT, Nat.reduceLeDiff, Nat.reduceAdd, Nat.reduceSub, Nat.zero_add, Nat.add_zero]
  refine ⟨fun z => p_stepR h (fun mi1 ho h1 => ⟨Or.inr rfl, hK1 z mi1 ho h1⟩), fun z => p_fail h (by decide) (fun mi1 ho h1 => ⟨Or.inl rfl, hK0 z mi1 ho h1⟩)⟩
theorem p_isWord_loop (h : RE q m d n g c len tx w nC s mi) {cw : Nat} {ws : List Nat} (hw : wOK cw ws) (hn : (sL s).2.2.2 - (sL s).2.1 = ws.length) {K : Int32 → (Nat → Nat → Int32) → (Nat → Nat → Int64) → Prop} :
    ∀ (r i : Nat), r + i = ws.length → K (nI (if wbl tx ws (sL s).2.1 r i = true then 1 else 0)) mi ml → wp G e tX m_X4_isWord 28 [(0, .ref 73), (1, .ref cw), (2, .int (nI i))] [] (mi, ml, RX y) (QI K) := by
  obtain ⟨w1, w2, w3, w4⟩ := hw
  obtain ⟨⟨r3, r4, r7, r8, r9, r10⟩, hl, -⟩ := h.2.2
  have hlen := h.2.1.2.2.2.1
  have ht := h.2.1.2.2.2.2.1
  intro r
  induction r with
  | zero =>
    intro i hr hK
    apply b_X4_isWord_28
    rw [w2]
    simp (disch := omega) only [s_le, s_lt, s_eq, s_eq0, s_in, s_ix, s_rm, s_div, s_pdlt, s_pdle, s_lepd, s_pdpd, s_pdlepd, s_pdadd, nI_add, pk_mul, pd_succ, Nat.not_lt_zero, Nat.zero_lt_succ, not_false_eq_true, not_true_eq_false, false_implies, true_implies, implies_true, and_true, true_and, Nat.reduceLT, Nat.reduceLeDiff, Nat.reduceAdd, Nat.reduceSub, Nat.zero_add, Nat.add_zero]
    exact ⟨w1, fun _ => ⟨Or.inr rfl, hK⟩, fun z => absurd (show ws.length ≤ i by omega) z⟩
  | succ r ih =>
    intro i hr hK
    obtain ⟨l1, l2, l3, l4⟩ := hl
    obtain ⟨x1, x2⟩ := w4 i (by omega)
    have htp := ht ((sL s).2.1 + i)
    unfold wbl at hK
    apply b_X4_isWord_28
    rw [w2, r9]
    simp (disch := omega) only [s_le, s_lt, s_eq, s_eq0, s_in, s_ix, s_rm, s_div, s_pdlt, s_pdle, s_lepd, s_pdpd, s_pdlepd, s_pdadd, nI_add, pk_mul, pd_succ, Nat.not_lt_zero, Nat.zero_lt_succ, not_false_eq_true, not_true_eq_false, false_implies, true_implies, implies_true, and_true, true_and, Nat.reduceLT, Nat.reduceLeDiff, Nat.reduceAdd, Nat.reduceSub, Nat.zero_add, Nat.add_zero]
    refine ⟨w1, fun z => absurd z (by omega), fun _ => p_byteAt r3 r4 h.2.1 (by omega) (fun z => absurd z (by omega)) (fun _ => ⟨w1, by omega, ?_⟩)⟩
    rw [x1]
    simp (disch := omega) only [s_le, s_lt, s_eq, s_eq0, s_in, s_ix, s_rm, s_div, s_pdlt, s_pdle, s_lepd, s_pdpd, s_pdlepd, s_pdadd, nI_add, pk_mul, pd_succ, Nat.not_lt_zero, Nat.zero_lt_succ, not_false_eq_true, not_true_eq_false, false_implies, true_implies, implies_true, and_true, true_and, Nat.reduceLT, Nat.reduceLeDiff, Nat.reduceAdd, Nat.reduceSub, Nat.zero_add, Nat.add_zero]
    refine ⟨fun z => ?_, fun z => ⟨Or.inl rfl, ?_⟩⟩
    · rw [if_pos z] at hK
      exact ih (i + 1) (by omega) hK
    · rw [if_neg z, if_neg Bool.false_ne_true] at hK
      exact hK
theorem p_isWord (h : RE q m d n g c len tx w nC s mi) {cw : Nat} {ws : List Nat} (hw : wOK cw ws) {K : Int32 → (Nat → Nat → Int32) → (Nat → Nat → Int64) → Prop} (hK : K (nI (if isw tx (sL s) ws = true then 1 else 0)) mi ml) : wpI G e 154 m_X4_isWord [.ref 73, .ref cw] (mi, ml, RX y) K := by
  obtain ⟨⟨r3, r4, r7, r8, r9, r10⟩, hl, -⟩ := h.2.2
  obtain ⟨l1, l2, l3, l4⟩ := id hl
  have hlen := h.2.1.2.2.2.1
  have w3 := hw.2.2.1
  unfold isw at hK
  apply e_X4_isWord
  rw [r8, r7, r9, s_sub l2, hw.2.1]
  simp (disch := omega) only [s_le, s_lt, s_eq, s_eq0, s_in, s_ix, s_rm, s_div, s_pdlt, s_pdle, s_lepd, s_pdpd, s_pdlepd, s_pdadd, nI_add, pk_mul, pd_succ, Nat.not_lt_zero, Nat.zero_lt_succ, not_false_eq_true, not_true_eq_false, false_implies, true_implies, implies_true, and_true, true_and, Nat.reduceLT, Nat.reduceLeDiff, Nat.reduceAdd, Nat.reduceSub, Nat.zero_add, Nat.add_zero]
  refine ⟨fun z => ⟨Or.inl rfl, ?_⟩, fun z => ⟨hw.1, fun z2 => ?_, fun z2 => ⟨Or.inl rfl, ?_⟩⟩⟩
  · rw [decide_eq_false (fun a => z a.1), Bool.false_and, if_neg Bool.false_ne_true] at hK
    exact hK
  · rw [decide_eq_true ⟨z, z2⟩, Bool.true_and] at hK
    exact p_isWord_loop h hw z2 ws.length 0 rfl hK
  · rw [decide_eq_false (fun a => z2 a.2), Bool.false_and, if_neg Bool.false_ne_true] at hK
    exact hK
theorem p_clauseKind (h : RE q m d n g c len tx w nC s mi) {K : Int32 → (Nat → Nat → Int32) → (Nat → Nat → Int64) → Prop}
    (hK : K (if isw tx (sL s) wMod = true then nI 1 else if isw tx (sL s) wMap = true then nI 2 else -(nI 1)) mi ml) : wpI G e 154 m_X4_clauseKind [.ref 73] (mi, ml, RX y) K := by
  apply e_X4_clauseKind
  refine p_isWord h wMod_ok ?_
  by_cases c1 : isw tx (sL s) wMod = true
  · rw [if_pos c1] at hK ⊢
    exact ⟨fun z => absurd z (by decide), fun _ => hK⟩
  · rw [if_neg c1] at hK ⊢
    refine ⟨fun _ => p_isWord h wMap_ok ?_, fun z => absurd rfl z⟩
    by_cases c2 : isw tx (sL s) wMap = true
    · rw [if_pos c2] at hK ⊢
      exact ⟨fun z => absurd z (by decide), fun _ => hK⟩
    · rw [if_neg c2] at hK ⊢
      exact ⟨fun _ => hK, fun z => absurd rfl z⟩
theorem bi_ne (b : Bool) : (¬ nI (bi b) = nI 0) ↔ b = true := by
  cases b
  · exact ⟨fun z => absurd rfl z, fun z => absurd z Bool.false_ne_true⟩
  · exact ⟨fun _ => rfl, fun _ => by decide⟩
theorem p_isWorking (h : RE q m d n g c len tx w nC s mi) {t : Nat} (ht : t ≤ 18) {K : Int32 → (Nat → Nat → Int32) → (Nat → Nat → Int64) → Prop} (hK : K (nI (bi (wk w s))) mi ml) : wpI G e 154 m_X4_isWorking [.ref 73, .int (nI t)] (mi, ml, RX y) K := by
  obtain ⟨-, -, h5, h6, -⟩ := h.2.2
  unfold wk at hK
  apply e_X4_isWorking
  rw [h5, h6]
  have key : ¬ nI t < nI 0 ∧ ¬ nI 20 ≤ nI t + nI 1 := by
    rw [nI_add, s_lt (by omega) (by omega), s_le (by omega) (by omega)]
    omega
  cases hw : w
  · rw [hw] at hK
    exact ⟨fun _ => ⟨Or.inl rfl, hK⟩, fun z => absurd rfl z⟩
  · refine ⟨fun z => absurd z (by decide), fun _ => ?_⟩
    rw [hw] at hK
    cases hk : sK s
    · rw [hk] at hK
      exact ⟨fun z => absurd rfl z, fun _ => ⟨fun z => absurd z key.1, fun _ => ⟨fun z => absurd z key.2, fun _ => ⟨Or.inr rfl, hK⟩⟩⟩⟩
    · rw [hk] at hK
      exact ⟨fun _ => ⟨Or.inl rfl, hK⟩, fun z => absurd z (by decide)⟩
end RD2
