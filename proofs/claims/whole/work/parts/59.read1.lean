/-! class Reader: bytes and tokens -/
def isD (v : Nat) : Prop := 48 ≤ v ∧ v ≤ 57
def isL (v : Nat) : Prop := (97 ≤ v ∧ v ≤ 122) ∨ (65 ≤ v ∧ v ≤ 90)
def isS (v : Nat) : Prop := v = 43 ∨ v = 45 ∨ v = 42 ∨ v = 94 ∨ v = 40 ∨ v = 41 ∨ v = 59
def bD (v : Nat) : Bool := decide (48 ≤ v ∧ v ≤ 57)
def bL (v : Nat) : Bool := decide ((97 ≤ v ∧ v ≤ 122) ∨ (65 ≤ v ∧ v ≤ 90))
def bS (v : Nat) : Bool := decide (v = 43 ∨ v = 45 ∨ v = 42 ∨ v = 94 ∨ v = 40 ∨ v = 41 ∨ v = 59)
def bW (v : Nat) : Bool := decide (v = 32 ∨ v = 10)
def skp (tx : Nat → Nat) (len : Nat) : Nat → Nat → Nat
  | 0, p => p
  | f + 1, p => if len ≤ p then p else if bW (tx p) = true then skp tx len f (p + 1) else p
def lte (tx : Nat → Nat) (len : Nat) : Nat → Nat → Nat
  | 0, p => p
  | f + 1, p => if len ≤ p then p else if bL (tx p) = true then lte tx len f (p + 1) else p
def nme (tx : Nat → Nat) (len : Nat) : Nat → Nat → Nat → Nat × Nat
  | 0, p, v => (v, p)
  | f + 1, p, v => if len ≤ p then (v, p) else if bD (tx p) = true then nme tx len f (p + 1) (min 10000 (v * 10 + tx p - 48)) else (v, p)
/-- (token, place, number, next) -/
abbrev Lx : Type := Nat × Nat × Nat × Nat
/-- the token at p, blanks gone; v the number ahead -/
def tkn (tx : Nat → Nat) (len p v : Nat) : Lx := if len ≤ p then (0, p, v, p) else if bD (tx p) = true then (2, p, (nme tx len (len - p) p 0).1, (nme tx len (len - p) p 0).2)
  else if bL (tx p) = true then (3, p, v, lte tx len (len - p) p) else if bS (tx p) = true then (tx p, p, v, p + 1) else (1, p, v, p + 1)
def stp (tx : Nat → Nat) (len : Nat) (L : Lx) : Lx := tkn tx len (skp tx len (len - L.2.2.2) L.2.2.2) L.2.2.1
theorem skp_le {tx : Nat → Nat} {len : Nat} : ∀ f p, p ≤ len → p ≤ skp tx len f p ∧ skp tx len f p ≤ len
  | 0, p, h => ⟨Nat.le_refl p, h⟩
  | f + 1, p, h => by
    unfold skp
    split
    · exact ⟨Nat.le_refl p, h⟩
    split
    · have := skp_le (tx := tx) (len := len) f (p + 1) (by omega)
      omega
    · exact ⟨Nat.le_refl p, h⟩
theorem lte_le {tx : Nat → Nat} {len : Nat} : ∀ f p, p ≤ len → p ≤ lte tx len f p ∧ lte tx len f p ≤ len
  | 0, p, h => ⟨Nat.le_refl p, h⟩
  | f + 1, p, h => by
    unfold lte
    split
    · exact ⟨Nat.le_refl p, h⟩
    split
    · have := lte_le (tx := tx) (len := len) f (p + 1) (by omega)
      omega
    · exact ⟨Nat.le_refl p, h⟩
theorem nme_le {tx : Nat → Nat} {len : Nat} : ∀ f p v, p ≤ len → v ≤ 10000 → p ≤ (nme tx len f p v).2 ∧ (nme tx len f p v).2 ≤ len ∧ (nme tx len f p v).1 ≤ 10000
  | 0, p, v, h, hv => ⟨Nat.le_refl p, h, hv⟩
  | f + 1, p, v, h, hv => by
    unfold nme
    split
    · exact ⟨Nat.le_refl p, h, hv⟩
    split
    · have := nme_le (tx := tx) (len := len) f (p + 1) (min 10000 (v * 10 + tx p - 48)) (by omega) (by omega)
      omega
    · exact ⟨Nat.le_refl p, h, hv⟩
def Lok (len : Nat) (L : Lx) : Prop := L.1 < 256 ∧ L.2.1 ≤ L.2.2.2 ∧ L.2.2.1 ≤ 10000 ∧ L.2.2.2 ≤ len
theorem tkn_ok {tx : Nat → Nat} {len p v : Nat} (ht : ∀ i, tx i < 256) (hp : p ≤ len) (hv : v ≤ 10000) : Lok len (tkn tx len p v) := by
  unfold tkn
  split
  · exact ⟨by show 0 < 256; omega, Nat.le_refl p, hv, hp⟩
  split
  · have := nme_le (tx := tx) (len - p) p 0 hp (by omega)
    exact ⟨by show 2 < 256; omega, this.1, this.2.2, this.2.1⟩
  split
  · have := lte_le (tx := tx) (len - p) p hp
    exact ⟨by show 3 < 256; omega, this.1, hv, this.2⟩
  split
  · exact ⟨ht p, by show p ≤ p + 1; omega, hv, by show p + 1 ≤ len; omega⟩
  · exact ⟨by show 1 < 256; omega, by show p ≤ p + 1; omega, hv, by show p + 1 ≤ len; omega⟩
theorem stp_ok {tx : Nat → Nat} {len : Nat} {L : Lx} (ht : ∀ i, tx i < 256) (h : Lok len L) : Lok len (stp tx len L) := tkn_ok ht (skp_le _ _ h.2.2.2).2 h.2.2.1
/-- the cell of a text, its bytes -/
def Tx (c len : Nat) (tx : Nat → Nat) (mi : Nat → Nat → Int32) : Prop := isR c ∧ an c = 300 ∧ 96 < c ∧ len ≤ 300 ∧ (∀ i, tx i < 256) ∧ ∀ i, i < len → mi c i = nI (tx i)
/-- the reader's text and place -/
def RL (c len : Nat) (L : Lx) (mi : Nat → Nat → Int32) : Prop := mi 73 3 = nI c ∧ mi 73 4 = nI len ∧ mi 73 7 = nI L.2.2.2 ∧ mi 73 8 = nI L.1 ∧ mi 73 9 = nI L.2.1 ∧ mi 73 10 = nI L.2.2.1
section RD1
variable {G : GC} {e c len : Nat} {tx : Nat → Nat} {mi : Nat → Nat → Int32} {ml : Nat → Nat → Int64} {y : Nat → Nat → Option Nat}
theorem Tx.off {mi1 : Nat → Nat → Int32} (h : Tx c len tx mi) (ho : mi1 c = mi c) : Tx c len tx mi1 := by
  unfold Tx at h ⊢
  rw [ho]
  exact h
theorem p_isDigit {v : Nat} (hv : v < 2 ^ 31) {K : Int32 → (Nat → Nat → Int32) → (Nat → Nat → Int64) → Prop} (hK : K (nI (if bD v = true then 1 else 0)) mi ml) : wpI G e 154 m_X4_isDigit [.int (nI v)] (mi, ml, RX y) K := by
  unfold bD at hK
  apply e_X4_isDigit
  simp (disch := omega) only [s_le, s_lt, s_eq, s_eq0, s_in, s_ix, s_rm, s_div, s_pdlt, s_pdle, s_lepd, s_pdpd, s_pdlepd, s_pdadd, nI_add, pk_mul, pd_succ, Nat.not_lt_zero, Nat.zero_lt_succ, not_false_eq_true, not_true_eq_false, false_implies, true_implies, implies_true, and_true, true_and, Nat.reduceLT, Nat.reduceLeDiff, Nat.reduceAdd, Nat.reduceSub, Nat.zero_add, Nat.add_zero]
  refine ⟨fun a => ⟨Or.inl rfl, ?_⟩, fun a => ⟨fun b => ⟨Or.inl rfl, ?_⟩, fun b => ⟨Or.inr rfl, ?_⟩⟩⟩
  · rw [if_neg (by rw [decide_eq_true_eq]; omega)] at hK; exact hK
  · rw [if_neg (by rw [decide_eq_true_eq]; omega)] at hK; exact hK
  · rw [if_pos (by rw [decide_eq_true_eq]; omega)] at hK; exact hK
theorem p_isLetter {v : Nat} (hv : v < 2 ^ 31) {K : Int32 → (Nat → Nat → Int32) → (Nat → Nat → Int64) → Prop} (hK : K (nI (if bL v = true then 1 else 0)) mi ml) : wpI G e 154 m_X4_isLetter [.int (nI v)] (mi, ml, RX y) K := by
  unfold bL at hK
  have h0 : ¬ ((97 ≤ v ∧ v ≤ 122) ∨ (65 ≤ v ∧ v ≤ 90)) → isB (nI 0) ∧ K (nI 0) mi ml := fun z => by
    rw [if_neg (by rw [decide_eq_true_eq]; exact z)] at hK; exact ⟨Or.inl rfl, hK⟩
  have h1 : ((97 ≤ v ∧ v ≤ 122) ∨ (65 ≤ v ∧ v ≤ 90)) → isB (nI 1) ∧ K (nI 1) mi ml := fun z => by
    rw [if_pos (by rw [decide_eq_true_eq]; exact z)] at hK; exact ⟨Or.inr rfl, hK⟩
  apply e_X4_isLetter
  simp (disch := omega) only [s_le, s_lt, s_eq, s_eq0, s_in, s_ix, s_rm, s_div, s_pdlt, s_pdle, s_lepd, s_pdpd, s_pdlepd, s_pdadd, nI_add, pk_mul, pd_succ, Nat.not_lt_zero, Nat.zero_lt_succ, not_false_eq_true, not_true_eq_false, false_implies, true_implies, implies_true, and_true, true_and, Nat.reduceLT, Nat.reduceLeDiff, Nat.reduceAdd, Nat.reduceSub, Nat.zero_add, Nat.add_zero]
  exact ⟨fun a => ⟨fun b => h0 (by omega), fun b => ⟨fun d => h0 (by omega), fun d => h1 (by omega)⟩⟩, fun a => ⟨fun b => h1 (by omega), fun b => ⟨fun d => h0 (by omega), fun d => ⟨fun f => h0 (by omega), fun f => h1 (by omega)⟩⟩⟩⟩
theorem p_isSign {v : Nat} (hv : v < 2 ^ 31) {K : Int32 → (Nat → Nat → Int32) → (Nat → Nat → Int64) → Prop} (hK : K (nI (if bS v = true then 1 else 0)) mi ml) : wpI G e 154 m_X4_isSign [.int (nI v)] (mi, ml, RX y) K := by
  unfold bS at hK
  have h0 : ¬ (v = 43 ∨ v = 45 ∨ v = 42 ∨ v = 94 ∨ v = 40 ∨ v = 41 ∨ v = 59) → isB (nI 0) ∧ K (nI 0) mi ml := fun z => by
    rw [if_neg (by rw [decide_eq_true_eq]; exact z)] at hK; exact ⟨Or.inl rfl, hK⟩
  have h1 : (v = 43 ∨ v = 45 ∨ v = 42 ∨ v = 94 ∨ v = 40 ∨ v = 41 ∨ v = 59) → isB (nI 1) ∧ K (nI 1) mi ml := fun z => by
    rw [if_pos (by rw [decide_eq_true_eq]; exact z)] at hK; exact ⟨Or.inr rfl, hK⟩
  apply e_X4_isSign
  simp (disch := omega) only [s_le, s_lt, s_eq, s_eq0, s_in, s_ix, s_rm, s_div, s_pdlt, s_pdle, s_lepd, s_pdpd, s_pdlepd, s_pdadd, nI_add, pk_mul, pd_succ, Nat.not_lt_zero, Nat.zero_lt_succ, not_false_eq_true, not_true_eq_false, false_implies, true_implies, implies_true, and_true, true_and, Nat.reduceLT, Nat.reduceLeDiff, Nat.reduceAdd, Nat.reduceSub, Nat.zero_add, Nat.add_zero]
  exact ⟨fun a => h1 (by omega), fun a => ⟨fun a => h1 (by omega), fun a => ⟨fun a => h1 (by omega), fun a => ⟨fun a => h1 (by omega), fun a => ⟨fun a => h1 (by omega), fun a => ⟨fun a => h1 (by omega), fun a => ⟨fun a => h0 (by omega), fun a => h1 (by omega)⟩⟩⟩⟩⟩⟩⟩
theorem p_byteAt (h3 : mi 73 3 = nI c) (h4 : mi 73 4 = nI len) (hT : Tx c len tx mi) {i : Nat} (hi : i < 2 ^ 31) {K : Int32 → (Nat → Nat → Int32) → (Nat → Nat → Int64) → Prop}
    (hK0 : len ≤ i → K (-(nI 1)) mi ml) (hK1 : i < len → K (nI (tx i)) mi ml) : wpI G e 154 m_X4_byteAt [.ref 73, .int (nI i)] (mi, ml, RX y) K := by
  obtain ⟨hr, h300, h96, hl, ht, hb⟩ := hT
  have hr2 := hr.1.2
  have hsp : c < SP := Nat.lt_trans hr2 (by decide)
  apply e_X4_byteAt
  rw [h3, h4, s_ix (by omega), h300]
  simp (disch := omega) only [s_le, s_lt, s_eq, s_eq0, s_in, s_ix, s_rm, s_div, s_pdlt, s_pdle, s_lepd, s_pdpd, s_pdlepd, s_pdadd, nI_add, pk_mul, pd_succ, Nat.not_lt_zero, Nat.zero_lt_succ, not_false_eq_true, not_true_eq_false, false_implies, true_implies, implies_true, and_true, true_and, Nat.reduceLT, Nat.reduceLeDiff, Nat.reduceAdd, Nat.reduceSub, Nat.zero_add, Nat.add_zero]
  refine ⟨hK0, fun z => ⟨⟨by omega, hsp⟩, hr.1, fun _ => ⟨⟨by omega, hsp⟩, hr.1, ?_⟩, fun z2 => absurd (show i < 300 by omega) z2⟩⟩
  have hin : vp_in (nI i) 300 := by
    rw [s_in (by omega)]
    omega
  rw [hb i (by omega)]
  first | exact ⟨hin, hK1 (by omega)⟩ | exact ⟨by omega, hK1 (by omega)⟩
theorem p_letters (hK0 : True) {L : Lx} (mi0 : Nat → Nat → Int32) (hT : Tx c len tx mi0) {K : (Nat → Nat → Int32) → (Nat → Nat → Int64) → Prop} {tk pl nm : Nat} :
    ∀ (f p : Nat) (mi : Nat → Nat → Int32), f + p = len → (∀ o, o ≠ 73 → mi o = mi0 o) → (∀ k, k ≠ 7 → k ≠ 8 → k ≠ 9 → k ≠ 10 → mi 73 k = mi0 73 k) → RL c len (tk, pl, nm, p) mi →
      (∀ mi1, (∀ o, o ≠ 73 → mi1 o = mi0 o) → (∀ k, k ≠ 7 → k ≠ 8 → k ≠ 9 → k ≠ 10 → mi1 73 k = mi0 73 k) → RL c len (tk, pl, nm, lte tx len f p) mi1 → K mi1 ml) →
      wp G e tX m_X4_step 110 [(0, .ref 73)] [] (mi, ml, RX y) (QV K) := by
  have hl := hT.2.2.2.1
  have ht := hT.2.2.2.2.1
  have h96 := hT.2.2.1
  intro f
  induction f with
  | zero =>
    intro p mi hf ho hk h hK
    obtain ⟨r3, r4, r7, r8, r9, r10⟩ := id h
    have r7 : mi 73 7 = nI p := r7
    apply b_X4_step_110
    rw [r4, r7]
    simp (disch := omega) only [s_le, s_lt, s_eq, s_eq0, s_in, s_ix, s_rm, s_div, s_pdlt, s_pdle, s_lepd, s_pdpd, s_pdlepd, s_pdadd, nI_add, pk_mul, pd_succ, Nat.not_lt_zero, Nat.zero_lt_succ, not_false_eq_true, not_true_eq_false, false_implies, true_implies, implies_true, and_true, true_and, Nat.reduceLT, Nat.reduceLeDiff, Nat.reduceAdd, Nat.reduceSub, Nat.zero_add, Nat.add_zero]
    exact ⟨fun _ => hK mi ho hk h, fun z => absurd (show len ≤ p by omega) z⟩
  | succ f ih =>
    intro p mi hf ho hk h hK
    obtain ⟨r3, r4, r7, r8, r9, r10⟩ := id h
    have r7 : mi 73 7 = nI p := r7
    have htp := ht p
    unfold lte at hK
    rw [if_neg (by omega)] at hK
    apply b_X4_step_110
    rw [r4, r7]
    simp (disch := omega) only [s_le, s_lt, s_eq, s_eq0, s_in, s_ix, s_rm, s_div, s_pdlt, s_pdle, s_lepd, s_pdpd, s_pdlepd, s_pdadd, nI_add, pk_mul, pd_succ, Nat.not_lt_zero, Nat.zero_lt_succ, not_false_eq_true, not_true_eq_false, false_implies, true_implies, implies_true, and_true, true_and, Nat.reduceLT, Nat.reduceLeDiff, Nat.reduceAdd, Nat.reduceSub, Nat.zero_add, Nat.add_zero]
    refine ⟨fun z => absurd z (by omega), fun _ => ?_⟩
    refine p_byteAt r3 r4 (hT.off (ho c (by omega))) (by omega) (fun z => absurd z (by omega)) (fun _ => p_isLetter (by omega) ?_)
    by_cases c1 : bL (tx p) = true
    · rw [if_pos c1] at hK ⊢
      refine ⟨fun z => absurd z (by decide), fun _ => ?_⟩
      refine ih (p + 1) _ (by omega) (fun o h => by rw [u2_off h]; exact ho o h) (fun k k7 k8 k9 k10 => by rw [u2_ne k7]; exact hk k k7 k8 k9 k10) ⟨?_, ?_, ?_, ?_, ?_, ?_⟩ hK
      · rw [u2_ne (by decide)]; exact r3
      · rw [u2_ne (by decide)]; exact r4
      · rw [u2_at, r7, nI_add]
      · rw [u2_ne (by decide)]; exact r8
      · rw [u2_ne (by decide)]; exact r9
      · rw [u2_ne (by decide)]; exact r10
    · rw [if_neg c1] at hK ⊢
      exact ⟨fun _ => hK mi ho hk h, fun z => absurd rfl z⟩
theorem p_stepNumber_loop (mi0 : Nat → Nat → Int32) (hT : Tx c len tx mi0) {K : (Nat → Nat → Int32) → (Nat → Nat → Int64) → Prop} {tk pl : Nat} :
    ∀ (f p v : Nat) (mi : Nat → Nat → Int32), f + p = len → v ≤ 10000 → (∀ o, o ≠ 73 → mi o = mi0 o) → (∀ k, k ≠ 7 → k ≠ 8 → k ≠ 9 → k ≠ 10 → mi 73 k = mi0 73 k) → RL c len (tk, pl, v, p) mi →
      (∀ mi1, (∀ o, o ≠ 73 → mi1 o = mi0 o) → (∀ k, k ≠ 7 → k ≠ 8 → k ≠ 9 → k ≠ 10 → mi1 73 k = mi0 73 k) → RL c len (tk, pl, (nme tx len f p v).1, (nme tx len f p v).2) mi1 → K mi1 ml) →
      wp G e tX m_X4_stepNumber 5 [(0, .ref 73)] [] (mi, ml, RX y) (QV K) := by
  have hl := hT.2.2.2.1
  have ht := hT.2.2.2.2.1
  have h96 := hT.2.2.1
  intro f
  induction f with
  | zero =>
    intro p v mi hf hv ho hk h hK
    obtain ⟨r3, r4, r7, r8, r9, r10⟩ := id h
    have r7 : mi 73 7 = nI p := r7
    apply b_X4_stepNumber_5
    rw [r4, r7]
    simp (disch := omega) only [s_le, s_lt, s_eq, s_eq0, s_in, s_ix, s_rm, s_div, s_pdlt, s_pdle, s_lepd, s_pdpd, s_pdlepd, s_pdadd, nI_add, pk_mul, pd_succ, Nat.not_lt_zero, Nat.zero_lt_succ, not_false_eq_true, not_true_eq_false, false_implies, true_implies, implies_true, and_true, true_and, Nat.reduceLT, Nat.reduceLeDiff, Nat.reduceAdd, Nat.reduceSub, Nat.zero_add, Nat.add_zero]
    exact ⟨fun _ => hK mi ho hk h, fun z => absurd (show len ≤ p by omega) z⟩
  | succ f ih =>
    intro p v mi hf hv ho hk h hK
    obtain ⟨r3, r4, r7, r8, r9, r10⟩ := id h
    have r7 : mi 73 7 = nI p := r7
    have htp := ht p
    unfold nme at hK
    rw [if_neg (by omega)] at hK
    apply b_X4_stepNumber_5
    rw [r4, r7]
    simp (disch := omega) only [s_le, s_lt, s_eq, s_eq0, s_in, s_ix, s_rm, s_div, s_pdlt, s_pdle, s_lepd, s_pdpd, s_pdlepd, s_pdadd, nI_add, pk_mul, pd_succ, Nat.not_lt_zero, Nat.zero_lt_succ, not_false_eq_true, not_true_eq_false, false_implies, true_implies, implies_true, and_true, true_and, Nat.reduceLT, Nat.reduceLeDiff, Nat.reduceAdd, Nat.reduceSub, Nat.zero_add, Nat.add_zero]
    refine ⟨fun z => absurd z (by omega), fun _ => ?_⟩
    refine p_byteAt r3 r4 (hT.off (ho c (by omega))) (by omega) (fun z => absurd z (by omega)) (fun _ => p_isDigit (by omega) ?_)
    by_cases c1 : bD (tx p) = true
    · rw [if_pos c1] at hK ⊢
      have c2 : 48 ≤ tx p ∧ tx p ≤ 57 := by
        unfold bD at c1
        rw [decide_eq_true_eq] at c1
        exact c1
      refine ⟨fun z => absurd z (by decide), fun _ => ?_⟩
      rw [r7]
      refine p_byteAt r3 r4 (hT.off (ho c (by omega))) (by omega) (fun z => absurd z (by omega)) (fun _ => ?_)
      have e1 : (if ((((mi 73 10) * (nI 10)) + nI (tx p)) - (nI 48)) < (nI 10000) then ((((mi 73 10) * (nI 10)) + nI (tx p)) - (nI 48)) else (nI 10000)) = nI (min 10000 (v * 10 + tx p - 48)) := by
        have e2 : mi 73 10 = nI v := r10
        have e3 : (nI (v * 10 + tx p - 48) < nI 10000) = (v * 10 + tx p - 48 < 10000) := s_lt (by omega) (by omega)
        rw [e2, pk_mul, nI_add, s_sub (by omega)]
        by_cases z : v * 10 + tx p - 48 < 10000
        · rw [if_pos (by rw [e3]; exact z), Nat.min_eq_right (by omega)]
        · rw [if_neg (by rw [e3]; exact z), Nat.min_eq_left (by omega)]
      rw [e1]
      refine ih (p + 1) _ _ (by omega) (by omega) (fun o h => by rw [u2_off h, u2_off h]; exact ho o h) (fun k k7 k8 k9 k10 => by rw [u2_ne k7, u2_ne k10]; exact hk k k7 k8 k9 k10) ⟨?_, ?_, ?_, ?_, ?_, ?_⟩ hK
      · rw [u2_ne (by decide), u2_ne (by decide)]; exact r3
      · rw [u2_ne (by decide), u2_ne (by decide)]; exact r4
      · rw [u2_at, u2_ne (by decide), r7, nI_add]
      · rw [u2_ne (by decide), u2_ne (by decide)]; exact r8
      · rw [u2_ne (by decide), u2_ne (by decide)]; exact r9
      · rw [u2_ne (by decide), u2_at]
    · rw [if_neg c1] at hK ⊢
      exact ⟨fun _ => hK mi ho hk h, fun z => absurd rfl z⟩
/-- goes to the next token -/
theorem p_step (mi0 : Nat → Nat → Int32) (hT : Tx c len tx mi0) {L : Lx} (h : RL c len L mi0) (hL : L.2.2.2 ≤ len ∧ L.2.2.1 ≤ 10000) {K : (Nat → Nat → Int32) → (Nat → Nat → Int64) → Prop}
    (hK : ∀ mi1, (∀ o, o ≠ 73 → mi1 o = mi0 o) → (∀ k, k ≠ 7 → k ≠ 8 → k ≠ 9 → k ≠ 10 → mi1 73 k = mi0 73 k) → RL c len (stp tx len L) mi1 → K mi1 ml) :
    wpV G e 154 m_X4_step [.ref 73] (mi0, ml, RX y) K := by
  have hl := hT.2.2.2.1
  have ht := hT.2.2.2.2.1
  have h96 := hT.2.2.1
  have tail : ∀ (p : Nat) (mi : Nat → Nat → Int32), p ≤ len → (∀ o, o ≠ 73 → mi o = mi0 o) → (∀ k, k ≠ 7 → k ≠ 8 → k ≠ 9 → k ≠ 10 → mi 73 k = mi0 73 k) → mi 73 3 = nI c → mi 73 4 = nI len → mi 73 7 = nI p → mi 73 10 = nI L.2.2.1 →
      (∀ mi1, (∀ o, o ≠ 73 → mi1 o = mi0 o) → (∀ k, k ≠ 7 → k ≠ 8 → k ≠ 9 → k ≠ 10 → mi1 73 k = mi0 73 k) → RL c len (tkn tx len p L.2.2.1) mi1 → K mi1 ml) →
      (wpI G e 154 m_X4_byteAt [.ref 73, .int ((u2 mi 73 9 (mi 73 7)) 73 7)] ((u2 mi 73 9 (mi 73 7)), ml, (RX y)) (fun r3 mi1 ml2 => (((nI 0) ≤ r3 → (wpI G e 154 m_X4_isDigit [.int r3] (mi1, ml2, (RX y)) (fun r6 mi4 ml5 => ((r6 = (nI 0) → (wpI G e 154 m_X4_isLetter [.int r3] (mi4, ml5, (RX y)) (fun r9 mi7 ml8 => ((r9 = (nI 0) → (wpI G e 154 m_X4_isSign [.int r3] (mi7, ml8, (RX y)) (fun r12 mi10 ml11 => ((r12 = (nI 0) → K (u2 (u2 mi10 73 8 (nI 1)) 73 7 (((u2 mi10 73 8 (nI 1)) 73 7) + (nI 1))) ml11) ∧ (¬ r12 = (nI 0) → K (u2 (u2 mi10 73 8 r3) 73 7 (((u2 mi10 73 8 r3) 73 7) + (nI 1))) ml11))))) ∧ (¬ r9 = (nI 0) → wp G e tX m_X4_step 110 [(0, .ref 73)] [] ((u2 mi7 73 8 (nI 3)), ml8, (RX y)) (QV K)))))) ∧ (¬ r6 = (nI 0) → (wpV G e 154 m_X4_stepNumber [.ref 73] ((u2 mi4 73 8 (nI 2)), ml5, (RX y)) (fun mi13 ml14 => K mi13 ml14))))))) ∧ (¬ (nI 0) ≤ r3 → K (u2 mi1 73 8 (nI 0)) ml2)))) := by
    intro p mi hp ho hk r3 r4 r7 r10 hK
    rw [u2_ne (by decide), r7]
    have ho1 : ∀ o, o ≠ 73 → u2 mi 73 9 (nI p) o = mi0 o := fun o h => by rw [u2_off h]; exact ho o h
    have hk1 : ∀ k, k ≠ 7 → k ≠ 8 → k ≠ 9 → k ≠ 10 → u2 mi 73 9 (nI p) 73 k = mi0 73 k := fun k k7 k8 k9 k10 => by rw [u2_ne k9]; exact hk k k7 k8 k9 k10
    have q3 : u2 mi 73 9 (nI p) 73 3 = nI c := by rw [u2_ne (by decide)]; exact r3
    have q4 : u2 mi 73 9 (nI p) 73 4 = nI len := by rw [u2_ne (by decide)]; exact r4
    have q7 : u2 mi 73 9 (nI p) 73 7 = nI p := by rw [u2_ne (by decide)]; exact r7
    have q9 : u2 mi 73 9 (nI p) 73 9 = nI p := u2_at
    have q10 : u2 mi 73 9 (nI p) 73 10 = nI L.2.2.1 := by rw [u2_ne (by decide)]; exact r10
    generalize u2 mi 73 9 (nI p) = mi at ho1 hk1 q3 q4 q7 q9 q10 ⊢
    have put8 : ∀ v, (∀ o, o ≠ 73 → u2 mi 73 8 v o = mi0 o) ∧ (∀ k, k ≠ 7 → k ≠ 8 → k ≠ 9 → k ≠ 10 → u2 mi 73 8 v 73 k = mi0 73 k) ∧ u2 mi 73 8 v 73 3 = nI c ∧ u2 mi 73 8 v 73 4 = nI len ∧ u2 mi 73 8 v 73 7 = nI p ∧ u2 mi 73 8 v 73 8 = v ∧ u2 mi 73 8 v 73 9 = nI p ∧ u2 mi 73 8 v 73 10 = nI L.2.2.1 := fun v =>
      ⟨fun o h => by rw [u2_off h]; exact ho1 o h, fun k k7 k8 k9 k10 => by rw [u2_ne k8]; exact hk1 k k7 k8 k9 k10, by rw [u2_ne (by decide)]; exact q3, by rw [u2_ne (by decide)]; exact q4, by rw [u2_ne (by decide)]; exact q7, u2_at, by rw [u2_ne (by decide)]; exact q9, by rw [u2_ne (by decide)]; exact q10⟩
    have one : ∀ v, tkn tx len p L.2.2.1 = (v, p, L.2.2.1, p + 1) → K (u2 (u2 mi 73 8 (nI v)) 73 7 (((u2 mi 73 8 (nI v)) 73 7) + (nI 1))) ml := by
      intro v hv
      obtain ⟨w1, w2, w3, w4, w7, w8, w9, w10⟩ := put8 (nI v)
      rw [hv] at hK
      refine hK _ (fun o h => by rw [u2_off h]; exact w1 o h) (fun k k7 k8 k9 k10 => by rw [u2_ne k7]; exact w2 k k7 k8 k9 k10) ⟨?_, ?_, ?_, ?_, ?_, ?_⟩
      · rw [u2_ne (by decide)]; exact w3
      · rw [u2_ne (by decide)]; exact w4
      · rw [u2_at, w7, nI_add]
      · rw [u2_ne (by decide)]; exact w8
      · rw [u2_ne (by decide)]; exact w9
      · rw [u2_ne (by decide)]; exact w10
    have htp := ht p
    refine p_byteAt q3 q4 (hT.off (ho1 c (by omega))) (by omega) (fun z => ?_) (fun z => ?_)
    · refine ⟨fun z2 => absurd z2 (by decide), fun _ => ?_⟩
      unfold tkn at hK
      rw [if_pos z] at hK
      obtain ⟨w1, w2, w3, w4, w7, w8, w9, w10⟩ := put8 (nI 0)
      exact hK _ w1 w2 ⟨w3, w4, w7, w8, w9, w10⟩
    · simp (disch := omega) only [s_le, s_lt, s_eq, s_eq0, s_in, s_ix, s_rm, s_div, s_pdlt, s_pdle, s_lepd, s_pdpd, s_pdlepd, s_pdadd, nI_add, pk_mul, pd_succ, Nat.not_lt_zero, Nat.zero_lt_succ, not_false_eq_true, not_true_eq_false, false_implies, true_implies, implies_true, and_true, true_and, Nat.reduceLT, Nat.reduceLeDiff, Nat.reduceAdd, Nat.reduceSub, Nat.zero_add, Nat.add_zero, Nat.zero_le]
      refine p_isDigit (by omega) ?_
      by_cases c1 : bD (tx p) = true
      · rw [if_pos c1]
        refine ⟨fun z2 => absurd z2 (by decide), fun _ => ?_⟩
        unfold tkn at hK
        rw [if_neg (by omega), if_pos c1] at hK
        obtain ⟨w1, w2, w3, w4, w7, w8, w9, w10⟩ := put8 (nI 2)
        apply e_X4_stepNumber
        refine p_stepNumber_loop mi0 hT (len - p) p 0 _ (by omega) (by omega) (fun o h => by rw [u2_off h]; exact w1 o h) (fun k k7 k8 k9 k10 => by rw [u2_ne k10]; exact w2 k k7 k8 k9 k10) ⟨?_, ?_, ?_, ?_, ?_, ?_⟩ hK
        · rw [u2_ne (by decide)]; exact w3
        · rw [u2_ne (by decide)]; exact w4
        · rw [u2_ne (by decide)]; exact w7
        · rw [u2_ne (by decide)]; exact w8
        · rw [u2_ne (by decide)]; exact w9
        · exact u2_at
      · rw [if_neg c1]
        refine ⟨fun _ => p_isLetter (by omega) ?_, fun z2 => absurd rfl z2⟩
        by_cases c2 : bL (tx p) = true
        · rw [if_pos c2]
          refine ⟨fun z2 => absurd z2 (by decide), fun _ => ?_⟩
          unfold tkn at hK
          rw [if_neg (by omega), if_neg c1, if_pos c2] at hK
          obtain ⟨w1, w2, w3, w4, w7, w8, w9, w10⟩ := put8 (nI 3)
          exact p_letters trivial (L := L) mi0 hT (len - p) p _ (by omega) w1 w2 ⟨w3, w4, w7, w8, w9, w10⟩ hK
        · rw [if_neg c2]
          refine ⟨fun _ => p_isSign (by omega) ?_, fun z2 => absurd rfl z2⟩
          by_cases c3 : bS (tx p) = true
          · rw [if_pos c3]
            refine ⟨fun z2 => absurd z2 (by decide), fun _ => one (tx p) ?_⟩
            unfold tkn
            rw [if_neg (by omega), if_neg c1, if_neg c2, if_pos c3]
          · rw [if_neg c3]
            refine ⟨fun _ => one 1 ?_, fun z2 => absurd rfl z2⟩
            unfold tkn
            rw [if_neg (by omega), if_neg c1, if_neg c2, if_neg c3]
  have loop : ∀ (f p : Nat) (mi : Nat → Nat → Int32), f + p = len → (∀ o, o ≠ 73 → mi o = mi0 o) → (∀ k, k ≠ 7 → k ≠ 8 → k ≠ 9 → k ≠ 10 → mi 73 k = mi0 73 k) → mi 73 3 = nI c → mi 73 4 = nI len → mi 73 7 = nI p → mi 73 10 = nI L.2.2.1 →
      (∀ mi1, (∀ o, o ≠ 73 → mi1 o = mi0 o) → (∀ k, k ≠ 7 → k ≠ 8 → k ≠ 9 → k ≠ 10 → mi1 73 k = mi0 73 k) → RL c len (tkn tx len (skp tx len f p) L.2.2.1) mi1 → K mi1 ml) →
      wp G e tX m_X4_step 0 [(0, .ref 73)] [] (mi, ml, RX y) (QV K) := by
    intro f
    induction f with
    | zero =>
      intro p mi hf ho hk r3 r4 r7 r10 hK
      apply b_X4_step_0
      rw [r4]
      refine ⟨fun _ => tail p mi (by omega) ho hk r3 r4 r7 r10 hK, fun z => absurd ?_ z⟩
      rw [r7, s_le (by omega) (by omega)]
      omega
    | succ f ih =>
      intro p mi hf ho hk r3 r4 r7 r10 hK
      have htp := ht p
      unfold skp at hK
      rw [if_neg (by omega)] at hK
      have hnext : bW (tx p) = true → wp G e tX m_X4_step 0 [(0, .ref 73)] [] ((u2 mi 73 7 ((mi 73 7) + (nI 1))), ml, (RX y)) (QV K) := fun c1 => by
        rw [if_pos c1] at hK
        refine ih (p + 1) _ (by omega) (fun o h => by rw [u2_off h]; exact ho o h) (fun k k7 k8 k9 k10 => by rw [u2_ne k7]; exact hk k k7 k8 k9 k10) ?_ ?_ ?_ ?_ hK
        · rw [u2_ne (by decide)]; exact r3
        · rw [u2_ne (by decide)]; exact r4
        · rw [u2_at, r7, nI_add]
        · rw [u2_ne (by decide)]; exact r10
      apply b_X4_step_0
      refine ⟨fun z => absurd z ?_, fun _ => ?_⟩
      · rw [r4, r7, s_le (by omega) (by omega)]
        omega
      rw [r7]
      refine p_byteAt r3 r4 (hT.off (ho c (by omega))) (show p < 2 ^ 31 by omega) (fun z => absurd z (by omega)) (fun _ => ⟨fun z => hnext ?_, fun z => ?_⟩)
      · rw [s_eq (by omega) (by omega)] at z
        unfold bW
        rw [z]
        rfl
      · rw [r7]
        refine p_byteAt r3 r4 (hT.off (ho c (by omega))) (show p < 2 ^ 31 by omega) (fun z => absurd z (by omega)) (fun _ => ⟨fun z2 => ?_, fun z2 => hnext ?_⟩)
        · have c1 : ¬ bW (tx p) = true := by
            rw [s_eq (by omega) (by omega)] at z z2
            unfold bW
            rw [decide_eq_true_eq]
            omega
          rw [if_neg c1] at hK
          exact tail p mi (by omega) ho hk r3 r4 r7 r10 hK
        · rw [s_eq (by omega) (by omega)] at z2
          unfold bW
          rw [z2]
          rfl
  obtain ⟨r3, r4, r7, r8, r9, r10⟩ := h
  apply e_X4_step
  exact loop (len - L.2.2.2) L.2.2.2 mi0 (by omega) (fun _ _ => rfl) (fun _ _ _ _ _ => rfl) r3 r4 r7 r10 hK
end RD1
