/-! the reference: tokens -/
/-- k bytes as one number -/
def wvf (f : Nat → Nat) : Nat → Nat
  | 0 => 0
  | k + 1 => wvf f k * 256 + f k
theorem wvf_lt {f : Nat → Nat} (hf : ∀ i, f i < 256) : ∀ k, wvf f k < 256 ^ k
  | 0 => Nat.zero_lt_one
  | k + 1 => by
    have := wvf_lt hf k
    have := hf k
    show wvf f k * 256 + f k < 256 ^ (k + 1)
    rw [Nat.pow_succ]
    omega
theorem wvf_ge {f : Nat → Nat} (h0 : 1 ≤ f 0) : ∀ k, 256 ^ k ≤ wvf f (k + 1)
  | 0 => by
    show 1 ≤ 0 * 256 + f 0
    omega
  | k + 1 => by
    have := wvf_ge h0 k
    show 256 ^ (k + 1) ≤ wvf f (k + 1) * 256 + f (k + 1)
    rw [Nat.pow_succ]
    omega
theorem wvf_inj {f g : Nat → Nat} (hf : ∀ i, f i < 256) (hg : ∀ i, g i < 256) : ∀ k, wvf f k = wvf g k → ∀ i, i < k → f i = g i
  | 0, _, i, hi => absurd hi (by omega)
  | k + 1, h, i, hi => by
    have h : wvf f k * 256 + f k = wvf g k * 256 + g k := h
    have a := hf k
    have b := hg k
    by_cases c : i = k
    · rw [c]; omega
    · exact wvf_inj hf hg k (by omega) i (by omega)
theorem wvf_ext {f g : Nat → Nat} : ∀ k, (∀ i, i < k → f i = g i) → wvf f k = wvf g k
  | 0, _ => rfl
  | k + 1, h => by
    show wvf f k * 256 + f k = wvf g k * 256 + g k
    rw [wvf_ext k (fun i hi => h i (by omega)), h k (by omega)]
def wdv (tx : Nat → Nat) (L : Lx) : Nat := if 7 < L.2.2.2 - L.2.1 then 0 else wvf (fun i => tx (L.2.1 + i)) (L.2.2.2 - L.2.1)
theorem lN_word {w b : Nat} (hw : w < 2 ^ 50) (hb : b < 256) : (lsh (lN w) (nI 8)) ||| (nI b).toInt64 = lN (w * 256 + b) := by
  have e8 : ((nI 8).toInt64 &&& 63).toBitVec = 8#64 := by decide
  have eb : (nI b).toInt64.toBitVec = BitVec.ofNat 64 b := by
    have h1 : ∀ b, b < 256 → (nI b).toInt64.toBitVec = BitVec.ofNat 64 b := by decide +kernel
    exact h1 b hb
  apply Int64.toBitVec_inj.mp
  unfold lsh lN
  rw [Int64.toBitVec_or, Int64.toBitVec_shiftLeft, e8, eb]
  show BitVec.ofNat 64 w <<< (8#64).smod 64 ||| BitVec.ofNat 64 b = BitVec.ofNat 64 (w * 256 + b)
  have e9 : (8#64).smod 64 = 8#64 := by decide
  rw [e9]
  apply BitVec.eq_of_toNat_eq
  have e10 : 8 % 2 ^ 64 = 8 := rfl
  rw [BitVec.toNat_or, BitVec.shiftLeft_eq', BitVec.toNat_shiftLeft, BitVec.toNat_ofNat, BitVec.toNat_ofNat, BitVec.toNat_ofNat, BitVec.toNat_ofNat, e10, Nat.mod_eq_of_lt (show w < 2 ^ 64 by omega), Nat.mod_eq_of_lt (show b < 2 ^ 64 by omega), Nat.mod_eq_of_lt (show w * 256 + b < 2 ^ 64 by omega)]
  have e11 : w <<< 8 = w * 256 := by rw [Nat.shiftLeft_eq]
  have := Nat.shiftLeft_add_eq_or_of_lt (show b < 2 ^ 8 by omega) w
  rw [e11] at this ⊢
  rw [Nat.mod_eq_of_lt (show w * 256 < 2 ^ 64 by omega), ← this]
theorem lg_eq {a b : Nat} (ha : a < 2 ^ 60) (hb : b < 2 ^ 60) : (lg_cmp (lN a) (lN b) = nI 0) ↔ a = b := by
  have e1 : (lN a).toInt = a := Int64.toInt_ofNat_of_lt (by omega)
  have e2 : (lN b).toInt = b := Int64.toInt_ofNat_of_lt (by omega)
  unfold lg_cmp
  by_cases c : a = b
  · subst c
    refine ⟨fun _ => rfl, fun _ => ?_⟩
    rw [if_neg (fun z => by rw [gt_iff_lt, Int64.lt_iff_toInt_lt] at z; omega), if_pos rfl]
    rfl
  · refine ⟨fun z => ?_, fun z => absurd z c⟩
    split at z
    · exact absurd z (by decide)
    · split at z
      · next h =>
        rw [h] at e1
        omega
      · exact absurd z (by decide)

/-- the class's tokens as the reference numbers them -/
def tmp (t : Nat) : Nat := if t = 1 then 3 else if t = 2 then 1 else if t = 3 then 2 else t
/-- a number as the reference has it, as the class has it -/
def Nmr (vm vc : Nat) : Prop := vm < 2 ^ 24 ∧ (vm ≤ 9999 ↔ vc ≤ 9999) ∧ (vm ≤ 9999 → vc = vm)
def Lm (tx : Nat → Nat) (L : Lx) (mi : Nat → Nat → Int32) (ml : Nat → Nat → Int64) : Prop := mi 154 15 = nI L.2.2.2 ∧ mi 154 16 = nI L.2.1 ∧ mi 154 17 = nI (tmp L.1) ∧ (L.1 = 2 → ∃ v, mi 154 18 = nI v ∧ Nmr v L.2.2.1) ∧ (L.1 = 3 → ml 154 19 = lN (wdv tx L))
/-- the tape -/
def Mtp (len : Nat) (tx : Nat → Nat) (mi : Nat → Nat → Int32) : Prop := mi 154 12 = nI len ∧ len ≤ 300 ∧ (∀ i, i < 300 → mi 162 i = nI (tx i)) ∧ ∀ i, tx i < 256
def offN (mi mi1 : Nat → Nat → Int32) : Prop := (∀ o, o ≠ 154 → mi1 o = mi o) ∧ ∀ k, k ≠ 15 → k ≠ 16 → k ≠ 17 → k ≠ 18 → mi1 154 k = mi 154 k
theorem offN.refl (mi : Nat → Nat → Int32) : offN mi mi := ⟨fun _ _ => rfl, fun _ _ _ _ _ => rfl⟩
theorem offN.trans {a b c : Nat → Nat → Int32} (h : offN a b) (h1 : offN b c) : offN a c := ⟨fun o z => by rw [h1.1 o z, h.1 o z], fun k z1 z2 z3 z4 => by rw [h1.2 k z1 z2 z3 z4, h.2 k z1 z2 z3 z4]⟩
theorem offN.put {a b : Nat → Nat → Int32} (h : offN a b) {k : Nat} (hk : k = 15 ∨ k = 16 ∨ k = 17 ∨ k = 18) {v : Int32} : offN a (u2 b 154 k v) := ⟨fun o z => by rw [u2_off z]; exact h.1 o z, fun j z1 z2 z3 z4 => by rw [u2_ne (by omega)]; exact h.2 j z1 z2 z3 z4⟩
theorem Mtp.off {len : Nat} {tx : Nat → Nat} {mi mi1 : Nat → Nat → Int32} (h : Mtp len tx mi) (ho : offN mi mi1) : Mtp len tx mi1 := ⟨by rw [ho.2 12 (by omega) (by omega) (by omega) (by omega)]; exact h.1, h.2.1, fun i hi => by rw [ho.1 162 (by omega)]; exact h.2.2.1 i hi, h.2.2.2⟩
section MTK
variable {G : GC} {e len : Nat} {tx : Nat → Nat}
theorem m_byteAt {mi : Nat → Nat → Int32} {ml : Nat → Nat → Int64} {K : Int32 → (Nat → Nat → Int32) → (Nat → Nat → Int64) → Prop} (h : Mtp len tx mi) {p : Nat} (hp : p < 2 ^ 31) (hK0 : len ≤ p → K NONE mi ml) (hK1 : p < len → K (nI (tx p)) mi ml) : wpI G e 168 m_X10_byteAt [.ref 154, .int (nI p)] (mi, ml, RX RM) K := by
  have hl := h.2.1
  apply e_X10_byteAt
  rw [h.1, s_le (by omega) hp]
  refine ⟨hK0, fun z => ?_⟩
  have e1 := h.2.2.1 p (by omega)
  rw [s_in hp, s_ix hp, e1]
  exact ⟨by omega, hK1 (by omega)⟩
theorem m_isD {mi : Nat → Nat → Int32} {ml : Nat → Nat → Int64} {K : Int32 → (Nat → Nat → Int32) → (Nat → Nat → Int64) → Prop} {v : Nat} (hv : v < 2 ^ 31) (hK : K (nI (if bD v = true then 1 else 0)) mi ml) : wpI G e 168 m_X10_isDigit [.int (nI v)] (mi, ml, RX RM) K := by
  apply e_X10_isDigit
  unfold bD at hK
  refine m_isIn (a := 0) (lo := 48) (hi := 57) (by omega) (by omega) (fun a ha h1 h2 => ⟨Or.inr rfl, ?_⟩) (fun hno => ⟨Or.inl rfl, ?_⟩)
  · have : v = a := by
      have := congrArg Int32.toInt ha
      by_cases c : a < 2 ^ 31
      · rw [nI_toInt hv, nI_toInt c] at this
        omega
      · omega
    rw [if_pos (by rw [decide_eq_true_eq]; omega)] at hK
    exact hK
  · rw [if_neg (by
      rw [decide_eq_true_eq]
      intro z
      exact hno v (by omega) (by omega) rfl)] at hK
    exact hK
theorem m_isDN {mi : Nat → Nat → Int32} {ml : Nat → Nat → Int64} {K : Int32 → (Nat → Nat → Int32) → (Nat → Nat → Int64) → Prop} (hK : K (nI 0) mi ml) : wpI G e 168 m_X10_isDigit [.int (-(nI 1))] (mi, ml, RX RM) K := by
  apply e_X10_isDigit
  refine m_isIn (a := 0) (lo := 48) (hi := 57) (by omega) (by omega) (fun a ha h1 h2 => ?_) (fun _ => ⟨Or.inl rfl, hK⟩)
  have := congrArg Int32.toInt ha
  rw [nI_toInt (by omega)] at this
  have e : (-(nI 1)).toInt = -1 := by decide
  omega
theorem m_isL {mi : Nat → Nat → Int32} {ml : Nat → Nat → Int64} {K : Int32 → (Nat → Nat → Int32) → (Nat → Nat → Int64) → Prop} {v : Nat} (hv : v < 2 ^ 31) (hK : K (nI (if bL v = true then 1 else 0)) mi ml) : wpI G e 168 m_X10_isLetter [.int (nI v)] (mi, ml, RX RM) K := by
  have inj : ∀ a, a < 2 ^ 31 → nI v = nI a → v = a := fun a ha h => by
    have := congrArg Int32.toInt h
    rw [nI_toInt hv, nI_toInt ha] at this
    omega
  apply e_X10_isLetter
  unfold bL at hK
  refine m_isIn (a := 0) (lo := 97) (hi := 122) (by omega) (by omega) (fun a ha h1 h2 => ⟨fun _ => ⟨Or.inr rfl, ?_⟩, fun z => absurd z (by decide)⟩) (fun hno => ⟨fun z => absurd rfl z, fun _ => ?_⟩)
  · have := inj a (by omega) ha
    rw [if_pos (by rw [decide_eq_true_eq]; omega)] at hK
    exact hK
  · refine m_isIn (a := 0) (lo := 65) (hi := 90) (by omega) (by omega) (fun a ha h1 h2 => ⟨fun z => absurd z (by decide), fun _ => ⟨Or.inr rfl, ?_⟩⟩) (fun hno2 => ⟨fun _ => ⟨Or.inl rfl, ?_⟩, fun z => absurd rfl z⟩)
    · have := inj a (by omega) ha
      rw [if_pos (by rw [decide_eq_true_eq]; omega)] at hK
      exact hK
    · rw [if_neg (by
        rw [decide_eq_true_eq]
        intro z
        rcases z with z | z
        · exact hno v (by omega) (by omega) rfl
        · exact hno2 v (by omega) (by omega) rfl)] at hK
      exact hK
theorem m_isLN {mi : Nat → Nat → Int32} {ml : Nat → Nat → Int64} {K : Int32 → (Nat → Nat → Int32) → (Nat → Nat → Int64) → Prop} (hK : K (nI 0) mi ml) : wpI G e 168 m_X10_isLetter [.int (-(nI 1))] (mi, ml, RX RM) K := by
  have e : (-(nI 1)).toInt = -1 := by decide
  have no : ∀ a, a < 2 ^ 31 → ¬ -(nI 1) = nI a := fun a ha z => by
    have := congrArg Int32.toInt z
    rw [nI_toInt ha] at this
    omega
  apply e_X10_isLetter
  refine m_isIn (a := 0) (lo := 97) (hi := 122) (by omega) (by omega) (fun a ha h1 h2 => absurd ha (no a (by omega))) (fun _ => ⟨fun z => absurd rfl z, fun _ => ?_⟩)
  exact m_isIn (a := 0) (lo := 65) (hi := 90) (by omega) (by omega) (fun a ha h1 h2 => absurd ha (no a (by omega))) (fun _ => ⟨fun _ => ⟨Or.inl rfl, hK⟩, fun z => absurd rfl z⟩)
theorem m_nt_digits {K : (Nat → Nat → Int32) → (Nat → Nat → Int64) → Prop} {mi0 : Nat → Nat → Int32} {ml : Nat → Nat → Int64} (h0 : Mtp len tx mi0) {pl : Nat} {Z : Nat × Nat} (hK : ∀ mi1 v, offN mi0 mi1 → mi1 154 15 = nI Z.2 → mi1 154 16 = nI pl → mi1 154 17 = nI 1 → mi1 154 18 = nI v → Nmr v Z.1 → K mi1 ml) : ∀ (f p vm vc : Nat) (mi : Nat → Nat → Int32), f + p = len → offN mi0 mi → mi 154 15 = nI p → mi 154 16 = nI pl → mi 154 17 = nI 1 → mi 154 18 = nI vm → Nmr vm vc → nme tx len f p vc = Z → wp G e tM m_X10_nextToken 85 [(0, .ref 154)] [] (mi, ml, RX RM) (QV K) := by
  have hl := h0.2.1
  have fin : ∀ (p vm vc : Nat) (mi : Nat → Nat → Int32), len ≤ p → p < 2 ^ 31 → offN mi0 mi → mi 154 15 = nI p → mi 154 16 = nI pl → mi 154 17 = nI 1 → mi 154 18 = nI vm → Nmr vm vc → (vc, p) = Z → wp G e tM m_X10_nextToken 85 [(0, .ref 154)] [] (mi, ml, RX RM) (QV K) := fun p vm vc mi hp hp2 ho h15 h16 h17 h18 hN hz => by
    apply b_X10_nextToken_85
    rw [h15]
    refine m_byteAt (h0.off ho) hp2 (fun _ => m_isDN ⟨fun _ => ?_, fun z => absurd rfl z⟩) (fun z => absurd z (by omega))
    subst hz
    exact hK mi vm ho h15 h16 h17 h18 hN
  intro f
  induction f with
  | zero =>
    intro p vm vc mi hp ho h15 h16 h17 h18 hN hz
    exact fin p vm vc mi (by omega) (by omega) ho h15 h16 h17 h18 hN hz
  | succ f ih =>
    intro p vm vc mi hp ho h15 h16 h17 h18 hN hz
    have hT := h0.off ho
    have hb := h0.2.2.2 p
    have hz1 : (if len ≤ p then (vc, p) else if bD (tx p) = true then nme tx len f (p + 1) (min 10000 (vc * 10 + tx p - 48)) else (vc, p)) = Z := hz
    rw [if_neg (by omega)] at hz1
    apply b_X10_nextToken_85
    rw [h15]
    refine m_byteAt hT (by omega) (fun z => absurd z (by omega)) (fun _ => m_isD (by omega) ?_)
    obtain ⟨n1, n2, n3⟩ := hN
    by_cases c : bD (tx p) = true
    · rw [if_pos c] at hz1
      rw [if_pos c]
      have hd : 48 ≤ tx p ∧ tx p ≤ 57 := by
        unfold bD at c
        exact of_decide_eq_true c
      refine ⟨fun z => absurd z (by decide), fun _ => ?_⟩
      rw [h18]
      simp (disch := omega) only [s_le, s_lt, s_eq, s_eq0, s_in, s_ix, s_rm, s_div, s_pdlt, s_pdle, s_lepd, s_pdpd, s_pdlepd, s_pdadd, nI_add, pk_mul, pd_succ, Nat.not_lt_zero, Nat.zero_lt_succ, not_false_eq_true, not_true_eq_false, false_implies, true_implies, implies_true, and_true, true_and, Nat.reduceLT, Nat.reduceLeDiff, Nat.reduceAdd, Nat.reduceSub, Nat.zero_add, Nat.add_zero]
      refine ⟨fun z => ?_, fun z => ?_⟩
      · rw [h15, nI_add]
        refine ih (p + 1) vm (min 10000 (vc * 10 + tx p - 48)) _ (by omega) (ho.put (Or.inl rfl)) u2_at (by rw [u2_ne (by omega)]; exact h16) (by rw [u2_ne (by omega)]; exact h17) (by rw [u2_ne (by omega)]; exact h18) ⟨n1, by omega, by omega⟩ hz1
      · rw [h15]
        refine m_byteAt hT (by omega) (fun z => absurd z (by omega)) (fun _ => ?_)
        have es : nI (10 * vm) + nI (tx p) - nI 48 = nI (10 * vm + tx p - 48) := by rw [nI_add, s_sub (by omega)]
        rw [es]
        have e15 : u2 mi 154 18 (nI (10 * vm + tx p - 48)) 154 15 + nI 1 = nI (p + 1) := by rw [u2_ne (by omega), h15, nI_add]
        rw [e15]
        refine ih (p + 1) (10 * vm + tx p - 48) (min 10000 (vc * 10 + tx p - 48)) _ (by omega) ((ho.put (by omega)).put (by omega)) u2_at (by rw [u2_ne (by omega), u2_ne (by omega)]; exact h16) (by rw [u2_ne (by omega), u2_ne (by omega)]; exact h17) (by rw [u2_ne (by omega), u2_at]) ⟨by omega, by omega, by omega⟩ hz1
    · rw [if_neg c] at hz1
      rw [if_neg c]
      refine ⟨fun _ => ?_, fun z => absurd rfl z⟩
      subst hz1
      exact hK mi vm ho h15 h16 h17 h18 ⟨n1, n2, n3⟩
theorem m_nt_letters {K : (Nat → Nat → Int32) → (Nat → Nat → Int64) → Prop} {mi0 : Nat → Nat → Int32} (h0 : Mtp len tx mi0) {pl Z : Nat} (hpl : pl ≤ len) (hK : ∀ mi1 ml1, offN mi0 mi1 → mi1 154 15 = nI Z → mi1 154 16 = nI pl → mi1 154 17 = nI 2 → ml1 154 19 = lN (if 7 < Z - pl then 0 else wvf (fun i => tx (pl + i)) (Z - pl)) → K mi1 ml1) : ∀ (f p : Nat) (mi : Nat → Nat → Int32) (ml : Nat → Nat → Int64), f + p = len → pl ≤ p → offN mi0 mi → mi 154 15 = nI p → mi 154 16 = nI pl → mi 154 17 = nI 2 → ml 154 19 = lN (wvf (fun i => tx (pl + i)) (min 7 (p - pl))) → lte tx len f p = Z → wp G e tM m_X10_nextToken 161 [(0, .ref 154)] [] (mi, ml, RX RM) (QV K) := by
  have hl := h0.2.1
  have hb8 : ∀ i, (fun i => tx (pl + i)) i < 256 := fun i => h0.2.2.2 _
  have stop : ∀ (p : Nat) (mi : Nat → Nat → Int32) (ml : Nat → Nat → Int64), p ≤ 300 → pl ≤ p → offN mi0 mi → mi 154 15 = nI p → mi 154 16 = nI pl → mi 154 17 = nI 2 → ml 154 19 = lN (wvf (fun i => tx (pl + i)) (min 7 (p - pl))) → p = Z → (((mi 154 15) - (mi 154 16)) ≤ (nI 7) → K mi ml) ∧ (¬ ((mi 154 15) - (mi 154 16)) ≤ (nI 7) → K mi (u2 ml 154 19 (lN 0))) := fun p mi ml hp hpp ho h15 h16 h17 hw hz => by
    subst hz
    rw [h15, h16, s_sub hpp, s_le (by omega) (by omega)]
    refine ⟨fun z => hK mi ml ho h15 h16 h17 ?_, fun z => hK mi _ ho h15 h16 h17 ?_⟩
    · rw [hw, if_neg (by omega), Nat.min_eq_right z]
    · rw [u2_at, if_pos (by omega)]
  intro f
  induction f with
  | zero =>
    intro p mi ml hp hpp ho h15 h16 h17 hw hz
    have hz : p = Z := hz
    apply b_X10_nextToken_161
    rw [h15]
    refine m_byteAt (h0.off ho) (by omega) (fun _ => m_isLN ⟨fun _ => ?_, fun z => absurd rfl z⟩) (fun z => absurd z (by omega))
    exact stop p mi ml (by omega) hpp ho h15 h16 h17 hw hz
  | succ f ih =>
    intro p mi ml hp hpp ho h15 h16 h17 hw hz
    have hT := h0.off ho
    have hb := h0.2.2.2 p
    have hz1 : (if len ≤ p then p else if bL (tx p) = true then lte tx len f (p + 1) else p) = Z := hz
    rw [if_neg (by omega)] at hz1
    have hst := stop p mi ml (by omega) hpp ho h15 h16 h17 hw
    apply b_X10_nextToken_161
    rw [h15]
    refine m_byteAt hT (by omega) (fun z => absurd z (by omega)) (fun _ => m_isL (by omega) ?_)
    by_cases c : bL (tx p) = true
    · rw [if_pos c] at hz1
      rw [if_pos c]
      refine ⟨fun z => absurd z (by decide), fun _ => ?_⟩
      rw [h15, h16, s_sub hpp, s_le (by omega) (by omega)]
      refine ⟨fun z => ?_, fun z => ?_⟩
      · rw [nI_add]
        exact ih (p + 1) _ ml (by omega) (by omega) (ho.put (by omega)) u2_at (by rw [u2_ne (by omega)]; exact h16) (by rw [u2_ne (by omega)]; exact h17) (by rw [hw, Nat.min_eq_left z, Nat.min_eq_left (by omega)]) hz1
      · refine m_byteAt hT (by omega) (fun z => absurd z (by omega)) (fun _ => ?_)
        rw [h15, nI_add]
        have hk : p - pl < 7 := by omega
        have hlt := wvf_lt hb8 (p - pl)
        have h256 : 256 ^ (p - pl) ≤ 256 ^ 6 := Nat.pow_le_pow_right (by omega) (by omega)
        have e1 : (lsh (ml 154 19) (nI 8)) ||| (nI (tx p)).toInt64 = lN (wvf (fun i => tx (pl + i)) (p + 1 - pl)) := by
          rw [hw, Nat.min_eq_right (by omega), lN_word (by omega) hb, show p + 1 - pl = p - pl + 1 by omega]
          show _ = lN (wvf (fun i => tx (pl + i)) (p - pl) * 256 + tx (pl + (p - pl)))
          rw [show pl + (p - pl) = p by omega]
        rw [e1]
        exact ih (p + 1) _ _ (by omega) (by omega) (ho.put (by omega)) u2_at (by rw [u2_ne (by omega)]; exact h16) (by rw [u2_ne (by omega)]; exact h17) (by rw [u2_at, Nat.min_eq_right (by omega)]) hz1
    · rw [if_neg c] at hz1
      rw [if_neg c]
      exact ⟨fun _ => hst hz1, fun z => absurd rfl z⟩
theorem m_nextToken {K : (Nat → Nat → Int32) → (Nat → Nat → Int64) → Prop} {mi0 : Nat → Nat → Int32} {ml0 : Nat → Nat → Int64} (h0 : Mtp len tx mi0) {p0 v : Nat} (hp0 : p0 ≤ len) (h15 : mi0 154 15 = nI p0) (hK : ∀ mi1 ml1, offN mi0 mi1 → Lm tx (tkn tx len (skp tx len (len - p0) p0) v) mi1 ml1 → K mi1 ml1) : wpV G e 168 m_X10_nextToken [.ref 154] (mi0, ml0, RX RM) K := by
  have hl := h0.2.1
  have eN : (-(nI 1)).toInt = -1 := by decide
  have hN0 : ¬ nI 0 ≤ -(nI 1) := by decide
  have inj : ∀ a b, a < 256 → b < 2 ^ 31 → nI a = nI b → a = b := fun a b ha hb h => by
    have := congrArg Int32.toInt h
    rw [nI_toInt (by omega), nI_toInt hb] at this
    omega
  have ended : ∀ (p : Nat) (mi : Nat → Nat → Int32), len ≤ p → p < 2 ^ 31 → offN mi0 mi → mi 154 15 = nI p → skp tx len (len - p0) p0 = p → wp G e tM m_X10_nextToken 0 [(0, .ref 154)] [] (mi, ml0, RX RM) (QV K) := fun p mi hp hp2 ho h15 hs => by
    have hT := h0.off ho
    apply b_X10_nextToken_0
    rw [h15]
    refine m_byteAt hT hp2 (fun _ => ⟨fun z => absurd z (by decide), fun _ => ?_⟩) (fun z => absurd z (by omega))
    rw [h15]
    refine m_byteAt hT hp2 (fun _ => ⟨fun _ => ?_, fun z => absurd z (by decide)⟩) (fun z => absurd z (by omega))
    rw [h15]
    have e15 : u2 mi 154 16 (nI p) 154 15 = nI p := by rw [u2_ne (by omega)]; exact h15
    rw [e15]
    refine m_byteAt (h0.off (ho.put (by omega))) hp2 (fun _ => ⟨fun z => absurd z hN0, fun _ => ?_⟩) (fun z => absurd z (by omega))
    refine hK _ ml0 ((ho.put (by omega)).put (by omega)) ?_
    rw [hs]
    unfold tkn
    rw [if_pos hp]
    refine ⟨by rw [u2_ne (by omega)]; exact e15, by rw [u2_ne (by omega), u2_at], by rw [u2_at]; rfl, fun z => absurd (show (0 : Nat) = 2 from z) (by decide), fun z => absurd (show (0 : Nat) = 3 from z) (by decide)⟩
  have loop : ∀ (f p : Nat) (mi : Nat → Nat → Int32), f + p = len → offN mi0 mi → mi 154 15 = nI p → skp tx len (len - p0) p0 = skp tx len f p → wp G e tM m_X10_nextToken 0 [(0, .ref 154)] [] (mi, ml0, RX RM) (QV K) := by
    intro f
    induction f with
    | zero =>
      intro p mi hp ho h15 hs
      exact ended p mi (by omega) (by omega) ho h15 hs
    | succ f ih =>
      intro p mi hp ho h15 hs
      have hT := h0.off ho
      have hb := h0.2.2.2 p
      have hs1 : skp tx len (len - p0) p0 = if len ≤ p then p else if bW (tx p) = true then skp tx len f (p + 1) else p := hs
      rw [if_neg (by omega)] at hs1
      apply b_X10_nextToken_0
      rw [h15]
      refine m_byteAt hT (by omega) (fun z => absurd z (by omega)) (fun _ => ?_)
      rw [s_eq (by omega) (by omega), h15, nI_add]
      refine ⟨fun c32 => ?_, fun c32 => ?_⟩
      · rw [if_pos (by unfold bW; rw [decide_eq_true_eq]; exact Or.inl c32)] at hs1
        exact ih (p + 1) _ (by omega) (ho.put (by omega)) u2_at hs1
      refine m_byteAt hT (by omega) (fun z => absurd z (by omega)) (fun _ => ?_)
      rw [s_eq (by omega) (by omega), h15, nI_add]
      refine ⟨fun c10 => ?_, fun c10 => ?_⟩
      · rw [if_neg (by unfold bW; rw [decide_eq_true_eq]; omega)] at hs1
        have o1 : offN mi0 (u2 mi 154 16 (nI p)) := ho.put (by omega)
        have hT1 := h0.off o1
        have e15 : u2 mi 154 16 (nI p) 154 15 = nI p := by rw [u2_ne (by omega)]; exact h15
        have e16 : u2 mi 154 16 (nI p) 154 16 = nI p := u2_at
        rw [e15]
        generalize u2 mi 154 16 (nI p) = mi1 at *
        rw [hs1] at hK
        unfold tkn at hK
        rw [if_neg (by omega)] at hK
        refine m_byteAt hT1 (by omega) (fun z => absurd z (by omega)) (fun _ => ⟨fun _ => ?_, fun z => absurd ((s_le (by omega) (by omega)).mpr (Nat.zero_le _)) z⟩)
        refine m_isD (by omega) ?_
        by_cases cD : bD (tx p) = true
        · rw [if_pos cD] at hK
          rw [if_pos cD]
          refine ⟨fun z => absurd z (by decide), fun _ => ?_⟩
          refine m_nt_digits (pl := p) (Z := nme tx len (len - p) p 0) h0 (fun mi2 v2 o2 g15 g16 g17 g18 gN => ?_) (len - p) p 0 0 _ (by omega) ((o1.put (by omega)).put (by omega)) (by rw [u2_ne (by omega), u2_ne (by omega)]; exact e15) (by rw [u2_ne (by omega), u2_ne (by omega)]; exact e16) (by rw [u2_ne (by omega), u2_at]) u2_at ⟨by omega, Iff.rfl, fun _ => rfl⟩ rfl
          exact hK mi2 ml0 o2 ⟨g15, g16, g17, fun _ => ⟨v2, g18, gN⟩, fun z => absurd (show (2 : Nat) = 3 from z) (by decide)⟩
        · rw [if_neg cD] at hK
          rw [if_neg cD]
          refine ⟨fun _ => ?_, fun z => absurd rfl z⟩
          refine m_isL (by omega) ?_
          by_cases cL : bL (tx p) = true
          · rw [if_pos cL] at hK
            rw [if_pos cL]
            refine ⟨fun z => absurd z (by decide), fun _ => ?_⟩
            refine m_nt_letters (pl := p) (Z := lte tx len (len - p) p) h0 (by omega) (fun mi2 ml2 o2 g15 g16 g17 gw => ?_) (len - p) p _ _ (by omega) (Nat.le_refl _) (o1.put (by omega)) (by rw [u2_ne (by omega)]; exact e15) (by rw [u2_ne (by omega)]; exact e16) u2_at (by rw [u2_at, Nat.sub_self]; rfl) rfl
            exact hK mi2 ml2 o2 ⟨g15, g16, g17, fun z => absurd (show (3 : Nat) = 2 from z) (by decide), fun _ => gw⟩
          · rw [if_neg cL] at hK
            rw [if_neg cL]
            refine ⟨fun _ => ?_, fun z => absurd rfl z⟩
            rw [e15, nI_add]
            have fin : ∀ tk : Nat, tk = (if bS (tx p) = true then tx p else 3) → K (u2 (u2 mi1 154 15 (nI (p + 1))) 154 17 (nI tk)) ml0 := fun tk htk => by
              subst htk
              by_cases cS : bS (tx p) = true
              · rw [if_pos cS] at hK ⊢
                have hs7 : tx p = 43 ∨ tx p = 45 ∨ tx p = 42 ∨ tx p = 94 ∨ tx p = 40 ∨ tx p = 41 ∨ tx p = 59 := by
                  unfold bS at cS
                  exact of_decide_eq_true cS
                refine hK _ ml0 ((o1.put (by omega)).put (by omega)) ⟨by rw [u2_ne (by omega), u2_at], by rw [u2_ne (by omega), u2_ne (by omega)]; exact e16, ?_, fun z => ?_, fun z => ?_⟩
                · rw [u2_at]
                  unfold tmp
                  show nI (tx p) = nI (if tx p = 1 then 3 else if tx p = 2 then 1 else if tx p = 3 then 2 else tx p)
                  rw [if_neg (by omega), if_neg (by omega), if_neg (by omega)]
                · exfalso
                  have : tx p = 2 := z
                  omega
                · exfalso
                  have : tx p = 3 := z
                  omega
              · rw [if_neg cS] at hK ⊢
                exact hK _ ml0 ((o1.put (by omega)).put (by omega)) ⟨by rw [u2_ne (by omega), u2_at], by rw [u2_ne (by omega), u2_ne (by omega)]; exact e16, by rw [u2_at]; rfl, fun z => absurd (show (1 : Nat) = 2 from z) (by decide), fun z => absurd (show (1 : Nat) = 3 from z) (by decide)⟩
            have pos : bS (tx p) = true → (((nI 1) = (nI 0) → K (u2 (u2 mi1 154 15 (nI (p + 1))) 154 17 (nI 3)) ml0) ∧ (¬ (nI 1) = (nI 0) → K (u2 (u2 mi1 154 15 (nI (p + 1))) 154 17 (nI (tx p))) ml0)) := fun z => ⟨fun y => absurd y (by decide), fun _ => fin _ (by rw [if_pos z])⟩
            have bs : bS (tx p) = decide (tx p = 43 ∨ tx p = 45 ∨ tx p = 42 ∨ tx p = 94 ∨ tx p = 40 ∨ tx p = 41 ∨ tx p = 59) := rfl
            have pos2 : (tx p = 43 ∨ tx p = 45 ∨ tx p = 42 ∨ tx p = 94 ∨ tx p = 40 ∨ tx p = 41 ∨ tx p = 59) → bS (tx p) = true := fun z => by rw [bs, decide_eq_true_eq]; exact z
            rw [s_eq (a := tx p) (b := 43) (by omega) (by omega), s_eq (a := tx p) (b := 45) (by omega) (by omega), s_eq (a := tx p) (b := 42) (by omega) (by omega), s_eq (a := tx p) (b := 94) (by omega) (by omega), s_eq (a := tx p) (b := 40) (by omega) (by omega), s_eq (a := tx p) (b := 41) (by omega) (by omega), s_eq (a := tx p) (b := 59) (by omega) (by omega)]
            refine ⟨fun z => pos (pos2 (by omega)), fun z1 => ⟨fun z => pos (pos2 (by omega)), fun z2 => ⟨fun z => pos (pos2 (by omega)), fun z3 => ⟨fun z => pos (pos2 (by omega)), fun z4 => ⟨fun z => pos (pos2 (by omega)), fun z5 => ⟨fun z => pos (pos2 (by omega)), fun z6 => ⟨fun z => ⟨fun _ => fin 3 ?_, fun y => absurd rfl y⟩, fun z => pos (pos2 (by omega))⟩⟩⟩⟩⟩⟩⟩
            rw [if_neg]
            intro y
            rw [bs, decide_eq_true_eq] at y
            omega
      · rw [if_pos (by unfold bW; rw [decide_eq_true_eq]; exact Or.inr c10)] at hs1
        exact ih (p + 1) _ (by omega) (ho.put (by omega)) u2_at hs1
  apply e_X10_nextToken
  exact loop (len - p0) p0 mi0 (by omega) (offN.refl _) h15 rfl
end MTK
