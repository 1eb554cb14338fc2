/-! class Ties -/
/-- the rows that are there: fl which, rw the rows, tg their tags -/
def Ts (q n : Nat) (mi : Nat → Nat → Int32) (fl : Nat → Bool) (rw : Nat → Nat → Nat) (tg : Nat → Nat) : Prop :=
  ∀ a, a < 49 → mi 66 a = nI (if fl a = true then 1 else 0) ∧ (fl a = true → mi 65 a = nI (tg a) ∧ tg a < q ^ 13 ∧ ∀ j, j < 7 → mi (16 + a) j = nI (rw a j) ∧ rw a j < n)
def kfl (fl : Nat → Bool) (p : Nat) : Nat → Bool := fun a => if a = p then true else fl a
def ksc (q p : Nat) (c : Nat → Nat) : Nat := iv q (dg q (c (p / 7)) (p % 7))
def krw (q : Nat) (rw : Nat → Nat → Nat) (p : Nat) (c : Nat → Nat) : Nat → Nat → Nat := fun a j => if a = p then cmb q (ksc q p c) 13 0 (c j) else rw a j
def ktg (q : Nat) (tg : Nat → Nat) (p t : Nat) (c : Nat → Nat) : Nat → Nat := fun a => if a = p then cmb q (ksc q p c) 13 0 t else tg a
/-- c less what stands at p -/
def tal (q : Nat) (rw : Nat → Nat → Nat) (p : Nat) (c : Nat → Nat) : Nat → Nat := fun j => if j ≤ p / 7 then cmb q ((q - dg q (c (p / 7)) (p % 7)) % q) 13 (c j) (rw p j) else c j
/-- (0, tag, ..): tied; (p + 1, tag, row): to be kept at p -/
def ta (q : Nat) (fl : Nat → Bool) (rw : Nat → Nat → Nat) (tg : Nat → Nat) : Nat → (Nat → Nat) → Nat → Nat × Nat × (Nat → Nat)
  | 0, c, t => (0, t, c)
  | p + 1, c, t => if dg q (c (p / 7)) (p % 7) = 0 then ta q fl rw tg p c t else if fl p = true then ta q fl rw tg p (tal q rw p c) (cmb q ((q - dg q (c (p / 7)) (p % 7)) % q) 13 t (tg p)) else (p + 1, t, c)
theorem ties_tb : (List.range 49).all (fun a => Nat.beq (ak (16 + a)) 11 && Nat.beq (an (16 + a)) 7) = true := by decide +kernel
theorem ties_at {a : Nat} (h : a < 49) : ak (16 + a) = 11 ∧ an (16 + a) = 7 := by
  have := List.all_eq_true.mp ties_tb a (List.mem_range.mpr h)
  simp only [Bool.and_eq_true, nbq] at this
  exact this
section TIE
variable {G : GC} {e q m d n g : Nat} {mi : Nat → Nat → Int32} {ml : Nat → Nat → Int64} {y : Nat → Nat → Option Nat}
theorem p_tclear_loop (mi0 : Nat → Nat → Int32) {K : (Nat → Nat → Int32) → (Nat → Nat → Int64) → Prop} (hK : ∀ mi1 : Nat → Nat → Int32, (∀ o, o ≠ 66 → mi1 o = mi0 o) → (∀ k, k < 49 → mi1 66 k = nI 0) → K mi1 ml) :
    ∀ (r i : Nat) (mi : Nat → Nat → Int32), i + r = 49 → (∀ o, o ≠ 66 → mi o = mi0 o) → (∀ k, k < i → mi 66 k = nI 0) → wp G e tX m_X7_clear 2 [(0, .ref 14), (1, .int (nI i))] [] (mi, ml, RX y) (QV K) := by
  intro r
  induction r with
  | zero =>
    intro i mi hi ho hz
    apply b_X7_clear_2
    simp (disch := omega) only [s_le, s_lt, s_eq, s_eq0, s_in, s_ix, s_rm, s_div, s_pdlt, s_pdle, s_lepd, s_pdpd, s_pdlepd, s_pdadd, nI_add, pk_mul, pd_succ, Nat.not_lt_zero, Nat.zero_lt_succ, not_false_eq_true, not_true_eq_false, false_implies, true_implies, implies_true, and_true, true_and, Nat.reduceLT, Nat.reduceLeDiff, Nat.reduceAdd, Nat.reduceSub, Nat.zero_add, Nat.add_zero]
    exact ⟨fun _ => hK mi ho (fun k hk => hz k (by omega)), fun c1 => absurd (show 49 ≤ i by omega) c1⟩
  | succ r ih =>
    intro i mi hi ho hz
    apply b_X7_clear_2
    simp (disch := omega) only [s_le, s_lt, s_eq, s_eq0, s_in, s_ix, s_rm, s_div, s_pdlt, s_pdle, s_lepd, s_pdpd, s_pdlepd, s_pdadd, nI_add, pk_mul, pd_succ, Nat.not_lt_zero, Nat.zero_lt_succ, not_false_eq_true, not_true_eq_false, false_implies, true_implies, implies_true, and_true, true_and, Nat.reduceLT, Nat.reduceLeDiff, Nat.reduceAdd, Nat.reduceSub, Nat.zero_add, Nat.add_zero]
    refine ⟨fun c1 => absurd c1 (by omega), fun _ => ⟨by omega, Or.inl rfl, ?_⟩⟩
    refine ih (i + 1) _ (by omega) (fun o h => by rw [u2_off h]; exact ho o h) (fun k hk => ?_)
    rw [u2_on]
    show (if k = i then _ else _) = _
    by_cases c1 : k = i
    · rw [if_pos c1]
    · rw [if_neg c1]
      exact hz k (by omega)
theorem p_tclear {K : (Nat → Nat → Int32) → (Nat → Nat → Int64) → Prop} (hK : ∀ mi1 : Nat → Nat → Int32, (∀ o, o ≠ 66 → mi1 o = mi o) → Ts q n mi1 (fun _ => false) (fun _ _ => 0) (fun _ => 0) → K mi1 ml) : wpV G e 154 m_X7_clear [.ref 14] (mi, ml, RX y) K := by
  apply e_X7_clear
  refine p_tclear_loop mi (fun mi1 ho hz => hK mi1 ho (fun a ha => ⟨?_, fun z => absurd z Bool.false_ne_true⟩)) 49 0 mi rfl (fun _ _ => rfl) (fun k hk => absurd hk (by omega))
  rw [hz a ha]
  rfl
theorem p_dropTags_loop (mi0 : Nat → Nat → Int32) {K : (Nat → Nat → Int32) → (Nat → Nat → Int64) → Prop} (hK : ∀ mi1 : Nat → Nat → Int32, (∀ o, o ≠ 65 → mi1 o = mi0 o) → (∀ k, k < 49 → mi1 65 k = nI 0) → K mi1 ml) :
    ∀ (r i : Nat) (mi : Nat → Nat → Int32), i + r = 49 → (∀ o, o ≠ 65 → mi o = mi0 o) → (∀ k, k < i → mi 65 k = nI 0) → wp G e tX m_X7_dropTags 2 [(0, .ref 14), (1, .int (nI i))] [] (mi, ml, RX y) (QV K) := by
  intro r
  induction r with
  | zero =>
    intro i mi hi ho hz
    apply b_X7_dropTags_2
    simp (disch := omega) only [s_le, s_lt, s_eq, s_eq0, s_in, s_ix, s_rm, s_div, s_pdlt, s_pdle, s_lepd, s_pdpd, s_pdlepd, s_pdadd, nI_add, pk_mul, pd_succ, Nat.not_lt_zero, Nat.zero_lt_succ, not_false_eq_true, not_true_eq_false, false_implies, true_implies, implies_true, and_true, true_and, Nat.reduceLT, Nat.reduceLeDiff, Nat.reduceAdd, Nat.reduceSub, Nat.zero_add, Nat.add_zero]
    exact ⟨fun _ => hK mi ho (fun k hk => hz k (by omega)), fun c1 => absurd (show 49 ≤ i by omega) c1⟩
  | succ r ih =>
    intro i mi hi ho hz
    apply b_X7_dropTags_2
    simp (disch := omega) only [s_le, s_lt, s_eq, s_eq0, s_in, s_ix, s_rm, s_div, s_pdlt, s_pdle, s_lepd, s_pdpd, s_pdlepd, s_pdadd, nI_add, pk_mul, pd_succ, Nat.not_lt_zero, Nat.zero_lt_succ, not_false_eq_true, not_true_eq_false, false_implies, true_implies, implies_true, and_true, true_and, Nat.reduceLT, Nat.reduceLeDiff, Nat.reduceAdd, Nat.reduceSub, Nat.zero_add, Nat.add_zero]
    refine ⟨fun c1 => absurd c1 (by omega), fun _ => ⟨by omega, ?_⟩⟩
    refine ih (i + 1) _ (by omega) (fun o h => by rw [u2_off h]; exact ho o h) (fun k hk => ?_)
    rw [u2_on]
    show (if k = i then _ else _) = _
    by_cases c1 : k = i
    · rw [if_pos c1]
    · rw [if_neg c1]
      exact hz k (by omega)
theorem p_dropTags (hq0 : 0 < q) {fl : Nat → Bool} {rw : Nat → Nat → Nat} {tg : Nat → Nat} (h : Ts q n mi fl rw tg) {K : (Nat → Nat → Int32) → (Nat → Nat → Int64) → Prop} (hK : ∀ mi1 : Nat → Nat → Int32, (∀ o, o ≠ 65 → mi1 o = mi o) → Ts q n mi1 fl rw (fun _ => 0) → K mi1 ml) : wpV G e 154 m_X7_dropTags [.ref 14] (mi, ml, RX y) K := by
  apply e_X7_dropTags
  refine p_dropTags_loop mi (fun mi1 ho hz => hK mi1 ho (fun a ha => ?_)) 49 0 mi rfl (fun _ _ => rfl) (fun k hk => absurd hk (by omega))
  obtain ⟨h1, h2⟩ := h a ha
  refine ⟨by rw [ho 66 (by omega)]; exact h1, fun z => ⟨hz a ha, Nat.pow_pos hq0, fun j hj => ?_⟩⟩
  rw [ho (16 + a) (by omega)]
  exact (h2 z).2.2 j hj
theorem p_keep_loop {c p s : Nat} (hp : p < 49) (hs : s < q) (hc : isR c) (hc67 : 66 < c) {f : Nat → Nat} (mi0 : Nat → Nat → Int32) (h0 : En q m d n g mi0) (hf : Rw n mi0 c f) {K : (Nat → Nat → Int32) → (Nat → Nat → Int64) → Prop}
    (hK : ∀ mi1 : Nat → Nat → Int32, (∀ o, o ≠ 16 + p → mi1 o = mi0 o) → (∀ j, j < 7 → mi1 (16 + p) j = nI (cmb q s 13 0 (f j))) → K mi1 ml) :
    ∀ (r i : Nat) (mi : Nat → Nat → Int32), i + r = 7 → (∀ o, o ≠ 16 + p → mi o = mi0 o) → (∀ j, j < i → mi (16 + p) j = nI (cmb q s 13 0 (f j))) →
      wp G e tX m_X7_keep 27 [(0, .ref 14), (1, .ref c), (3, .int (nI p)), (4, .int (nI s)), (5, .int (nI i))] [] (mi, ml, RX y) (QV K) := by
  have hcN := hc.2
  have w := h0.w
  have hq2 := w.q2
  have hw2 := w.n2
  obtain ⟨t1, t2⟩ := ties_at hp
  intro r
  induction r with
  | zero =>
    intro i mi hi ho hz
    apply b_X7_keep_27
    simp (disch := omega) only [s_le, s_lt, s_eq, s_eq0, s_in, s_ix, s_rm, s_div, s_pdlt, s_pdle, s_lepd, s_pdpd, s_pdlepd, s_pdadd, nI_add, pk_mul, pd_succ, Nat.not_lt_zero, Nat.zero_lt_succ, not_false_eq_true, not_true_eq_false, false_implies, true_implies, implies_true, and_true, true_and, Nat.reduceLT, Nat.reduceLeDiff, Nat.reduceAdd, Nat.reduceSub, Nat.zero_add, Nat.add_zero]
    exact ⟨fun _ => hK mi ho (fun j hj => hz j (by omega)), fun c1 => absurd (show 7 ≤ i by omega) c1⟩
  | succ r ih =>
    intro i mi hi ho hz
    have hE : En q m d n g mi := h0.off (fun o o1 o2 => ho o (by omega))
    have step : ∀ v, v = nI (cmb q s 13 0 (f i)) → wp G e tX m_X7_keep 27 [(0, .ref 14), (1, .ref c), (3, .int (nI p)), (4, .int (nI s)), (5, .int (nI (i + 1)))] [] (u2 mi (16 + p) i v, ml, RX y) (QV K) := by
      intro v hv
      refine ih (i + 1) _ (by omega) (fun o h => by rw [u2_off h]; exact ho o h) (fun k hk => ?_)
      rw [u2_on]
      show (if k = i then _ else _) = _
      by_cases c1 : k = i
      · rw [if_pos c1, hv, c1]
      · rw [if_neg c1]
        exact hz k (by omega)
    apply b_X7_keep_27
    simp (disch := omega) only [s_le, s_lt, s_eq, s_eq0, s_in, s_ix, s_rm, s_div, s_pdlt, s_pdle, s_lepd, s_pdpd, s_pdlepd, s_pdadd, nI_add, pk_mul, pd_succ, Nat.not_lt_zero, Nat.zero_lt_succ, not_false_eq_true, not_true_eq_false, false_implies, true_implies, implies_true, and_true, true_and, Nat.reduceLT, Nat.reduceLeDiff, Nat.reduceAdd, Nat.reduceSub, Nat.zero_add, Nat.add_zero]
    refine ⟨fun c1 => absurd c1 (by omega), fun _ => ⟨by omega, hc.1, fun c1 => ⟨⟨t1, by omega⟩, by rw [t2]; omega, ?_⟩, fun c1 => ⟨hc.1, by omega, ?_⟩⟩⟩
    · refine step _ ?_
      rw [hf.2.1 i (by omega), cmb_zero _ hq2]
    · rw [ho c (by omega), hf.1 i (by omega)]
      refine p_mix hE.1 (Nat.pow_pos (by omega)) (w.lt13 (hf.2.2 i)) hs ⟨⟨t1, by omega⟩, by rw [t2]; omega, ?_⟩
      exact step _ rfl
theorem p_keep (h0 : En q m d n g mi) {c p s t : Nat} (hp : p < 49) (hs : s < q) (ht : t < q ^ 13) (hc : isR c) (hc67 : 66 < c) {f : Nat → Nat} (hf : Rw n mi c f) {fl : Nat → Bool} {rw : Nat → Nat → Nat} {tg : Nat → Nat} (hT : Ts q n mi fl rw tg) (hsc : s = ksc q p f) {K : (Nat → Nat → Int32) → (Nat → Nat → Int64) → Prop}
    (hK : ∀ mi1 : Nat → Nat → Int32, (∀ o, (o < 16 ∨ 66 < o) → mi1 o = mi o) → Ts q n mi1 (kfl fl p) (krw q rw p f) (ktg q tg p t f) → K mi1 ml) :
    wpV G e 154 m_X7_keep [.ref 14, .ref c, .int (nI t), .int (nI p), .int (nI s)] (mi, ml, RX y) K := by
  have w := h0.w
  have hq2 := w.q2
  have hw2 := w.n2
  apply e_X7_keep
  simp (disch := omega) only [s_le, s_lt, s_eq, s_eq0, s_in, s_ix, s_rm, s_div, s_pdlt, s_pdle, s_lepd, s_pdpd, s_pdlepd, s_pdadd, nI_add, pk_mul, pd_succ, Nat.not_lt_zero, Nat.zero_lt_succ, not_false_eq_true, not_true_eq_false, false_implies, true_implies, implies_true, and_true, true_and, Nat.reduceLT, Nat.reduceLeDiff, Nat.reduceAdd, Nat.reduceSub, Nat.zero_add, Nat.add_zero]
  refine ⟨by omega, Or.inr rfl, ?_⟩
  have hE : En q m d n g (u2 mi 66 p (nI 1)) := h0.off (fun o o1 o2 => u2_off (by omega))
  refine p_mix hE.1 (Nat.pow_pos (by omega)) ht hs ⟨by omega, ?_⟩
  have hE2 : En q m d n g (u2 (u2 mi 66 p (nI 1)) 65 p (nI (cmb q s 13 0 t))) := hE.off (fun o o1 o2 => u2_off (by omega))
  refine p_keep_loop hp hs hc hc67 _ hE2 ((hf.off (u2_off (by omega))).off (u2_off (by omega))) ?_ 7 0 _ rfl (fun _ _ => rfl) (fun j hj => absurd hj (by omega))
  intro mi1 ho hr
  refine hK mi1 (fun o ho2 => by rw [ho o (by omega), u2_off (by omega), u2_off (by omega)]) (fun a ha => ?_)
  obtain ⟨T1, T2⟩ := hT a ha
  refine ⟨?_, fun z => ⟨?_, ?_, fun j hj => ?_⟩⟩
  · rw [ho 66 (by omega), u2_off (by omega), u2_on]
    show (if a = p then _ else _) = nI (if (if a = p then true else fl a) = true then 1 else 0)
    by_cases c1 : a = p
    · rw [if_pos c1, if_pos c1]
      rfl
    · rw [if_neg c1, if_neg c1]
      exact T1
  · rw [ho 65 (by omega), u2_on]
    show (if a = p then _ else _) = nI (if a = p then _ else _)
    by_cases c1 : a = p
    · rw [if_pos c1, if_pos c1, hsc]
    · rw [if_neg c1, if_neg c1, u2_off (by omega)]
      have z1 : (if a = p then true else fl a) = true := z
      rw [if_neg c1] at z1
      exact (T2 z1).1
  · show (if a = p then _ else _) < _
    by_cases c1 : a = p
    · rw [if_pos c1]
      exact cmb_lt _ hq2 13 _ _
    · rw [if_neg c1]
      have z1 : (if a = p then true else fl a) = true := z
      rw [if_neg c1] at z1
      exact (T2 z1).2.1
  · show _ = nI (if a = p then _ else _) ∧ (if a = p then _ else _) < _
    by_cases c1 : a = p
    · subst c1
      rw [if_pos rfl, ← hsc]
      exact ⟨hr j hj, cmb_ltn w (by omega) (hf.2.2 j)⟩
    · rw [if_neg c1, ho (16 + a) (by omega), u2_off (by omega), u2_off (by omega)]
      have z1 : (if a = p then true else fl a) = true := z
      rw [if_neg c1] at z1
      exact (T2 z1).2.2 j hj
end TIE
