/-! class Rests -/
/-- the i-th power of x by m -/
def gp (q m x : Nat) : Nat → Nat
  | 0 => 1
  | i + 1 => pby q (gp q m x i) x m
theorem pby_zero {q : Nat} (h2 : 2 ≤ q) (b m : Nat) : pby q 0 b m = 0 := by
  unfold pby
  rw [ln_zero h2]
  rfl
theorem gp_stay {q m x : Nat} (h2 : 2 ≤ q) {i : Nat} (hi : gp q m x i = 0) : ∀ k, gp q m x (i + k) = 0
  | 0 => hi
  | k + 1 => by
    show pby q (gp q m x (i + k)) x m = 0
    rw [gp_stay h2 hi k]
    exact pby_zero h2 _ _
/-- x makes all but 0 -/
def full (q m n x : Nat) : Prop := gp q m x (n - 1) = 1 ∧ ∀ i, 0 < i → i < n - 1 → gp q m x i ≠ 1
/-- a world's numbers: q, the modulus, its degree, how many rests -/
def Wd (q m d n : Nat) : Prop := (q = 2 ∨ q = 3 ∨ q = 5) ∧ m < q ^ 13 ∧ ln q 13 m = d + 1 ∧ dg q m d = 1 ∧ 1 ≤ d ∧ n = q ^ d ∧ n ≤ 128
theorem Wd.n2 {q m d n : Nat} (h : Wd q m d n) : 2 ≤ n := by
  obtain ⟨hq, -, -, -, h1, rfl, -⟩ := h
  have : q ^ 1 ≤ q ^ d := Nat.pow_le_pow_right (by omega) h1
  rw [Nat.pow_one] at this
  omega
theorem Wd.d7 {q m d n : Nat} (h : Wd q m d n) : d ≤ 7 := by
  obtain ⟨hq, -, -, -, h1, rfl, h2⟩ := h
  rcases Nat.lt_or_ge 7 d with c | c
  · have e1 : 2 ^ 8 ≤ 2 ^ d := Nat.pow_le_pow_right (by omega) c
    have e2 : 2 ^ d ≤ q ^ d := Nat.pow_le_pow_left (by omega) d
    omega
  · exact c
theorem gp_lt {q m d n x : Nat} (h : Wd q m d n) (hx : x < n) : ∀ i, gp q m x i < n := by
  have hn := h.n2
  obtain ⟨hq, hm, hl, hd, h1, rfl, h2⟩ := h
  intro i
  cases i with
  | zero => show 1 < _; omega
  | succ i => exact pby_lt (by omega) hl hm hd hx
def off45 (mi mi1 : Nat → Nat → Int32) : Prop := ∀ o, o ≠ 4 → o ≠ 5 → mi1 o = mi o
theorem Fg.off {q : Nat} {mi mi1 : Nat → Nat → Int32} (h : Fg q mi) (h1 : mi1 1 = mi 1) (h2 : mi1 2 = mi 2) : Fg q mi1 := ⟨h.1, by rw [h1]; exact h.2.1, fun k hk => by rw [h2]; exact h.2.2 k hk⟩
/-- the first i powers of x stand in the tables -/
def lst1 (q m x i : Nat) (mi : Nat → Nat → Int32) : Prop := (∀ j, j < i → mi 4 j = nI (gp q m x j)) ∧ ∀ v, (∃ j, j < i ∧ gp q m x j = v) → ∃ j, j < i ∧ gp q m x j = v ∧ mi 5 v = nI j
section RST
variable {G : GC} {e q m d n : Nat} {mi : Nat → Nat → Int32} {ml : Nat → Nat → Int64} {y : Nat → Nat → Option Nat}
theorem lst1_put {x i : Nat} (h : lst1 q m x i mi) : lst1 q m x (i + 1) (u2 (u2 mi 4 i (nI (gp q m x i))) 5 (gp q m x i) (nI i)) := by
  refine ⟨fun j hj => ?_, fun v hv => ?_⟩
  · show (if 4 = 5 ∧ j = _ then _ else (if 4 = 4 ∧ j = i then _ else _)) = _
    rw [if_neg (by omega)]
    by_cases c : j = i
    · rw [if_pos ⟨rfl, c⟩, c]
    · rw [if_neg (by omega)]
      exact h.1 j (by omega)
  · by_cases c : v = gp q m x i
    · refine ⟨i, by omega, c.symm, ?_⟩
      show (if 5 = 5 ∧ v = _ then _ else _) = _
      rw [if_pos ⟨rfl, c⟩]
    · obtain ⟨j, hj, hv⟩ := hv
      have hji : j ≠ i := fun z => c (by rw [← hv, z])
      obtain ⟨j2, h1, h3, h4⟩ := h.2 v ⟨j, by omega, hv⟩
      refine ⟨j2, by omega, h3, ?_⟩
      show (if 5 = 5 ∧ v = _ then _ else (if 5 = 4 ∧ v = i then _ else _)) = _
      rw [if_neg (fun z => c z.2), if_neg (by omega)]
      exact h4
theorem p_list_loop (w : Wd q m d n) {x : Nat} (hx : x < n) (mi0 : Nat → Nat → Int32) (h0 : Fg q mi0) (hm0 : mi0 3 1 = nI m) (hn0 : mi0 3 3 = nI n) {K : Int32 → (Nat → Nat → Int32) → (Nat → Nat → Int64) → Prop}
    (hK : ∀ (r : Nat) (mi1 : Nat → Nat → Int32), off45 mi0 mi1 → r ≤ n - 1 → (0 < r → gp q m x r = 1 ∧ (∀ i, 0 < i → i < r → gp q m x i ≠ 1) ∧ lst1 q m x r mi1) → (r = 0 → (∀ i, 0 < i → i ≤ n - 1 → gp q m x i ≠ 1) ∨ ∃ i, i ≤ n - 1 ∧ gp q m x i = 0) → K (nI r) mi1 ml) :
    ∀ (k i : Nat) (mi : Nat → Nat → Int32), i + k = n - 1 → off45 mi0 mi → lst1 q m x i mi → (∀ j, 0 < j → j ≤ i → gp q m x j ≠ 1) → wp G e tX m_X5_listPowers 4 [(0, .ref 3), (1, .int (nI x)), (2, .int (nI (gp q m x i))), (3, .int (nI i))] [] (mi, ml, RX y) (QI K) := by
  have hn2 := w.n2
  have hq2 : 2 ≤ q := h0.two.1
  have hpl := gp_lt w hx
  obtain ⟨hq, hm, hl, hd, hd1, hnq, hn128⟩ := id w
  intro k
  induction k with
  | zero =>
    intro i mi hi ho ht hone
    have e3 : mi 3 3 = nI n := by rw [ho 3 (by omega) (by omega)]; exact hn0
    apply b_X5_listPowers_4
    rw [e3, s_sub (by omega)]
    have := hpl i
    simp (disch := omega) only [s_le, s_lt, s_eq, s_eq0, s_in, s_ix, s_rm, s_div, s_pdlt, s_pdle, s_lepd, s_pdpd, s_pdlepd, s_pdadd, nI_add, pk_mul, pd_succ, Nat.not_lt_zero, Nat.zero_lt_succ, not_false_eq_true, not_true_eq_false, false_implies, true_implies, implies_true, and_true, true_and, Nat.reduceLT, Nat.reduceLeDiff, Nat.reduceAdd, Nat.reduceSub, Nat.zero_add, Nat.add_zero]
    refine ⟨fun _ => ?_, fun c => absurd c (by omega)⟩
    exact hK 0 mi ho (by omega) (fun c => absurd c (by omega)) (fun _ => Or.inl fun j h1 h2 => hone j h1 (by omega))
  | succ k ih =>
    intro i mi hi ho ht hone
    have e3 : mi 3 3 = nI n := by rw [ho 3 (by omega) (by omega)]; exact hn0
    have e1 : mi 3 1 = nI m := by rw [ho 3 (by omega) (by omega)]; exact hm0
    have hp := hpl i
    apply b_X5_listPowers_4
    rw [e3, s_sub (by omega)]
    simp (disch := omega) only [s_le, s_lt, s_eq, s_eq0, s_in, s_ix, s_rm, s_div, s_pdlt, s_pdle, s_lepd, s_pdpd, s_pdlepd, s_pdadd, nI_add, pk_mul, pd_succ, Nat.not_lt_zero, Nat.zero_lt_succ, not_false_eq_true, not_true_eq_false, false_implies, true_implies, implies_true, and_true, true_and, Nat.reduceLT, Nat.reduceLeDiff, Nat.reduceAdd, Nat.reduceSub, Nat.zero_add, Nat.add_zero]
    refine ⟨fun c => absurd c (by omega), fun _ => ⟨fun c => ?_, fun c => ⟨fun c2 => absurd c2 (by omega), fun _ => ⟨by omega, by omega, ?_⟩⟩⟩⟩
    · exact hK 0 mi ho (by omega) (fun c => absurd c (by omega)) (fun _ => Or.inr ⟨i, by omega, by omega⟩)
    · have e4 : u2 (u2 mi 4 i (nI (gp q m x i))) 5 (gp q m x i) (nI i) 3 1 = nI m := by
        rw [← e1]
        show (if 3 = 5 ∧ _ then _ else (if 3 = 4 ∧ _ then _ else _)) = _
        rw [if_neg (by omega), if_neg (by omega)]
      rw [e4]
      have ho1 : off45 mi0 (u2 (u2 mi 4 i (nI (gp q m x i))) 5 (gp q m x i) (nI i)) := fun o h4 h5 => by
        rw [u2_off h5, u2_off h4]
        exact ho o h4 h5
      have hF : Fg q (u2 (u2 mi 4 i (nI (gp q m x i))) 5 (gp q m x i) (nI i)) := h0.off (ho1 1 (by omega) (by omega)) (ho1 2 (by omega) (by omega))
      have hp13 : gp q m x i < q ^ 13 := Nat.lt_of_lt_of_le (by rw [← hnq]; exact hp) (Nat.pow_le_pow_right (by omega) (by have := w.d7; omega))
      refine p_productBy hF hp13 hl hm hd (by rw [← hnq]; exact hx) ?_
      have hnext : pby q (gp q m x i) x m = gp q m x (i + 1) := rfl
      have hp1 := hpl (i + 1)
      rw [hnext]
      simp (disch := omega) only [s_le, s_lt, s_eq, s_eq0, s_in, s_ix, s_rm, s_div, s_pdlt, s_pdle, s_lepd, s_pdpd, s_pdlepd, s_pdadd, nI_add, pk_mul, pd_succ, Nat.not_lt_zero, Nat.zero_lt_succ, not_false_eq_true, not_true_eq_false, false_implies, true_implies, implies_true, and_true, true_and, Nat.reduceLT, Nat.reduceLeDiff, Nat.reduceAdd, Nat.reduceSub, Nat.zero_add, Nat.add_zero]
      refine ⟨fun c1 => ih (i + 1) _ (by omega) ho1 (lst1_put ht) (fun j h1 h2 => ?_), fun c1 => ?_⟩
      · by_cases z : j = i + 1
        · rw [z]; exact c1
        · exact hone j h1 (by omega)
      · exact hK (i + 1) _ ho1 (by omega) (fun _ => ⟨c1, fun j h1 h2 => hone j h1 (by omega), lst1_put ht⟩) (fun z => absurd z (by omega))
theorem p_listPowers (w : Wd q m d n) {x : Nat} (hx : x < n) (h0 : Fg q mi) (hm0 : mi 3 1 = nI m) (hn0 : mi 3 3 = nI n) {K : Int32 → (Nat → Nat → Int32) → (Nat → Nat → Int64) → Prop}
    (hK : ∀ (r : Nat) (mi1 : Nat → Nat → Int32), off45 mi mi1 → r ≤ n - 1 → (0 < r → gp q m x r = 1 ∧ (∀ i, 0 < i → i < r → gp q m x i ≠ 1) ∧ lst1 q m x r mi1) → (r = 0 → (∀ i, 0 < i → i ≤ n - 1 → gp q m x i ≠ 1) ∨ ∃ i, i ≤ n - 1 ∧ gp q m x i = 0) → K (nI r) mi1 ml) :
    wpI G e 154 m_X5_listPowers [.ref 3, .int (nI x)] (mi, ml, RX y) K := by
  apply e_X5_listPowers
  exact p_list_loop w hx mi h0 hm0 hn0 hK (n - 1) 0 mi (by omega) (fun _ _ _ => rfl) ⟨fun j hj => absurd hj (by omega), fun v ⟨j, hj, _⟩ => absurd hj (by omega)⟩ (fun j h1 h2 => absurd h2 (by omega))
/-- the tables of Rests: the maker g, its powers, the turns -/
def Rt (q m d n g : Nat) (mi : Nat → Nat → Int32) : Prop := Wd q m d n ∧ 1 ≤ g ∧ g < n ∧ full q m n g ∧ mi 3 1 = nI m ∧ mi 3 2 = nI d ∧ mi 3 3 = nI n ∧ lst1 q m g (n - 1) mi ∧ ∀ i, i < 13 → mi 6 i = nI (q ^ i % (n - 1))
def off4 (mi mi1 : Nat → Nat → Int32) : Prop := ∀ o, o ≠ 3 → o ≠ 4 → o ≠ 5 → o ≠ 6 → mi1 o = mi o
theorem p_turns_loop (w : Wd q m d n) {g : Nat} (mi0 : Nat → Nat → Int32) (h0 : Fg q mi0) (hg : 1 ≤ g ∧ g < n ∧ full q m n g) {K : (Nat → Nat → Int32) → (Nat → Nat → Int64) → Prop}
    (hK : ∀ mi1 : Nat → Nat → Int32, off4 mi0 mi1 → Rt q m d n g mi1 → K mi1 ml) :
    ∀ (k i : Nat) (mi : Nat → Nat → Int32), i + k = 13 → off4 mi0 mi → mi 3 1 = nI m → mi 3 2 = nI d → mi 3 3 = nI n → lst1 q m g (n - 1) mi → (∀ j, j < i → mi 6 j = nI (q ^ j % (n - 1))) →
      wp G e tX m_X5_setModulus 97 [(0, .ref 3), (5, .int (nI (q ^ i % (n - 1)))), (6, .int (nI i))] [] (mi, ml, RX y) (QV K) := by
  have hn2 := w.n2
  have h2 := h0.two
  have hn128 : n ≤ 128 := w.2.2.2.2.2.2
  intro k
  induction k with
  | zero =>
    intro i mi hi ho e1 e2 e3 hl ht
    apply b_X5_setModulus_97
    simp (disch := omega) only [s_le, s_lt, s_eq, s_eq0, s_in, s_ix, s_rm, s_div, s_pdlt, s_pdle, s_lepd, s_pdpd, s_pdlepd, s_pdadd, nI_add, pk_mul, pd_succ, Nat.not_lt_zero, Nat.zero_lt_succ, not_false_eq_true, not_true_eq_false, false_implies, true_implies, implies_true, and_true, true_and, Nat.reduceLT, Nat.reduceLeDiff, Nat.reduceAdd, Nat.reduceSub, Nat.zero_add, Nat.add_zero]
    exact ⟨fun _ => hK mi ho ⟨w, hg.1, hg.2.1, hg.2.2, e1, e2, e3, hl, fun j hj => ht j (by omega)⟩, fun c => absurd c (by omega)⟩
  | succ k ih =>
    intro i mi hi ho e1 e2 e3 hl ht
    have hmod : q ^ i % (n - 1) < 128 := by
      have := Nat.mod_lt (q ^ i) (show 0 < n - 1 by omega)
      omega
    apply b_X5_setModulus_97
    simp (disch := omega) only [s_le, s_lt, s_eq, s_eq0, s_in, s_ix, s_rm, s_div, s_pdlt, s_pdle, s_lepd, s_pdpd, s_pdlepd, s_pdadd, nI_add, pk_mul, pd_succ, Nat.not_lt_zero, Nat.zero_lt_succ, not_false_eq_true, not_true_eq_false, false_implies, true_implies, implies_true, and_true, true_and, Nat.reduceLT, Nat.reduceLeDiff, Nat.reduceAdd, Nat.reduceSub, Nat.zero_add, Nat.add_zero]
    refine ⟨fun c => absurd c (by omega), fun _ => ⟨by omega, ?_⟩⟩
    have hu : ∀ o, o ≠ 6 → u2 mi 6 i (nI (q ^ i % (n - 1))) o = mi o := fun o h => u2_off h
    have ho1 : off4 mi0 (u2 mi 6 i (nI (q ^ i % (n - 1)))) := fun o a3 a4 a5 a6 => by rw [hu o a6]; exact ho o a3 a4 a5 a6
    refine p_base (h0.off (ho1 1 (by omega) (by omega) (by omega) (by omega)) (ho1 2 (by omega) (by omega) (by omega) (by omega))) ?_
    rw [hu 3 (by omega), e3, s_sub (by omega)]
    have hmq : q ^ i % (n - 1) * q < 2 ^ 31 := by
      have : q ^ i % (n - 1) * q ≤ 128 * 5 := Nat.mul_le_mul (by omega) h2.2
      omega
    simp (disch := omega) only [s_le, s_lt, s_eq, s_eq0, s_in, s_ix, s_rm, s_div, s_pdlt, s_pdle, s_lepd, s_pdpd, s_pdlepd, s_pdadd, nI_add, pk_mul, pd_succ, Nat.not_lt_zero, Nat.zero_lt_succ, not_false_eq_true, not_true_eq_false, false_implies, true_implies, implies_true, and_true, true_and, Nat.reduceLT, Nat.reduceLeDiff, Nat.reduceAdd, Nat.reduceSub, Nat.zero_add, Nat.add_zero]
    refine ⟨by omega, ?_⟩
    have e9 : q ^ i % (n - 1) * q % (n - 1) = q ^ (i + 1) % (n - 1) := by rw [Nat.pow_succ, Nat.mod_mul_mod]
    rw [e9]
    refine ih (i + 1) _ (by omega) ho1 (by rw [hu 3 (by omega)]; exact e1) (by rw [hu 3 (by omega)]; exact e2) (by rw [hu 3 (by omega)]; exact e3) ?_ (fun j hj => ?_)
    · refine ⟨fun j hj => by rw [hu 4 (by omega)]; exact hl.1 j hj, fun v hv => ?_⟩
      obtain ⟨j, a1, a2, a3⟩ := hl.2 v hv
      exact ⟨j, a1, a2, by rw [hu 5 (by omega)]; exact a3⟩
    · show (if 6 = 6 ∧ j = i then _ else _) = _
      by_cases c : j = i
      · rw [if_pos ⟨rfl, c⟩, c]
      · rw [if_neg (fun z => c z.2)]
        exact ht j (by omega)
theorem p_maker_loop (w : Wd q m d n) {g0 : Nat} (hg0 : g0 < n ∧ full q m n g0) (mi0 : Nat → Nat → Int32) (h0 : Fg q mi0) {K : (Nat → Nat → Int32) → (Nat → Nat → Int64) → Prop}
    (hK : ∀ (g : Nat) (mi1 : Nat → Nat → Int32), off4 mi0 mi1 → Rt q m d n g mi1 → K mi1 ml) :
    ∀ (k x : Nat) (mi : Nat → Nat → Int32), x + k = g0 → 1 ≤ x → off4 mi0 mi → mi 3 1 = nI m → mi 3 2 = nI d → mi 3 3 = nI n →
      wp G e tX m_X5_setModulus 54 [(0, .ref 3), (4, .int (nI x))] [] (mi, ml, RX y) (QV K) := by
  have hn2 := w.n2
  have h2 := h0.two
  have hn128 : n ≤ 128 := w.2.2.2.2.2.2
  intro k
  induction k with
  | zero =>
    intro x mi hx h1 ho e1 e2 e3
    have hxg : x = g0 := by omega
    subst hxg
    apply b_X5_setModulus_54
    rw [e3]
    simp (disch := omega) only [s_le, s_lt, s_eq, s_eq0, s_in, s_ix, s_rm, s_div, s_pdlt, s_pdle, s_lepd, s_pdpd, s_pdlepd, s_pdadd, nI_add, pk_mul, pd_succ, Nat.not_lt_zero, Nat.zero_lt_succ, not_false_eq_true, not_true_eq_false, false_implies, true_implies, implies_true, and_true, true_and, Nat.reduceLT, Nat.reduceLeDiff, Nat.reduceAdd, Nat.reduceSub, Nat.zero_add, Nat.add_zero]
    refine ⟨fun c => absurd c (by omega), fun _ => ?_⟩
    refine p_listPowers w hg0.1 (h0.off (ho 1 (by omega) (by omega) (by omega) (by omega)) (ho 2 (by omega) (by omega) (by omega) (by omega))) e1 e3 ?_
    intro r mi1 ho1 hr ha hb
    have e31 : mi1 3 = mi 3 := ho1 3 (by omega) (by omega)
    have hr1 : r = n - 1 := by
      rcases Nat.eq_zero_or_pos r with z | z
      · exfalso
        rcases hb z with c | ⟨i, hi, c⟩
        · exact c (n - 1) (by omega) (Nat.le_refl _) hg0.2.1
        · have := gp_stay h2.1 c (n - 1 - i)
          rw [show i + (n - 1 - i) = n - 1 by omega, hg0.2.1] at this
          omega
      · rcases Nat.lt_or_ge r (n - 1) with c | c
        · exact absurd (ha z).1 (hg0.2.2 r z c)
        · omega
    subst hr1
    rw [e31, e3, s_sub (by omega)]
    simp (disch := omega) only [s_le, s_lt, s_eq, s_eq0, s_in, s_ix, s_rm, s_div, s_pdlt, s_pdle, s_lepd, s_pdpd, s_pdlepd, s_pdadd, nI_add, pk_mul, pd_succ, Nat.not_lt_zero, Nat.zero_lt_succ, not_false_eq_true, not_true_eq_false, false_implies, true_implies, implies_true, and_true, true_and, Nat.reduceLT, Nat.reduceLeDiff, Nat.reduceAdd, Nat.reduceSub, Nat.zero_add, Nat.add_zero]
    refine ⟨fun _ => ⟨by omega, ?_⟩, fun c => absurd c (by omega)⟩
    have := p_turns_loop (G := G) (e := e) (y := y) w mi0 h0 ⟨h1, hg0.1, hg0.2⟩ (hK x) 13 0 mi1 rfl (fun o a3 a4 a5 a6 => by rw [ho1 o a4 a5]; exact ho o a3 a4 a5 a6) (by rw [e31]; exact e1) (by rw [e31]; exact e2) (by rw [e31]; exact e3) (ha (by omega)).2.2 (fun j hj => absurd hj (by omega))
    rw [Nat.pow_zero] at this
    exact this
  | succ k ih =>
    intro x mi hx h1 ho e1 e2 e3
    apply b_X5_setModulus_54
    rw [e3]
    simp (disch := omega) only [s_le, s_lt, s_eq, s_eq0, s_in, s_ix, s_rm, s_div, s_pdlt, s_pdle, s_lepd, s_pdpd, s_pdlepd, s_pdadd, nI_add, pk_mul, pd_succ, Nat.not_lt_zero, Nat.zero_lt_succ, not_false_eq_true, not_true_eq_false, false_implies, true_implies, implies_true, and_true, true_and, Nat.reduceLT, Nat.reduceLeDiff, Nat.reduceAdd, Nat.reduceSub, Nat.zero_add, Nat.add_zero]
    refine ⟨fun c => absurd c (by omega), fun _ => ?_⟩
    refine p_listPowers w (x := x) (by omega) (h0.off (ho 1 (by omega) (by omega) (by omega) (by omega)) (ho 2 (by omega) (by omega) (by omega) (by omega))) e1 e3 ?_
    intro r mi1 ho1 hr ha hb
    have e31 : mi1 3 = mi 3 := ho1 3 (by omega) (by omega)
    rw [e31, e3, s_sub (by omega)]
    simp (disch := omega) only [s_le, s_lt, s_eq, s_eq0, s_in, s_ix, s_rm, s_div, s_pdlt, s_pdle, s_lepd, s_pdpd, s_pdlepd, s_pdadd, nI_add, pk_mul, pd_succ, Nat.not_lt_zero, Nat.zero_lt_succ, not_false_eq_true, not_true_eq_false, false_implies, true_implies, implies_true, and_true, true_and, Nat.reduceLT, Nat.reduceLeDiff, Nat.reduceAdd, Nat.reduceSub, Nat.zero_add, Nat.add_zero]
    refine ⟨fun c => ⟨by omega, ?_⟩, fun c => ?_⟩
    · have hr1 : r = n - 1 := by omega
      subst hr1
      have := p_turns_loop (G := G) (e := e) (y := y) w mi0 h0 ⟨h1, by omega, (ha (by omega)).1, (ha (by omega)).2.1⟩ (hK x) 13 0 mi1 rfl (fun o a3 a4 a5 a6 => by rw [ho1 o a4 a5]; exact ho o a3 a4 a5 a6) (by rw [e31]; exact e1) (by rw [e31]; exact e2) (by rw [e31]; exact e3) (ha (by omega)).2.2 (fun j hj => absurd hj (by omega))
      rw [Nat.pow_zero] at this
      exact this
    · exact ih (x + 1) mi1 (by omega) (by omega) (fun o a3 a4 a5 a6 => by rw [ho1 o a4 a5]; exact ho o a3 a4 a5 a6) (by rw [e31]; exact e1) (by rw [e31]; exact e2) (by rw [e31]; exact e3)
/-- a modulus that has a maker -/
theorem p_setModulus (w : Wd q m d n) (hg : ∃ g0, 1 ≤ g0 ∧ g0 < n ∧ full q m n g0) (h0 : Fg q mi) {K : (Nat → Nat → Int32) → (Nat → Nat → Int64) → Prop}
    (hK : ∀ (g : Nat) (mi1 : Nat → Nat → Int32), off4 mi mi1 → Rt q m d n g mi1 → K mi1 ml) : wpV G e 154 m_X5_setModulus [.ref 3, .int (nI m)] (mi, ml, RX y) K := by
  have hn2 := w.n2
  have hd7 := w.d7
  obtain ⟨hq, hm, hl, hd, hd1, hnq, hn128⟩ := id w
  obtain ⟨g0, hg1, hg2, hg3⟩ := hg
  apply e_X5_setModulus
  refine p_degree h0 hm ?_
  rw [hl, pd_succ]
  refine p_power h0 (by omega) ?_
  rw [← hnq]
  simp (disch := omega) only [s_le, s_lt, s_eq, s_eq0, s_in, s_ix, s_rm, s_div, s_pdlt, s_pdle, s_lepd, s_pdpd, s_pdlepd, s_pdadd, nI_add, pk_mul, pd_succ, Nat.not_lt_zero, Nat.zero_lt_succ, not_false_eq_true, not_true_eq_false, false_implies, true_implies, implies_true, and_true, true_and, Nat.reduceLT, Nat.reduceLeDiff, Nat.reduceAdd, Nat.reduceSub, Nat.zero_add, Nat.add_zero]
  refine ⟨fun c => absurd c (by omega), fun _ => ⟨fun c => absurd c (by omega), fun _ => ⟨fun _ => ?_, fun c => absurd hn128 c⟩⟩⟩
  refine p_maker_loop w ⟨hg2, hg3⟩ mi h0 hK (g0 - 1) 1 _ (by omega) (Nat.le_refl _) (fun o a3 _ _ _ => by rw [u2_off a3, u2_off a3, u2_off a3]) ?_ ?_ ?_
  · rfl
  · rfl
  · rfl
end RST
