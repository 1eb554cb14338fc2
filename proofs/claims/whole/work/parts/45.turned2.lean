/-! class Turned: multiply, divide, valueAt -/
def tmi (q m d : Nat) (f h : Nat → Nat) (n : Nat) : Nat → Nat → Nat → Nat
  | 0, _, s => s
  | r + 1, j, s => tmi q m d f h n r (j + 1) (cmb q 1 13 s (mu q m (f (n - j)) (tu q m d (h j) (n - j))))
/-- the coefficient of t^k of f times h -/
def cv (q m d : Nat) (f h : Nat → Nat) (k : Nat) : Nat := tmi q m d f h k (k + 1) 0 0
theorem tmi_lt {q m d n : Nat} (w : Wd q m d n) {f h : Nat → Nat} (hh : ∀ k, h k < n) (N : Nat) : ∀ r j s, s < n → tmi q m d f h N r j s < n
  | 0, _, _, hs => hs
  | r + 1, j, s, hs => tmi_lt w hh N r (j + 1) _ (cmb_ltn w hs (mu_lt w (tu_lt w (hh j))))
theorem cv_lt {q m d n : Nat} (w : Wd q m d n) {f h : Nat → Nat} (hh : ∀ k, h k < n) (k : Nat) : cv q m d f h k < n := tmi_lt w hh k _ _ 0 (by have := w.n2; omega)
theorem tmi_add {q m d : Nat} {f h : Nat → Nat} (N : Nat) : ∀ r r2 j s, tmi q m d f h N (r + r2) j s = tmi q m d f h N r2 (j + r) (tmi q m d f h N r j s)
  | 0, r2, j, s => by rw [Nat.zero_add]; rfl
  | r + 1, r2, j, s => by
    rw [Nat.add_right_comm]
    show tmi q m d f h N (r + r2) (j + 1) _ = _
    rw [tmi_add N r r2 (j + 1), Nat.add_assoc j 1 r, Nat.add_comm 1 r]
    rfl
/-- terms that are nought -/
theorem tmi_nil {q m d n : Nat} (w : Wd q m d n) {f h : Nat → Nat} (N : Nat) : ∀ r j s, s < n → (∀ i, j ≤ i → i < j + r → f (N - i) = 0 ∨ h i = 0) → tmi q m d f h N r j s = s
  | 0, _, _, _, _ => rfl
  | r + 1, j, s, hs, hz => by
    have h2 := w.q2
    unfold tmi
    have e : mu q m (f (N - j)) (tu q m d (h j) (N - j)) = 0 := by
      rcases hz j (Nat.le_refl _) (by omega) with c | c
      · rw [c, mu_0l h2]
      · rw [c, tu_0 h2, mu_0r h2]
    rw [e]
    have e2 : cmb q 1 13 s 0 = s := by
      refine dg_ext h2 (cmb_lt 1 h2 13 _ _) (w.lt13 hs) (fun k hk => ?_)
      rw [cmb_dg 1 h2, if_pos hk, dg_zero, Nat.mul_zero, Nat.add_zero, Nat.mod_eq_of_lt (dg_lt h2)]
    rw [e2]
    exact tmi_nil w N r (j + 1) s hs (fun i h1 h3 => hz i (by omega) (by omega))
theorem cv_stop {q m d n : Nat} (w : Wd q m d n) {f h : Nat → Nat} (hh : ∀ k, h k < n) {L : Nat} (hL : ∀ k, L ≤ k → h k = 0) (k : Nat) : tmi q m d f h k (min L (k + 1)) 0 0 = cv q m d f h k := by
  have e : k + 1 = min L (k + 1) + (k + 1 - min L (k + 1)) := by omega
  unfold cv
  conv => rhs; rw [e]
  rw [tmi_add, tmi_nil w _ _ _ _ (tmi_lt w hh k _ _ 0 (by have := w.n2; omega))]
  intro i h1 h2
  exact Or.inr (hL i (by omega))
theorem cv_top {q m d n : Nat} (w : Wd q m d n) {f h : Nat → Nat} {F L : Nat} (hF : ∀ k, F ≤ k → f k = 0) (hL : ∀ k, L ≤ k → h k = 0) {k : Nat} (hk : F + L ≤ k + 1) : cv q m d f h k = 0 := by
  unfold cv
  refine tmi_nil w _ _ _ _ (by have := w.n2; omega) (fun i h1 h2 => ?_)
  by_cases c : L ≤ i
  · exact Or.inr (hL i c)
  · exact Or.inl (hF _ (by omega))
theorem pd_addn {a b : Nat} : pd a + nI b = pd (a + b) := by
  unfold pd
  rw [Int32.add_assoc, Int32.add_comm (-(nI 1)), ← Int32.add_assoc, nI_add]
/-- c less x t^k h -/
def dvi (q m d : Nat) (h f : Nat → Nat) (x k : Nat) : Nat → Nat := fun i => if k ≤ i then cmb q (q - 1) 13 (f i) (mu q m x (tu q m d (h (i - k)) k)) else f i
def dvl (q m d n : Nat) (h : Nat → Nat) (low : Nat) : Nat → (Nat → Nat) → (Nat → Nat) → (Nat → Nat) × (Nat → Nat)
  | 0, f, w => (f, w)
  | k + 1, f, w => dvl q m d n h low k (dvi q m d h f (dv q m n (f (k + low)) (tu q m d (h low) k)) k) (up1 w k (dv q m n (f (k + low)) (tu q m d (h low) k)))
/-- what f leaves by h, and f by h; N: how long a row is at most -/
def dvd (q m d n N : Nat) (f h : Nat → Nat) : (Nat → Nat) × (Nat → Nat) := dvl q m d n h (rl h N - 1) (rl f N - (rl h N - 1)) f (fun _ => 0)
def vls (q m d : Nat) (f : Nat → Nat) (x : Nat) : Nat → Nat
  | 0 => 0
  | i + 1 => cmb q 1 13 (vls q m d f x i) (mu q m (f i) (tu q m d x i))
theorem vls_lt {q m d n : Nat} (w : Wd q m d n) {f : Nat → Nat} {x : Nat} (hx : x < n) : ∀ i, vls q m d f x i < n
  | 0 => by have := w.n2; show 0 < n; omega
  | i + 1 => cmb_ltn w (vls_lt w hx i) (mu_lt w (tu_lt w hx))
theorem cmb_0r {q s a : Nat} (h2 : 2 ≤ q) (ha : a < q ^ 13) : cmb q s 13 a 0 = a := by
  refine dg_ext h2 (cmb_lt s h2 13 _ _) ha (fun k hk => ?_)
  rw [cmb_dg s h2, if_pos hk, dg_zero, Nat.mul_zero, Nat.add_zero, Nat.mod_eq_of_lt (dg_lt h2)]
/-- what f makes of x; N: how long f's row is at most -/
theorem vls_ext {q m d n : Nat} (w : Wd q m d n) {f : Nat → Nat} {x N M : Nat} (hx : x < n) (h : N ≤ M) (hz : ∀ k, N ≤ k → f k = 0) : vls q m d f x M = vls q m d f x N := by
  have h2 := w.q2
  induction M with
  | zero =>
    have : N = 0 := by omega
    rw [this]
  | succ M ih =>
    by_cases c : N = M + 1
    · rw [c]
    · show cmb q 1 13 _ _ = _
      rw [hz M (by omega), mu_0l h2, cmb_0r h2 (w.lt13 (vls_lt w hx M))]
      exact ih (by omega)
section TUR2
variable {G : GC} {e q m d n g : Nat} {mi : Nat → Nat → Int32} {ml : Nat → Nat → Int64} {y : Nat → Nat → Option Nat}
theorem p_mul_in {c b : Nat} (hc : isR c) (hb : isR b) (hcb : c ≠ b) (h16 : 6 < c ∧ 6 < b) {f h : Nat → Nat} (mi0 : Nat → Nat → Int32) (h0 : En q m d n g mi0) (hf : ∀ k, f k < n) (hh : Rw n mi0 b h) {L N : Nat} (hL : L ≤ an b) (hN : N < an c) {K : Int32 → (Nat → Nat → Int32) → (Nat → Nat → Int64) → Prop} (hz : ∀ k, k ≤ N → mi0 c k = nI (f k)) :
    ∀ (r j s : Nat), j + r = min L (N + 1) → s < n → wp G e tX m_X8_multiply 46 [(0, .ref 10), (1, .ref c), (2, .ref b), (4, .int (pd L)), (5, .int (pd N))] [] (u2 mi0 c N (nI (tmi q m d f h N r j s)), ml, RX y) (QI K) →
      wp G e tX m_X8_multiply 64 [(0, .ref 10), (1, .ref c), (2, .ref b), (4, .int (pd L)), (5, .int (nI N)), (6, .int (nI s)), (7, .int (nI j))] [] (mi0, ml, RX y) (QI K) := by
  have hcN := hc.2
  have hbN := hb.2
  have w := h0.w
  have hw2 := w.n2
  have hq2 := w.q2
  have hn128 : n ≤ 128 := w.2.2.2.2.2.2
  intro r
  induction r with
  | zero =>
    intro j s hj hs hK
    apply b_X8_multiply_64
    rw [pd_dec]
    simp (disch := omega) only [s_le, s_lt, s_eq, s_eq0, s_in, s_ix, s_rm, s_div, s_pdlt, s_pdle, s_lepd, s_pdpd, s_pdlepd, s_pdadd, nI_add, pk_mul, pd_succ, Nat.not_lt_zero, Nat.zero_lt_succ, not_false_eq_true, not_true_eq_false, false_implies, true_implies, implies_true, and_true, true_and, Nat.reduceLT, Nat.reduceLeDiff, Nat.reduceAdd, Nat.reduceSub, Nat.zero_add, Nat.add_zero]
    exact ⟨fun _ => ⟨hc.1, by omega, hK⟩, fun c1 => ⟨fun _ => ⟨hc.1, by omega, hK⟩, fun c2 => absurd hj (by omega)⟩⟩
  | succ r ih =>
    intro j s hj hs hK
    have hfj := hf (N - j)
    have hhj := hh.2.2 j
    have ht := tu_lt (i := N - j) w hhj
    apply b_X8_multiply_64
    rw [s_sub (by omega)]
    simp (disch := omega) only [s_le, s_lt, s_eq, s_eq0, s_in, s_ix, s_rm, s_div, s_pdlt, s_pdle, s_lepd, s_pdpd, s_pdlepd, s_pdadd, nI_add, pk_mul, pd_succ, Nat.not_lt_zero, Nat.zero_lt_succ, not_false_eq_true, not_true_eq_false, false_implies, true_implies, implies_true, and_true, true_and, Nat.reduceLT, Nat.reduceLeDiff, Nat.reduceAdd, Nat.reduceSub, Nat.zero_add, Nat.add_zero]
    refine ⟨fun c1 => absurd hj (by omega), fun c1 => ⟨fun c2 => absurd hj (by omega), fun c2 => ⟨hc.1, by omega, hb.1, by omega, ?_⟩⟩⟩
    rw [hz (N - j) (by omega), hh.1 j (by omega)]
    refine p_tu h0 hhj (by omega) (p_mu h0 hfj ht (p_mix h0.1 (w.lt13 hs) (w.lt13 (mu_lt w ht)) (by omega) ?_))
    exact ih (j + 1) _ (by omega) (cmb_ltn w hs (mu_lt w ht)) hK
theorem p_mul_loop {c b : Nat} (hc : isR c) (hb : isR b) (hcb : c ≠ b) (h16 : 6 < c ∧ 6 < b) {f h : Nat → Nat} (mi0 : Nat → Nat → Int32) (h0 : En q m d n g mi0) (hf : ∀ k, f k < n) (hh : Rw n mi0 b h) {L : Nat} (hL : L ≤ an b) (hLz : ∀ k, L ≤ k → h k = 0) {K : Int32 → (Nat → Nat → Int32) → (Nat → Nat → Int64) → Prop}
    (hK : ∀ mi1 : Nat → Nat → Int32, (∀ o, o ≠ c → mi1 o = mi0 o) → (∀ k, k < an c → mi1 c k = nI (cv q m d f h k)) → K (nI 1) mi1 ml) :
    ∀ (N : Nat) (mi : Nat → Nat → Int32), N ≤ an c → (∀ o, o ≠ c → mi o = mi0 o) → (∀ k, k < N → mi c k = nI (f k)) → (∀ k, N ≤ k → k < an c → mi c k = nI (cv q m d f h k)) →
      wp G e tX m_X8_multiply 46 [(0, .ref 10), (1, .ref c), (2, .ref b), (4, .int (pd L)), (5, .int (pd N))] [] (mi, ml, RX y) (QI K) := by
  have hcN := hc.2
  have hbN := hb.2
  have w := h0.w
  have hw2 := w.n2
  intro N
  induction N with
  | zero =>
    intro mi hN ho h1 h3
    apply b_X8_multiply_46
    simp (disch := omega) only [s_le, s_lt, s_eq, s_eq0, s_in, s_ix, s_rm, s_div, s_pdlt, s_pdle, s_lepd, s_pdpd, s_pdlepd, s_pdadd, nI_add, pk_mul, pd_succ, Nat.not_lt_zero, Nat.zero_lt_succ, not_false_eq_true, not_true_eq_false, false_implies, true_implies, implies_true, and_true, true_and, Nat.reduceLT, Nat.reduceLeDiff, Nat.reduceAdd, Nat.reduceSub, Nat.zero_add, Nat.add_zero]
    exact ⟨Or.inr rfl, hK mi ho (fun k hk => h3 k (Nat.zero_le _) hk)⟩
  | succ N ih =>
    intro mi hN ho h1 h3
    apply b_X8_multiply_46
    rw [pd_succ]
    simp (disch := omega) only [s_le, s_lt, s_eq, s_eq0, s_in, s_ix, s_rm, s_div, s_pdlt, s_pdle, s_lepd, s_pdpd, s_pdlepd, s_pdadd, nI_add, pk_mul, pd_succ, Nat.not_lt_zero, Nat.zero_lt_succ, not_false_eq_true, not_true_eq_false, false_implies, true_implies, implies_true, and_true, true_and, Nat.reduceLT, Nat.reduceLeDiff, Nat.reduceAdd, Nat.reduceSub, Nat.zero_add, Nat.add_zero]
    refine ⟨hc.1, fun c1 => absurd c1 (by omega), fun _ => ?_⟩
    have hE : En q m d n g mi := h0.off (fun o o1 o2 => ho o (by omega))
    refine p_mul_in hc hb hcb h16 mi hE hf (hh.off (ho b (fun z => hcb z.symm))) hL (by omega) (fun k hk => h1 k (by omega)) (min L (N + 1)) 0 0 (Nat.zero_add _) (by omega) ?_
    rw [cv_stop w hh.2.2 hLz]
    refine ih _ (by omega) (fun o h => by rw [u2_off h]; exact ho o h) (fun k hk => ?_) (fun k hk1 hk2 => ?_)
    · rw [u2_on]
      show (if k = N then _ else _) = _
      rw [if_neg (by omega)]
      exact h1 k (by omega)
    · rw [u2_on]
      show (if k = N then _ else _) = _
      by_cases c2 : k = N
      · rw [if_pos c2, c2]
      · rw [if_neg c2]
        exact h3 k (by omega) hk2
/-- c becomes c times b -/
theorem p_multiply (h0 : En q m d n g mi) {c b : Nat} (hc : isR c) (hb : isR b) (hcb : c ≠ b) (h16 : 6 < c ∧ 6 < b) (hcb2 : an b ≤ an c) (hc20 : an c < 2 ^ 20) {f h : Nat → Nat} (hf : Rw n mi c f) (hh : Rw n mi b h) {K : Int32 → (Nat → Nat → Int32) → (Nat → Nat → Int64) → Prop}
    (hK0 : 0 < rl f (an c) → 0 < rl h (an b) → an c + 1 < rl f (an c) + rl h (an b) → K (nI 0) mi ml)
    (hK1 : (rl f (an c) = 0 ∨ rl h (an b) = 0 ∨ rl f (an c) + rl h (an b) ≤ an c + 1) → ∀ mi1 : Nat → Nat → Int32, (∀ o, o ≠ c → mi1 o = mi o) → Rw n mi1 c (cv q m d f h) → K (nI 1) mi1 ml) :
    wpI G e 154 m_X8_multiply [.ref 10, .ref c, .ref b] (mi, ml, RX y) K := by
  have hcN := hc.2
  have hbN := hb.2
  have w := h0.w
  have hw2 := w.n2
  have hn128 : n ≤ 128 := w.2.2.2.2.2.2
  have hFl := rl_le f (an c)
  have hLl := rl_le h (an b)
  have hFz : ∀ k, rl f (an c) ≤ k → f k = 0 := fun k hk => by
    rcases Nat.lt_or_ge k (an c) with z | z
    · exact rl_above hk z
    · exact hf.2.1 k z
  have hLz : ∀ k, rl h (an b) ≤ k → h k = 0 := fun k hk => by
    rcases Nat.lt_or_ge k (an b) with z | z
    · exact rl_above hk z
    · exact hh.2.1 k z
  have go : ∀ N, N ≤ an c → (∀ k, N ≤ k → rl f (an c) ≤ k ∧ cv q m d f h k = 0) → wp G e tX m_X8_multiply 46 [(0, .ref 10), (1, .ref c), (2, .ref b), (4, .int (pd (rl h (an b)))), (5, .int (pd N))] [] (mi, ml, RX y) (QI (fun v mi1 ml1 => (rl f (an c) = 0 ∨ rl h (an b) = 0 ∨ rl f (an c) + rl h (an b) ≤ an c + 1) → K v mi1 ml1)) := by
    intro N hN hz
    refine p_mul_loop hc hb hcb h16 mi h0 hf.2.2 hh hLl hLz ?_ N mi hN (fun _ _ => rfl) (fun k hk => hf.1 k (by omega)) (fun k hk1 hk2 => ?_)
    · intro mi1 ho h1 hor
      refine hK1 hor mi1 ho ⟨h1, fun k hk => ?_, cv_lt w hh.2.2⟩
      exact (hz k (by omega)).2
    · rw [(hz k hk1).2, ← hFz k (hz k hk1).1]
      exact hf.1 k hk2
  have goK : ∀ N, N ≤ an c → (∀ k, N ≤ k → rl f (an c) ≤ k ∧ cv q m d f h k = 0) → (rl f (an c) = 0 ∨ rl h (an b) = 0 ∨ rl f (an c) + rl h (an b) ≤ an c + 1) → wp G e tX m_X8_multiply 46 [(0, .ref 10), (1, .ref c), (2, .ref b), (4, .int (pd (rl h (an b)))), (5, .int (pd N))] [] (mi, ml, RX y) (QI K) := by
    intro N hN hz hor
    refine p_mul_loop hc hb hcb h16 mi h0 hf.2.2 hh hLl hLz ?_ N mi hN (fun _ _ => rfl) (fun k hk => hf.1 k (by omega)) (fun k hk1 hk2 => ?_)
    · intro mi1 ho h1
      refine hK1 hor mi1 ho ⟨h1, fun k hk => ?_, cv_lt w hh.2.2⟩
      exact (hz k (by omega)).2
    · rw [(hz k hk1).2, ← hFz k (hz k hk1).1]
      exact hf.1 k hk2
  apply e_X8_multiply
  refine p_degreeOf hc (hf.row hn128) (p_degreeOf hb (hh.row hn128) ?_)
  rcases Nat.eq_zero_or_pos (rl h (an b)) with z | z
  · have g0 := goK (rl f (an c)) hFl (fun k hk => ⟨hk, cv_top w hFz hLz (by omega)⟩) (Or.inr (Or.inl z))
    rw [z] at g0 ⊢
    simp (disch := omega) only [s_le, s_lt, s_eq, s_eq0, s_in, s_ix, s_rm, s_div, s_pdlt, s_pdle, s_lepd, s_pdpd, s_pdlepd, s_pdadd, nI_add, pk_mul, pd_succ, Nat.not_lt_zero, Nat.zero_lt_succ, not_false_eq_true, not_true_eq_false, false_implies, true_implies, implies_true, and_true, true_and, Nat.reduceLT, Nat.reduceLeDiff, Nat.reduceAdd, Nat.reduceSub, Nat.zero_add, Nat.add_zero]
    exact ⟨fun _ => g0, fun _ => g0⟩
  · obtain ⟨l, hl⟩ : ∃ l, rl h (an b) = l + 1 := ⟨rl h (an b) - 1, by omega⟩
    rw [hl, pd_succ, pd_addn]
    have cvz : ∀ k, rl f (an c) + l ≤ k → rl f (an c) ≤ k ∧ cv q m d f h k = 0 := fun k hk => ⟨by omega, cv_top w hFz hLz (by omega)⟩
    rw [hl, pd_succ] at goK
    simp (disch := omega) only [s_le, s_lt, s_eq, s_eq0, s_in, s_ix, s_rm, s_div, s_pdlt, s_pdle, s_lepd, s_pdpd, s_pdlepd, s_pdadd, nI_add, pk_mul, pd_succ, Nat.not_lt_zero, Nat.zero_lt_succ, not_false_eq_true, not_true_eq_false, false_implies, true_implies, implies_true, and_true, true_and, Nat.reduceLT, Nat.reduceLeDiff, Nat.reduceAdd, Nat.reduceSub, Nat.zero_add, Nat.add_zero, Nat.zero_le]
    refine ⟨fun c1 => ?_, fun c1 => ⟨hc.1, fun c2 => ?_, fun c2 => ⟨Or.inl rfl, hK0 (by omega) (by omega) (by omega)⟩⟩⟩
    · exact goK _ (by omega) cvz (Or.inl (by omega))
    · exact goK _ (by omega) cvz (Or.inr (Or.inr (by omega)))
theorem p_valueAt_loop (h0 : En q m d n g mi) {c x : Nat} (hc : isR c) {f : Nat → Nat} (hf : Rw n mi c f) (hx : x < n) {K : Int32 → (Nat → Nat → Int32) → (Nat → Nat → Int64) → Prop} (hK : K (nI (vls q m d f x (an c))) mi ml) :
    ∀ (r i : Nat), i + r = an c → wp G e tX m_X8_valueAt 5 [(0, .ref 10), (1, .ref c), (2, .int (nI x)), (3, .int (nI (vls q m d f x i))), (4, .int (nI i))] [] (mi, ml, RX y) (QI K) := by
  have hcN := hc.2
  have w := h0.w
  have h2 := w.q2
  have hw2 := w.n2
  have hn128 : n ≤ 128 := w.2.2.2.2.2.2
  intro r
  induction r with
  | zero =>
    intro i hi
    apply b_X8_valueAt_5
    simp (disch := omega) only [s_le, s_lt, s_eq, s_eq0, s_in, s_ix, s_rm, s_div, s_pdlt, s_pdle, s_lepd, s_pdpd, s_pdlepd, s_pdadd, nI_add, pk_mul, pd_succ, Nat.not_lt_zero, Nat.zero_lt_succ, not_false_eq_true, not_true_eq_false, false_implies, true_implies, implies_true, and_true, true_and, Nat.reduceLT, Nat.reduceLeDiff, Nat.reduceAdd, Nat.reduceSub, Nat.zero_add, Nat.add_zero]
    refine ⟨hc.1, fun _ => ?_, fun c1 => absurd c1 (by omega)⟩
    rw [show i = an c by omega]
    exact hK
  | succ r ih =>
    intro i hi
    have hfi := hf.2.2 i
    have hv := vls_lt (f := f) w hx i
    have ht := tu_lt (i := i) w hx
    have hnext := ih (i + 1) (by omega)
    apply b_X8_valueAt_5
    simp (disch := omega) only [s_le, s_lt, s_eq, s_eq0, s_in, s_ix, s_rm, s_div, s_pdlt, s_pdle, s_lepd, s_pdpd, s_pdlepd, s_pdadd, nI_add, pk_mul, pd_succ, Nat.not_lt_zero, Nat.zero_lt_succ, not_false_eq_true, not_true_eq_false, false_implies, true_implies, implies_true, and_true, true_and, Nat.reduceLT, Nat.reduceLeDiff, Nat.reduceAdd, Nat.reduceSub, Nat.zero_add, Nat.add_zero, hf.1]
    refine ⟨hc.1, fun c1 => absurd c1 (by omega), fun _ => ⟨hc.1, by omega, ?_⟩⟩
    refine ⟨fun c1 => ?_, fun c1 => ⟨hc.1, by omega, ?_⟩⟩
    · have e1 : vls q m d f x (i + 1) = vls q m d f x i := by
        show cmb q 1 13 _ _ = _
        rw [c1, mu_0l h2, cmb_0r h2 (w.lt13 hv)]
      rw [e1] at hnext
      exact hnext
    · refine p_tu h0 hx (by omega) (p_mu h0 hfi ht (p_mix h0.1 (w.lt13 hv) (w.lt13 (mu_lt w ht)) (by omega) ?_))
      exact hnext
theorem p_valueAt (h0 : En q m d n g mi) {c x : Nat} (hc : isR c) {f : Nat → Nat} (hf : Rw n mi c f) (hx : x < n) {K : Int32 → (Nat → Nat → Int32) → (Nat → Nat → Int64) → Prop} (hK : K (nI (vls q m d f x (an c))) mi ml) : wpI G e 154 m_X8_valueAt [.ref 10, .ref c, .int (nI x)] (mi, ml, RX y) K := by
  apply e_X8_valueAt
  exact p_valueAt_loop h0 hc hf hx hK (an c) 0 (by omega)
end TUR2
