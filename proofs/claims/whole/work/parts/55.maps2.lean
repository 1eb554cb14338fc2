/-! class Maps: make, countEnds, leastAlike, countClasses, countGreatest -/
/-- x t^i times g, less g times x t^i -/
def pdf (q m d : Nat) (g : Nat → Nat) (x i : Nat) : Nat → Nat := fun t => if i ≤ t then cmb q (q - 1) 13 (mu q m x (tu q m d (g (t - i)) i)) (mu q m (g (t - i)) (tu q m d x (t - i))) else 0
def cei (q m d : Nat) (g : Nat → Nat) (i : Nat) : Nat → Nat → Nat → TSf → Nat × TSf
  | 0, _, y, S => (y, S)
  | r + 1, k, y, S => cei q m d g i r (k + 1) (if (tF q S (pdf q m d g (q ^ k) i) 0).1 = 0 then y * q else y) (tF q S (pdf q m d g (q ^ k) i) 0).2.2
def ceo (q m d : Nat) (g : Nat → Nat) : Nat → Nat → Nat → TSf → Nat
  | 0, _, y, _ => y
  | r + 1, i, y, S => ceo q m d g r (i + 1) (cei q m d g i d 0 y S).1 (cei q m d g i d 0 y S).2
/-- how many u of degree e at most have u g = g u -/
def cen (q m d : Nat) (g : Nat → Nat) (e : Nat) : Nat := ceo q m d g (e + 1) 0 1 tF0
def als (q m d : Nat) (u v : Nat → Nat) (c : Nat) : Nat → Nat → Bool
  | 0, _ => true
  | r + 1, j => if mu q m c (u j) = mu q m (v j) (tu q m d c j) then als q m d u v c r (j + 1) else false
def all (q m d : Nat) (u v : Nat → Nat) : Nat → Nat → Option Nat
  | 0, _ => none
  | r + 1, c => if als q m d u v c 4 0 = true then some c else all q m d u v r (c + 1)
def cck (q n rank k : Nat) : Nat → Nat → Nat → Nat
  | 0, _, w => w
  | r + 1, i, w => cck q n rank k r (i + 1) (w * (if i = rank then (if k * (q ^ i - 1) % (n - 1) = 0 then n - 1 else 0) else (if k * (q ^ i - 1) % (n - 1) = 0 then n else 1)))
def ccl (q n rank : Nat) : Nat → Nat → Nat → Nat
  | 0, _, s => s
  | r + 1, k, s => ccl q n rank r (k + 1) (s + cck q n rank k rank 1 1)
/-- the count of classes -/
def ccs (q n rank : Nat) : Nat := ccl q n rank (n - 1) 0 0 / (n - 1)
def cdl : Nat → Nat → Nat → Nat
  | 0, a, _ => a
  | r + 1, a, b => if b = 0 then a else cdl r b (a % b)
def cdv (a b : Nat) : Nat := cdl 64 a b
def r3 (a b c : Nat) : Nat → Nat := fun k => if k = 0 then a else if k = 1 then b else if k = 2 then c else 0
def isg (q m d g0 g1 g2 c : Nat) : Bool := decide (hgt q m d (r3 g0 g1 g2) c = some 2)
def cga (q m d n g g0 c : Nat) : Nat → Nat → Nat → Nat
  | 0, _, s => s
  | r + 1, j, s => cga q m d n g g0 c r (j + 1) (if isg q m d g0 0 (gp q m g (j % (n - 1))) c = true then s + 1 else s)
def cgi (q m d n g g0 c i : Nat) : Nat → Nat → Nat → Nat
  | 0, _, s => s
  | r + 1, j, s => cgi q m d n g g0 c i r (j + 1) (if isg q m d g0 (gp q m g (i % (n - 1))) (gp q m g (j % (n - 1))) c = true then s + 1 else s)
def cgo (q m d n g g0 c : Nat) : Nat → Nat → Nat → Nat
  | 0, _, s => s
  | r + 1, i, s => cgo q m d n g g0 c r (i + 1) (cgi q m d n g g0 c i (n - 1) 0 s)
/-- the count of those of greatest height -/
def cgr (q m d n g g0 c : Nat) : Nat := cgo q m d n g g0 c (q - 1) 0 (cga q m d n g g0 c (cdv (q ^ 2 - 1) (n - 1)) 0 0)
theorem s_ldiv {a b : Nat} (ha : a < 2 ^ 31) (h0 : 0 < b) (hb : b < 2 ^ 31) : lN a / lN b = lN (a / b) := by
  apply Int64.toInt_inj.mp
  rw [Int64.toInt_div, lN_toInt ha, lN_toInt hb, lN_toInt (Nat.lt_of_le_of_lt (Nat.div_le_self a b) ha), Int.tdiv_eq_ediv_of_nonneg (by omega)]
  have h1 : ((a : Int) / (b : Int)) = ((a / b : Nat) : Int) := by first | rfl | exact (Int.natCast_ediv _ _).symm
  rw [h1]
  have h2 := Nat.div_le_self a b
  generalize a / b = c at h2 ⊢
  rw [Int.bmod_eq_of_le (by omega) (by omega)]
theorem pdf_lt {q m d n x i : Nat} (w : Wd q m d n) {g : Nat → Nat} (hx : x < n) (hg : ∀ k, g k < n) : ∀ t, pdf q m d g x i t < n := by
  intro t
  unfold pdf
  split
  · exact cmb_ltn w (mu_lt w (tu_lt w (hg _))) (mu_lt w (tu_lt w hx))
  · have := w.n2
    omega
section MAP2
variable {G : GC} {e q m d n g : Nat} {mi : Nat → Nat → Int32} {ml : Nat → Nat → Int64} {y : Nat → Nat → Option Nat}
theorem p_make_in {c b s k x : Nat} (hc : isR c) (c25 : an c = 25) (c72 : 72 < c) (hs : s < n) (hk : k < 25) (mi0 : Nat → Nat → Int32) (h0 : En q m d n g mi0) {f : Nat → Nat} (hf : Rw n mi0 c f) {K : (Nat → Nat → Int32) → (Nat → Nat → Int64) → Prop}
    (hK : ∀ mi1 : Nat → Nat → Int32, (∀ o, o ≠ c → mi1 o = mi0 o) → Rw n mi1 c (mks q m d f s k) → wpI G e 154 m_X8_valueAt [.ref 10, .ref b, .int (nI x)] (mi1, ml, RX y) (fun r3 mi1 ml2 => wp G e tX m_X2_make 14 [(0, .ref 68), (1, .ref b), (3, .ref c), (4, .int r3), (5, .int (nI (k + 1)))] [] (mi1, ml2, (RX y)) (QV K))) :
    ∀ (i : Nat) (mi : Nat → Nat → Int32), i ≤ k + 1 → (∀ o, o ≠ c → mi o = mi0 o) → (∀ j, j < 25 → mi c j = nI (if j < i then f j else mks q m d f s k j)) →
      wp G e tX m_X2_make 76 [(0, .ref 68), (1, .ref b), (3, .ref c), (4, .int (nI x)), (5, .int (nI k)), (7, .int (nI s)), (8, .int (pd i))] [] (mi, ml, RX y) (QV K) := by
  have w := h0.w
  have hq2 := w.q2
  have hn2 := w.n2
  intro i
  induction i with
  | zero =>
    intro mi hi ho hmi
    apply b_X2_make_76
    simp (disch := omega) only [s_le, s_lt, s_eq, s_eq0, s_in, s_ix, s_rm, s_div, s_pdlt, s_pdle, s_lepd, s_pdpd, s_pdlepd, s_pdadd, nI_add, pk_mul, pd_succ, Nat.not_lt_zero, Nat.zero_lt_succ, not_false_eq_true, not_true_eq_false, false_implies, true_implies, implies_true, and_true, true_and, Nat.reduceLT, Nat.reduceLeDiff, Nat.reduceAdd, Nat.reduceSub, Nat.zero_add, Nat.add_zero]
    refine hK mi ho ⟨fun j hj => ?_, fun j hj => ?_, mks_lt w hf.2.2 s k⟩
    · rw [hmi j (by omega), if_neg (by omega)]
    · unfold mks
      rw [if_neg (by omega)]
      exact hf.2.1 j hj
  | succ i ih =>
    intro mi hi ho hmi
    have hE := h0.off (fun o o1 o2 => ho o (by omega))
    have hfi := hf.2.2 i
    have step : wp G e tX m_X2_make 76 [(0, .ref 68), (1, .ref b), (3, .ref c), (4, .int (nI x)), (5, .int (nI k)), (7, .int (nI s)), (8, .int (pd i))] [] (u2 mi c i (nI (mks q m d f s k i)), ml, RX y) (QV K) := by
      refine ih _ (by omega) (fun o h => by rw [u2_off h]; exact ho o h) (fun j hj => ?_)
      rw [u2_on]
      show (if j = i then _ else _) = _
      by_cases z : j = i
      · rw [if_pos z, z, if_neg (by omega)]
      · rw [if_neg z, hmi j hj]
        by_cases z2 : j < i
        · rw [if_pos z2, if_pos (by omega)]
        · rw [if_neg z2, if_neg (by omega)]
    have hmk : mks q m d f s k i = cmb q (q - 1) 13 (if i = 0 then 0 else tu q m d (f (i - 1)) 1) (mu q m s (f i)) := by
      unfold mks
      rw [if_pos (by omega)]
    rw [hmk] at step
    apply b_X2_make_76
    rw [pd_succ, pd_dec]
    simp (disch := omega) only [s_le, s_lt, s_eq, s_eq0, s_in, s_ix, s_rm, s_div, s_pdlt, s_pdle, s_lepd, s_pdpd, s_pdlepd, s_pdadd, nI_add, pk_mul, pd_succ, Nat.not_lt_zero, Nat.zero_lt_succ, not_false_eq_true, not_true_eq_false, false_implies, true_implies, implies_true, and_true, true_and, Nat.reduceLT, Nat.reduceLeDiff, Nat.reduceAdd, Nat.reduceSub, Nat.zero_add, Nat.add_zero]
    rcases Nat.eq_zero_or_pos i with z | z
    · subst z
      rw [if_pos rfl] at step
      refine ⟨fun z => absurd rfl z, fun _ => ⟨hc.1, by omega, ?_⟩⟩
      rw [hmi 0 (by omega), if_pos (by omega)]
      refine p_mu hE hs hfi (p_difference hE.1 (Nat.pow_pos (by omega)) (w.lt13 (mu_lt w hfi)) ⟨hc.1, by omega, step⟩)
    · have hfi1 := hf.2.2 (i - 1)
      rw [if_neg (by omega)] at step
      refine ⟨fun _ => ⟨hc.1, ?_⟩, fun z => absurd z (by omega)⟩
      rw [s_sub (by omega)]
      simp (disch := omega) only [s_le, s_lt, s_eq, s_eq0, s_in, s_ix, s_rm, s_div, s_pdlt, s_pdle, s_lepd, s_pdpd, s_pdlepd, s_pdadd, nI_add, pk_mul, pd_succ, Nat.not_lt_zero, Nat.zero_lt_succ, not_false_eq_true, not_true_eq_false, false_implies, true_implies, implies_true, and_true, true_and, Nat.reduceLT, Nat.reduceLeDiff, Nat.reduceAdd, Nat.reduceSub, Nat.zero_add, Nat.add_zero]
      refine ⟨by omega, ?_⟩
      rw [hmi (i - 1) (by omega), if_pos (by omega)]
      refine p_tu hE hfi1 (by decide) ⟨hc.1, by omega, ?_⟩
      rw [hmi i (by omega), if_pos (by omega)]
      refine p_mu hE hs hfi (p_difference hE.1 (w.lt13 (tu_lt w hfi1)) (w.lt13 (mu_lt w hfi)) ⟨hc.1, by omega, step⟩)
theorem p_make_loop {c b : Nat} (hc : isR c) (hb : isR b) (c25 : an c = 25) (b25 : an b ≤ 25) (hcb : c ≠ b) (c72 : 72 < c) (b72 : 72 < b) (mi0 : Nat → Nat → Int32) (h0 : En q m d n g mi0) {v : Nat → Nat} (hv : Rw n mi0 b v) {K : (Nat → Nat → Int32) → (Nat → Nat → Int64) → Prop} :
    ∀ (r k x : Nat) (f : Nat → Nat) (mi : Nat → Nat → Int32), r + k = d + 1 → 1 ≤ k → x < n → (∀ o, o ≠ c → mi o = mi0 o) → Rw n mi c f → (∀ mi1, (∀ o, o ≠ c → mi1 o = mi0 o) → Rw n mi1 c (mkl q m d n v r k x f) → K mi1 ml) →
      wp G e tX m_X2_make 14 [(0, .ref 68), (1, .ref b), (3, .ref c), (4, .int (nI x)), (5, .int (nI k))] [] (mi, ml, RX y) (QV K) := by
  have w := h0.w
  have hq2 := w.q2
  have hd7 := w.d7
  have hn128 : n ≤ 128 := w.2.2.2.2.2.2
  intro r
  induction r with
  | zero =>
    intro k x f mi hr hk hx ho hf hK
    have hE := h0.off (fun o o1 o2 => ho o (by omega))
    apply b_X2_make_14
    simp (disch := omega) only [s_le, s_lt, s_eq, s_eq0, s_in, s_ix, s_rm, s_div, s_pdlt, s_pdle, s_lepd, s_pdpd, s_pdlepd, s_pdadd, nI_add, pk_mul, pd_succ, Nat.not_lt_zero, Nat.zero_lt_succ, not_false_eq_true, not_true_eq_false, false_implies, true_implies, implies_true, and_true, true_and, Nat.reduceLT, Nat.reduceLeDiff, Nat.reduceAdd, Nat.reduceSub, Nat.zero_add, Nat.add_zero]
    refine ⟨hc.1, fun z => absurd z (by omega), fun _ => p_rdegree hE.2.1 ?_⟩
    simp (disch := omega) only [s_le, s_lt, s_eq, s_eq0, s_in, s_ix, s_rm, s_div, s_pdlt, s_pdle, s_lepd, s_pdpd, s_pdlepd, s_pdadd, nI_add, pk_mul, pd_succ, Nat.not_lt_zero, Nat.zero_lt_succ, not_false_eq_true, not_true_eq_false, false_implies, true_implies, implies_true, and_true, true_and, Nat.reduceLT, Nat.reduceLeDiff, Nat.reduceAdd, Nat.reduceSub, Nat.zero_add, Nat.add_zero]
    exact ⟨fun _ => hK mi ho hf, fun z => absurd (show d < k by omega) z⟩
  | succ r ih =>
    intro k x f mi hr hk hx ho hf hK
    have hE := h0.off (fun o o1 o2 => ho o (by omega))
    have hvl := vl_lt w (f := f) hx
    unfold mkl at hK
    apply b_X2_make_14
    simp (disch := omega) only [s_le, s_lt, s_eq, s_eq0, s_in, s_ix, s_rm, s_div, s_pdlt, s_pdle, s_lepd, s_pdpd, s_pdlepd, s_pdadd, nI_add, pk_mul, pd_succ, Nat.not_lt_zero, Nat.zero_lt_succ, not_false_eq_true, not_true_eq_false, false_implies, true_implies, implies_true, and_true, true_and, Nat.reduceLT, Nat.reduceLeDiff, Nat.reduceAdd, Nat.reduceSub, Nat.zero_add, Nat.add_zero]
    refine ⟨hc.1, fun z => absurd z (by omega), fun _ => p_rdegree hE.2.1 ?_⟩
    simp (disch := omega) only [s_le, s_lt, s_eq, s_eq0, s_in, s_ix, s_rm, s_div, s_pdlt, s_pdle, s_lepd, s_pdpd, s_pdlepd, s_pdadd, nI_add, pk_mul, pd_succ, Nat.not_lt_zero, Nat.zero_lt_succ, not_false_eq_true, not_true_eq_false, false_implies, true_implies, implies_true, and_true, true_and, Nat.reduceLT, Nat.reduceLeDiff, Nat.reduceAdd, Nat.reduceSub, Nat.zero_add, Nat.add_zero]
    refine ⟨fun z => absurd z (by omega), fun _ => p_vl hE hc (by omega) hf hx ?_⟩
    simp (disch := omega) only [s_le, s_lt, s_eq, s_eq0, s_in, s_ix, s_rm, s_div, s_pdlt, s_pdle, s_lepd, s_pdpd, s_pdlepd, s_pdadd, nI_add, pk_mul, pd_succ, Nat.not_lt_zero, Nat.zero_lt_succ, not_false_eq_true, not_true_eq_false, false_implies, true_implies, implies_true, and_true, true_and, Nat.reduceLT, Nat.reduceLeDiff, Nat.reduceAdd, Nat.reduceSub, Nat.zero_add, Nat.add_zero]
    refine ⟨fun c1 => ?_, fun c1 => ?_⟩
    · rw [if_neg c1] at hK
      refine p_tu hE hvl (by decide) (p_dv hE (tu_lt w hvl) hvl ?_)
      have hs : dv q m n (tu q m d (vl q m d f x) 1) (vl q m d f x) < n := dv_lt w
      have := p_make_in (G := G) (e := e) (y := y) (ml := ml) (b := b) (x := x) (K := K) hc c25 c72 hs (show k < 25 by omega) mi hE hf (fun mi1 ho1 hf1 => ?_) (k + 1) mi (Nat.le_refl _) (fun _ _ => rfl) (fun j hj => ?_)
      · rw [pd_succ] at this
        exact this
      · have ho2 : ∀ o, o ≠ c → mi1 o = mi0 o := fun o h => by rw [ho1 o h]; exact ho o h
        refine p_vl (h0.off (fun o o1 o2 => ho2 o (by omega))) hb b25 (hv.off (ho2 b (fun z => hcb z.symm))) hx ?_
        exact ih (k + 1) _ _ mi1 (by omega) (by omega) (vl_lt w hx) ho2 hf1 hK
      · rw [hf.1 j (by omega)]
        by_cases z : j < k + 1
        · rw [if_pos z]
        · rw [if_neg z]
          unfold mks
          rw [if_neg (by omega)]
    · rw [if_pos c1] at hK
      exact hK mi ho hf
theorem p_make (h0 : En q m d n g mi) {c b x : Nat} (hc : isR c) (hb : isR b) (c25 : an c = 25) (b25 : an b ≤ 25) (hcb : c ≠ b) (c72 : 72 < c) (b72 : 72 < b) (hx : x < n) {v : Nat → Nat} (hv : Rw n mi b v) {K : (Nat → Nat → Int32) → (Nat → Nat → Int64) → Prop}
    (hK : ∀ mi1, (∀ o, o ≠ c → mi1 o = mi o) → Rw n mi1 c (mak q m d n v x) → K mi1 ml) : wpV G e 154 m_X2_make [.ref 68, .ref b, .int (nI x), .ref c] (mi, ml, RX y) K := by
  apply e_X2_make
  refine p_clear hc (fun mi1 ho1 hr1 => ?_)
  simp (disch := omega) only [s_le, s_lt, s_eq, s_eq0, s_in, s_ix, s_rm, s_div, s_pdlt, s_pdle, s_lepd, s_pdpd, s_pdlepd, s_pdadd, nI_add, pk_mul, pd_succ, Nat.not_lt_zero, Nat.zero_lt_succ, not_false_eq_true, not_true_eq_false, false_implies, true_implies, implies_true, and_true, true_and, Nat.reduceLT, Nat.reduceLeDiff, Nat.reduceAdd, Nat.reduceSub, Nat.zero_add, Nat.add_zero]
  refine ⟨hc.1, by omega, ?_⟩
  exact p_make_loop hc hb c25 b25 hcb c72 b72 mi h0 hv d 1 x (r1 1) _ rfl (Nat.le_refl 1) hx (fun o h => by rw [u2_off h]; exact ho1 o h) (Rw_r1 (by omega) h0.w.n2 hr1) hK
theorem p_pdf_loop {b x i : Nat} (hb : isR b) (b4 : an b = 4) (b72 : 72 < b) (hx : x < n) (hi : i ≤ 2) (mi0 : Nat → Nat → Int32) (h0 : En q m d n g mi0) {v : Nat → Nat} (hv : Rw n mi0 b v) {K : (Nat → Nat → Int32) → (Nat → Nat → Int64) → Prop}
    (hK : ∀ mi1, (∀ o, o ≠ 70 → mi1 o = mi0 o) → Rw n mi1 70 (pdf q m d v x i) → K mi1 ml) :
    ∀ (r j : Nat) (mi : Nat → Nat → Int32), r + j = 4 → (∀ o, o ≠ 70 → mi o = mi0 o) → (∀ t, t < 25 → mi 70 t = nI (if t < i + j then pdf q m d v x i t else 0)) →
      wp G e tX m_X2_putDifference 10 [(0, .ref 68), (1, .ref b), (2, .int (nI x)), (3, .int (nI i)), (4, .int (nI j))] [] (mi, ml, RX y) (QV K) := by
  have w := h0.w
  have hq2 := w.q2
  obtain ⟨-, ⟨r70, l70⟩, -⟩ := rowK
  have hz : ∀ t, i + 4 ≤ t → pdf q m d v x i t = 0 := fun t ht => by
    unfold pdf
    rw [if_pos (by omega), hv.2.1 (t - i) (by omega), tu_0 hq2, mu_0r hq2, mu_0l hq2, cmb_zero _ hq2]
  intro r
  induction r with
  | zero =>
    intro j mi hr ho hmi
    apply b_X2_putDifference_10
    simp (disch := omega) only [s_le, s_lt, s_eq, s_eq0, s_in, s_ix, s_rm, s_div, s_pdlt, s_pdle, s_lepd, s_pdpd, s_pdlepd, s_pdadd, nI_add, pk_mul, pd_succ, Nat.not_lt_zero, Nat.zero_lt_succ, not_false_eq_true, not_true_eq_false, false_implies, true_implies, implies_true, and_true, true_and, Nat.reduceLT, Nat.reduceLeDiff, Nat.reduceAdd, Nat.reduceSub, Nat.zero_add, Nat.add_zero]
    refine ⟨hb.1, fun _ => hK mi ho ⟨fun t ht => ?_, fun t ht => hz t (by omega), pdf_lt w hx hv.2.2⟩, fun z => absurd z (by omega)⟩
    rw [hmi t (by omega)]
    by_cases z : t < i + j
    · rw [if_pos z]
    · rw [if_neg z, hz t (by omega)]
  | succ r ih =>
    intro j mi hr ho hmi
    have hE := h0.off (fun o o1 o2 => ho o (by omega))
    have hvj := hv.2.2 j
    have t1 := tu_lt (i := i) w hvj
    have t2 := tu_lt (i := j) w hx
    apply b_X2_putDifference_10
    simp (disch := omega) only [s_le, s_lt, s_eq, s_eq0, s_in, s_ix, s_rm, s_div, s_pdlt, s_pdle, s_lepd, s_pdpd, s_pdlepd, s_pdadd, nI_add, pk_mul, pd_succ, Nat.not_lt_zero, Nat.zero_lt_succ, not_false_eq_true, not_true_eq_false, false_implies, true_implies, implies_true, and_true, true_and, Nat.reduceLT, Nat.reduceLeDiff, Nat.reduceAdd, Nat.reduceSub, Nat.zero_add, Nat.add_zero]
    refine ⟨hb.1, fun z => absurd z (by omega), fun _ => ⟨fun z => absurd z (by omega), fun _ => ⟨hb.1, by omega, ?_⟩⟩⟩
    rw [ho b (by omega), hv.1 j (by omega)]
    refine p_tu hE hvj (by omega) (p_mu hE hx t1 ⟨hb.1, by omega, p_tu hE hx (by omega) ?_⟩)
    rw [ho b (by omega), hv.1 j (by omega)]
    refine p_mu hE hvj t2 (p_difference hE.1 (w.lt13 (mu_lt w t1)) (w.lt13 (mu_lt w t2)) ⟨by omega, ?_⟩)
    refine ih (j + 1) _ (by omega) (fun o h => by rw [u2_off h]; exact ho o h) (fun t ht => ?_)
    rw [u2_on]
    show (if t = i + j then _ else _) = _
    by_cases z : t = i + j
    · subst z
      rw [if_pos rfl, if_pos (by omega)]
      unfold pdf
      rw [if_pos (by omega), Nat.add_sub_cancel_left]
    · rw [if_neg z, hmi t ht]
      by_cases z2 : t < i + j
      · rw [if_pos z2, if_pos (by omega)]
      · rw [if_neg z2, if_neg (by omega)]
theorem p_putDifference (h0 : En q m d n g mi) {b x i : Nat} (hb : isR b) (b4 : an b = 4) (b72 : 72 < b) (hx : x < n) (hi : i ≤ 2) {v : Nat → Nat} (hv : Rw n mi b v) {K : (Nat → Nat → Int32) → (Nat → Nat → Int64) → Prop}
    (hK : ∀ mi1, (∀ o, o ≠ 70 → mi1 o = mi o) → Rw n mi1 70 (pdf q m d v x i) → K mi1 ml) : wpV G e 154 m_X2_putDifference [.ref 68, .ref b, .int (nI x), .int (nI i)] (mi, ml, RX y) K := by
  obtain ⟨-, ⟨r70, l70⟩, -⟩ := rowK
  apply e_X2_putDifference
  refine p_clear r70 (fun mi1 ho1 hr1 => ?_)
  refine p_pdf_loop hb b4 b72 hx hi mi h0 hv hK 4 0 mi1 rfl ho1 (fun t ht => ?_)
  rw [(hr1 t (by omega)).1]
  by_cases z : t < i + 0
  · rw [if_pos z]
    unfold pdf
    rw [if_neg (by omega)]
  · rw [if_neg z]
theorem p_cei_loop {b i E : Nat} (hb : isR b) (b4 : an b = 4) (b72 : 72 < b) (hi : i ≤ 2) (mi0 : Nat → Nat → Int32) (h0 : En q m d n g mi0) {v : Nat → Nat} (hv : Rw n mi0 b v) {K : Int32 → (Nat → Nat → Int32) → (Nat → Nat → Int64) → Prop} :
    ∀ (r k y' : Nat) (S : TSf) (mi : Nat → Nat → Int32), r + k = d → y' ≤ q ^ (i * d + k) → off72 mi0 mi → Tf q n mi S →
      (∀ mi1, off72 mi0 mi1 → Tf q n mi1 (cei q m d v i r k y' S).2 → (cei q m d v i r k y' S).1 ≤ q ^ ((i + 1) * d) → wp G e tX m_X2_countEnds 12 [(0, .ref 68), (1, .ref b), (2, .int (nI E)), (3, .int (nI (cei q m d v i r k y' S).1)), (4, .int (nI (i + 1)))] [] (mi1, ml, RX y) (QI K)) →
      wp G e tX m_X2_countEnds 21 [(0, .ref 68), (1, .ref b), (2, .int (nI E)), (3, .int (nI y')), (4, .int (nI i)), (5, .int (nI k))] [] (mi, ml, RX y) (QI K) := by
  have w := h0.w
  have hq2 := w.q2
  have hd7 := w.d7
  have h31 := pow_lt31 (M := 13) w.1 (Nat.le_refl _)
  have h130 : 0 < q ^ 13 := Nat.pow_pos (by omega)
  obtain ⟨-, ⟨r70, l70⟩, -⟩ := rowK
  intro r
  induction r with
  | zero =>
    intro k y' S mi hr hy ho hT hK
    have hE := h0.off72 ho
    apply b_X2_countEnds_21
    refine p_rdegree hE.2.1 ?_
    simp (disch := omega) only [s_le, s_lt, s_eq, s_eq0, s_in, s_ix, s_rm, s_div, s_pdlt, s_pdle, s_lepd, s_pdpd, s_pdlepd, s_pdadd, nI_add, pk_mul, pd_succ, Nat.not_lt_zero, Nat.zero_lt_succ, not_false_eq_true, not_true_eq_false, false_implies, true_implies, implies_true, and_true, true_and, Nat.reduceLT, Nat.reduceLeDiff, Nat.reduceAdd, Nat.reduceSub, Nat.zero_add, Nat.add_zero]
    refine ⟨fun _ => hK mi ho hT ?_, fun z => absurd (show d ≤ k by omega) z⟩
    rw [Nat.succ_mul]
    have e1 : k = d := by omega
    rw [e1] at hy
    exact hy
  | succ r ih =>
    intro k y' S mi hr hy ho hT hK
    have hE := h0.off72 ho
    have hkn : q ^ k < n := by
      have hn : n = q ^ d := w.2.2.2.2.2.1
      rw [hn]
      exact Nat.pow_lt_pow_right (by omega) (by omega)
    unfold cei at hK
    apply b_X2_countEnds_21
    refine p_rdegree hE.2.1 ?_
    simp (disch := omega) only [s_le, s_lt, s_eq, s_eq0, s_in, s_ix, s_rm, s_div, s_pdlt, s_pdle, s_lepd, s_pdpd, s_pdlepd, s_pdadd, nI_add, pk_mul, pd_succ, Nat.not_lt_zero, Nat.zero_lt_succ, not_false_eq_true, not_true_eq_false, false_implies, true_implies, implies_true, and_true, true_and, Nat.reduceLT, Nat.reduceLeDiff, Nat.reduceAdd, Nat.reduceSub, Nat.zero_add, Nat.add_zero]
    refine ⟨fun z => absurd z (by omega), fun _ => p_power hE.1 (by omega) ?_⟩
    refine p_putDifference hE hb b4 b72 hkn hi (hv.off (ho b (by omega))) (fun mi1 ho1 hl1 => ?_)
    have hE1 := hE.off (fun o o1 o2 => ho1 o (by omega))
    refine p_addF hE1 r70 (by omega) h130 hl1 (by omega) (Ts.off hT (fun o o1 o2 => ho1 o (by omega))) (fun mi2 ho2 hT2 => ?_)
    have ho3 : off72 mi0 mi2 := fun o oo => by rw [ho2 o (by omega) (by omega), ho1 o (by omega)]; exact ho o oo
    have htag := ta_tag hq2 (fl := S.1) (rw := S.2.1) (tg := S.2.2) 49 (pdf q m d v (q ^ k) i) 0 h130
    have htag2 : (tF q S (pdf q m d v (q ^ k) i) 0).2.1 < 2 ^ 31 := by
      show (ta q S.1 S.2.1 S.2.2 49 (pdf q m d v (q ^ k) i) 0).2.1 < _
      omega
    have hyq : y' * q ≤ q ^ (i * d + (k + 1)) := by
      rw [← Nat.add_assoc, Nat.pow_succ]
      exact Nat.mul_le_mul_right _ hy
    by_cases e1 : (tF q S (pdf q m d v (q ^ k) i) 0).1 = 0
    · rw [if_pos e1] at hK ⊢
      refine ⟨fun z => absurd z (nI_neg1 htag2), fun _ => p_base (h0.off72 ho3).1 ?_⟩
      rw [pk_mul]
      exact ih (k + 1) (y' * q) _ mi2 (by omega) hyq ho3 hT2 hK
    · rw [if_neg e1] at hK ⊢
      refine ⟨fun _ => ?_, fun z => absurd rfl z⟩
      exact ih (k + 1) y' _ mi2 (by omega) (Nat.le_trans hy (Nat.pow_le_pow_right (by omega) (by omega))) ho3 hT2 hK
theorem p_ceo_loop {b E : Nat} (hb : isR b) (b4 : an b = 4) (b72 : 72 < b) (hE2 : E ≤ 2) (mi0 : Nat → Nat → Int32) (h0 : En q m d n g mi0) {v : Nat → Nat} (hv : Rw n mi0 b v) {K : Int32 → (Nat → Nat → Int32) → (Nat → Nat → Int64) → Prop} :
    ∀ (r i y' : Nat) (S : TSf) (mi : Nat → Nat → Int32), r + i = E + 1 → y' ≤ q ^ (i * d) → off72 mi0 mi → Tf q n mi S →
      (∀ mi1, off72 mi0 mi1 → K (nI (ceo q m d v r i y' S)) mi1 ml) →
      wp G e tX m_X2_countEnds 12 [(0, .ref 68), (1, .ref b), (2, .int (nI E)), (3, .int (nI y')), (4, .int (nI i))] [] (mi, ml, RX y) (QI K) := by
  intro r
  induction r with
  | zero =>
    intro i y' S mi hr hy ho hT hK
    apply b_X2_countEnds_12
    simp (disch := omega) only [s_le, s_lt, s_eq, s_eq0, s_in, s_ix, s_rm, s_div, s_pdlt, s_pdle, s_lepd, s_pdpd, s_pdlepd, s_pdadd, nI_add, pk_mul, pd_succ, Nat.not_lt_zero, Nat.zero_lt_succ, not_false_eq_true, not_true_eq_false, false_implies, true_implies, implies_true, and_true, true_and, Nat.reduceLT, Nat.reduceLeDiff, Nat.reduceAdd, Nat.reduceSub, Nat.zero_add, Nat.add_zero]
    exact ⟨fun _ => hK mi ho, fun z => absurd (show E < i by omega) z⟩
  | succ r ih =>
    intro i y' S mi hr hy ho hT hK
    unfold ceo at hK
    apply b_X2_countEnds_12
    simp (disch := omega) only [s_le, s_lt, s_eq, s_eq0, s_in, s_ix, s_rm, s_div, s_pdlt, s_pdle, s_lepd, s_pdpd, s_pdlepd, s_pdadd, nI_add, pk_mul, pd_succ, Nat.not_lt_zero, Nat.zero_lt_succ, not_false_eq_true, not_true_eq_false, false_implies, true_implies, implies_true, and_true, true_and, Nat.reduceLT, Nat.reduceLeDiff, Nat.reduceAdd, Nat.reduceSub, Nat.zero_add, Nat.add_zero]
    refine ⟨fun z => absurd z (by omega), fun _ => ?_⟩
    refine p_cei_loop hb b4 b72 (by omega) mi0 h0 hv d 0 y' S mi rfl hy ho hT (fun mi1 ho1 hT1 hy1 => ?_)
    exact ih (i + 1) _ _ mi1 (by omega) hy1 ho1 hT1 hK
theorem p_countEnds (h0 : En q m d n g mi) {b E : Nat} (hb : isR b) (b4 : an b = 4) (b72 : 72 < b) (hE2 : E ≤ 2) {v : Nat → Nat} (hv : Rw n mi b v) {K : Int32 → (Nat → Nat → Int32) → (Nat → Nat → Int64) → Prop}
    (hK : ∀ mi1, off72 mi mi1 → K (nI (cen q m d v E)) mi1 ml) : wpI G e 154 m_X2_countEnds [.ref 68, .ref b, .int (nI E)] (mi, ml, RX y) K := by
  apply e_X2_countEnds
  refine p_tclear (q := q) (n := n) (fun mi1 ho1 hT1 => ?_)
  refine p_ceo_loop hb b4 b72 hE2 mi h0 hv (E + 1) 0 1 tF0 mi1 rfl ?_ (fun o oo => ho1 o (by omega)) hT1 hK
  rw [Nat.zero_mul, Nat.pow_zero]
  exact Nat.le_refl 1
end MAP2
