/-! class Acting: sendBy, turn, characteristic, height, points -/
/-- what a row (of 25 at most) makes of x -/
def vl (q m d : Nat) (f : Nat → Nat) (x : Nat) : Nat := vls q m d f x 25
theorem vl_lt {q m d n : Nat} (w : Wd q m d n) {f : Nat → Nat} {x : Nat} (hx : x < n) : vl q m d f x < n := vls_lt w hx 25
def sndl (q m d : Nat) (f : Nat → Nat) (a x : Nat) : Nat → Nat → Nat
  | 0, s => s
  | k + 1, s => sndl q m d f a x k (cmb q (dg q a k) 13 (vl q m d f s) x)
/-- what a makes of x by the module f -/
def snd (q m d : Nat) (f : Nat → Nat) (a x : Nat) : Nat := sndl q m d f a x (ln q 13 a) 0
def trnl (q m d : Nat) (g : Nat → Nat) (a : Nat) : Nat → (Nat → Nat) → Bool × (Nat → Nat)
  | 0, f => (true, f)
  | k + 1, f => if 0 < rl f 25 ∧ 0 < rl g 25 ∧ 26 < rl f 25 + rl g 25 then (false, f) else trnl q m d g a k (up1 (cv q m d f g) 0 (cmb q 1 13 (cv q m d f g 0) (dg q a k)))
/-- what a acts as by the module g -/
def trn (q m d : Nat) (g : Nat → Nat) (a : Nat) : Bool × (Nat → Nat) := trnl q m d g a (ln q 13 a) (fun _ => 0)
def oI : Option Nat → Int32
  | none => -(nI 1)
  | some a => nI a
def chl (q m g0 : Nat) : Nat → Nat → Nat → TSt → Option Nat
  | 0, _, _, _ => none
  | r + 1, k, x, S => if (tS q S x (q ^ k)).1 = 0 then some (tS q S x (q ^ k)).2.1 else chl q m g0 r (k + 1) (mu q m x g0) (tS q S x (q ^ k)).2.2
/-- the characteristic of g0 -/
def chc (q m d g0 : Nat) : Option Nat := chl q m g0 (d + 1) 0 1 tS0
def fns (f : Nat → Nat) : Nat → Nat → Nat
  | 0, i => i
  | r + 1, i => if f i = 0 then fns f r (i + 1) else i
/-- the height of g, its characteristic c -/
def hgt (q m d : Nat) (g : Nat → Nat) (c : Nat) : Option Nat := if ln q 13 c ≤ 1 then none else if (trn q m d g c).1 = true then some (fns (trn q m d g c).2 24 0 / (ln q 13 c - 1)) else none
def ptl (q m d : Nat) (g : Nat → Nat) : Nat → Nat → Nat → TSt → Option Nat × TSt
  | 0, _, _, S => (none, S)
  | r + 1, k, x, S => if (tS q S x (q ^ k)).1 = 0 then (some (tS q S x (q ^ k)).2.1, (tS q S x (q ^ k)).2.2) else ptl q m d g r (k + 1) (vl q m d g x) (tS q S x (q ^ k)).2.2
def ptm (q a : Nat) : Option Nat → Nat
  | none => a
  | some t => prd q a t
def pto (q m d : Nat) (g : Nat → Nat) : Nat → Nat → Nat → TSt → Nat
  | 0, _, a, _ => a
  | r + 1, j, a, S => pto q m d g r (j + 1) (ptm q a (ptl q m d g (d + 1) 0 (q ^ j) (S.1, S.2.1, fun _ => 0)).1) (ptl q m d g (d + 1) 0 (q ^ j) (S.1, S.2.1, fun _ => 0)).2
/-- the polynomial of the points -/
def pts (q m d : Nat) (g : Nat → Nat) : Nat := pto q m d g d 0 1 tS0
/-! how many are there, and how long their tags -/
def nfl (fl : Nat → Bool) : Nat → Nat
  | 0 => 0
  | p + 1 => nfl fl p + if fl p = true then 1 else 0
theorem nfl_le (fl : Nat → Bool) : ∀ p, nfl fl p ≤ p
  | 0 => Nat.le_refl 0
  | p + 1 => by
    have := nfl_le fl p
    unfold nfl
    split <;> omega
theorem nfl_put {fl : Nat → Bool} {a : Nat} (h : ¬ fl a = true) : ∀ p, nfl (kfl fl a) p = nfl fl p + if a < p then 1 else 0
  | 0 => by rw [if_neg (by omega)]; rfl
  | p + 1 => by
    unfold nfl
    rw [nfl_put h p]
    show _ + (if (if p = a then true else fl p) = true then 1 else 0) = _
    by_cases c1 : p = a
    · subst c1
      rw [if_pos rfl, if_pos rfl, if_neg (by omega), if_neg h, if_pos (by omega)]
    · rw [if_neg c1]
      by_cases c2 : a < p
      · rw [if_pos c2, if_pos (show a < p + 1 by omega)]
        omega
      · rw [if_neg c2, if_neg (show ¬ a < p + 1 by omega)]
        omega
theorem nfl_dpt {fl : Nat → Bool} {d : Nat} (h : ∀ p, fl p = true → p < d) : ∀ p, nfl fl p ≤ d
  | 0 => Nat.zero_le _
  | p + 1 => by
    unfold nfl
    by_cases c : fl p = true
    · have := h p c
      have := nfl_le fl p
      rw [if_pos c]
      omega
    · rw [if_neg c]
      exact nfl_dpt h p
/-- what holds of all that is there: below d, tags below q^M; the rests below n -/
def Sok (q d n M : Nat) (S : TSt) : Prop := ∀ p, S.1 p = true → p < d ∧ S.2.2 p < q ^ M ∧ S.2.1 p < n
theorem ta1_ok {q m d n M : Nat} (w : Wd q m d n) {S : TSt} (h : Sok q d n M S) : ∀ (p x t : Nat), x < n → t < q ^ M → (ta1 q S.1 S.2.1 S.2.2 p x t).2.1 < q ^ M ∧ (ta1 q S.1 S.2.1 S.2.2 p x t).2.2 < n ∧
    ∀ a, (ta1 q S.1 S.2.1 S.2.2 p x t).1 = a + 1 → a < d ∧ ¬ S.1 a = true ∧ dg q (ta1 q S.1 S.2.1 S.2.2 p x t).2.2 a ≠ 0
  | 0, x, t, hx, ht => ⟨ht, hx, fun a z => absurd z (by show ¬ (0 = a + 1); omega)⟩
  | p + 1, x, t, hx, ht => by
    have h2 := w.q2
    unfold ta1
    split
    · exact ta1_ok w h p x t hx ht
    split
    · next c1 c2 =>
      obtain ⟨o1, o2, o3⟩ := h p c2
      exact ta1_ok w h p _ _ (cmb_ltn w hx o3) (cmb_small h2 ht o2)
    · next c1 c2 =>
      refine ⟨ht, hx, fun a z => ?_⟩
      have e : p = a := by
        have z1 : p + 1 = a + 1 := z
        omega
      subst e
      refine ⟨?_, c2, c1⟩
      have hn : n = q ^ d := w.2.2.2.2.2.1
      rcases Nat.lt_or_ge p d with c3 | c3
      · exact c3
      · exact absurd (dg_big (by rw [← hn]; exact hx) c3 h2) c1
theorem Sok.mono {q d n M M1 : Nat} (h2 : 2 ≤ q) {S : TSt} (h : Sok q d n M S) (hM : M ≤ M1) : Sok q d n M1 S := fun p hp => ⟨(h p hp).1, Nat.lt_of_lt_of_le (h p hp).2.1 (Nat.pow_le_pow_right (by omega) hM), (h p hp).2.2⟩
theorem tS_ok {q m d n M : Nat} (w : Wd q m d n) {S : TSt} (h : Sok q d n M S) {x t : Nat} (hx : x < n) (ht : t < q ^ M) :
    Sok q d n M (tS q S x t).2.2 ∧ (tS q S x t).2.1 < q ^ M ∧ ((tS q S x t).1 = 0 → (tS q S x t).2.2 = S) ∧ ((tS q S x t).1 ≠ 0 → nfl (tS q S x t).2.2.1 7 = nfl S.1 7 + 1) := by
  have h2 := w.q2
  have hd7 := w.d7
  obtain ⟨k1, k2, k3⟩ := ta1_ok w h 7 x t hx ht
  unfold tS
  show Sok q d n M (if _ then _ else _) ∧ _ ∧ (_ → (if _ then _ else _) = _) ∧ (_ → nfl (if _ then _ else _ : TSt).1 7 = _)
  by_cases c : (ta1 q S.1 S.2.1 S.2.2 7 x t).1 = 0
  · rw [if_pos c]
    exact ⟨h, k1, fun _ => rfl, fun z => absurd c z⟩
  · rw [if_neg c]
    obtain ⟨a, ha⟩ : ∃ a, (ta1 q S.1 S.2.1 S.2.2 7 x t).1 = a + 1 := ⟨_, (Nat.succ_pred_eq_of_ne_zero c).symm⟩
    obtain ⟨j1, j2, j3⟩ := k3 a ha
    rw [ha, Nat.add_sub_cancel]
    refine ⟨fun p hp => ?_, k1, fun z => absurd z (by omega), fun _ => ?_⟩
    · show _ ∧ (if p = a then _ else _) < _ ∧ (if p = a then _ else _) < _
      have hp1 : (if p = a then true else S.1 p) = true := hp
      by_cases e : p = a
      · rw [if_pos e, if_pos e, e]
        exact ⟨j1, cmb_small h2 (Nat.pow_pos (by omega)) k1, cmb_ltn w (by have := w.n2; omega) k2⟩
      · rw [if_neg e] at hp1
        rw [if_neg e, if_neg e]
        exact h p hp1
    · show nfl (kfl S.1 a) 7 = _
      rw [nfl_put j2, if_pos (by omega)]
theorem Sok0 (q d n M : Nat) : Sok q d n M tS0 := fun p hp => absurd hp Bool.false_ne_true
theorem chl_some {q m d n g0 : Nat} (w : Wd q m d n) (hg : g0 < n) : ∀ (r k x : Nat) (S : TSt), Sok q d n k S → x < n → d < nfl S.1 7 + r → ∃ c, chl q m g0 r k x S = some c ∧ c < q ^ (k + r)
  | 0, k, x, S, h, hx, hd => by
    have := nfl_dpt (fun p hp => (h p hp).1) 7
    omega
  | r + 1, k, x, S, h, hx, hd => by
    have h2 := w.q2
    obtain ⟨t1, t2, t3, t4⟩ := tS_ok w (h.mono h2 (Nat.le_succ k)) hx (t := q ^ k) (Nat.pow_lt_pow_right (by omega) (by omega))
    unfold chl
    split
    · exact ⟨_, rfl, Nat.lt_of_lt_of_le t2 (Nat.pow_le_pow_right (by omega) (by omega))⟩
    · next c =>
      have := t4 c
      obtain ⟨y, y1, y2⟩ := chl_some w hg r (k + 1) (mu q m x g0) _ t1 (mu_lt w hg) (by omega)
      exact ⟨y, y1, by rw [show k + (r + 1) = k + 1 + r by omega]; exact y2⟩
theorem chc_some {q m d n g0 : Nat} (w : Wd q m d n) (hg : g0 < n) : ∃ c, chc q m d g0 = some c ∧ c < q ^ (d + 1) := by
  have := chl_some w hg (d + 1) 0 1 tS0 (Sok0 q d n 0) (by have := w.n2; omega) (by have := Nat.zero_le (nfl tS0.1 7); omega)
  rw [Nat.zero_add] at this
  exact this
theorem ptl_ok {q m d n : Nat} (w : Wd q m d n) {g : Nat → Nat} : ∀ (r k x : Nat) (S : TSt), Sok q d n k S → x < n → d < nfl S.1 7 + r →
    ∃ c k2, (ptl q m d g r k x S).1 = some c ∧ c < q ^ (k2 + 1) ∧ k ≤ k2 ∧ Sok q d n (k2 + 1) (ptl q m d g r k x S).2 ∧ nfl (ptl q m d g r k x S).2.1 7 = nfl S.1 7 + (k2 - k)
  | 0, k, x, S, h, hx, hd => by
    have := nfl_dpt (fun p hp => (h p hp).1) 7
    omega
  | r + 1, k, x, S, h, hx, hd => by
    have h2 := w.q2
    obtain ⟨t1, t2, t3, t4⟩ := tS_ok w (h.mono h2 (Nat.le_succ k)) hx (t := q ^ k) (Nat.pow_lt_pow_right (by omega) (by omega))
    unfold ptl
    split
    · next c =>
      refine ⟨_, k, rfl, t2, Nat.le_refl k, t1, ?_⟩
      show nfl (tS q S x (q ^ k)).2.2.1 7 = _
      rw [t3 c]
      omega
    · next c =>
      have e4 := t4 c
      obtain ⟨y, k2, y1, y2, y3, y4, y5⟩ := ptl_ok w r (k + 1) (vl q m d g x) _ t1 (vl_lt w hx) (by omega)
      exact ⟨y, k2, y1, y2, by omega, y4, by omega⟩
section ACT
variable {G : GC} {e q m d n g : Nat} {mi : Nat → Nat → Int32} {ml : Nat → Nat → Int64} {y : Nat → Nat → Option Nat}
theorem p_vl (h0 : En q m d n g mi) {c x : Nat} (hc : isR c) (hc25 : an c ≤ 25) {f : Nat → Nat} (hf : Rw n mi c f) (hx : x < n) {K : Int32 → (Nat → Nat → Int32) → (Nat → Nat → Int64) → Prop} (hK : K (nI (vl q m d f x)) mi ml) : wpI G e 154 m_X8_valueAt [.ref 10, .ref c, .int (nI x)] (mi, ml, RX y) K := by
  refine p_valueAt h0 hc hf hx ?_
  rw [← vls_ext h0.w hx hc25 hf.2.1]
  exact hK
theorem p_sendBy_loop (h0 : En q m d n g mi) {c a x : Nat} (hc : isR c) (hc25 : an c ≤ 25) (ha : a < q ^ 13) {f : Nat → Nat} (hf : Rw n mi c f) (hx : x < n) {K : Int32 → (Nat → Nat → Int32) → (Nat → Nat → Int64) → Prop} :
    ∀ (k s : Nat), k ≤ 13 → s < n → K (nI (sndl q m d f a x k s)) mi ml → wp G e tX m_X0_sendBy 13 [(0, .ref 11), (1, .ref c), (2, .int (nI a)), (3, .int (nI x)), (4, .int (nI s)), (5, .int (pd k))] [] (mi, ml, RX y) (QI K) := by
  have w := h0.w
  have hq2 := w.q2
  intro k
  induction k with
  | zero =>
    intro s hk hs hK
    apply b_X0_sendBy_13
    simp (disch := omega) only [s_le, s_lt, s_eq, s_eq0, s_in, s_ix, s_rm, s_div, s_pdlt, s_pdle, s_lepd, s_pdpd, s_pdlepd, s_pdadd, nI_add, pk_mul, pd_succ, Nat.not_lt_zero, Nat.zero_lt_succ, not_false_eq_true, not_true_eq_false, false_implies, true_implies, implies_true, and_true, true_and, Nat.reduceLT, Nat.reduceLeDiff, Nat.reduceAdd, Nat.reduceSub, Nat.zero_add, Nat.add_zero]
    exact hK
  | succ k ih =>
    intro s hk hs hK
    have hv := vl_lt (f := f) w hs
    apply b_X0_sendBy_13
    rw [pd_succ, pd_dec]
    simp (disch := omega) only [s_le, s_lt, s_eq, s_eq0, s_in, s_ix, s_rm, s_div, s_pdlt, s_pdle, s_lepd, s_pdpd, s_pdlepd, s_pdadd, nI_add, pk_mul, pd_succ, Nat.not_lt_zero, Nat.zero_lt_succ, not_false_eq_true, not_true_eq_false, false_implies, true_implies, implies_true, and_true, true_and, Nat.reduceLT, Nat.reduceLeDiff, Nat.reduceAdd, Nat.reduceSub, Nat.zero_add, Nat.add_zero]
    refine p_vl h0 hc hc25 hf hs (p_figure h0.1 ha (by omega) (p_mix h0.1 (w.lt13 hv) (w.lt13 hx) (dg_lt hq2) ?_))
    exact ih _ (by omega) (cmb_ltn w hv hx) hK
theorem p_sendBy (h0 : En q m d n g mi) {c a x : Nat} (hc : isR c) (hc25 : an c ≤ 25) (ha : a < q ^ 13) {f : Nat → Nat} (hf : Rw n mi c f) (hx : x < n) {K : Int32 → (Nat → Nat → Int32) → (Nat → Nat → Int64) → Prop} (hK : K (nI (snd q m d f a x)) mi ml) : wpI G e 154 m_X0_sendBy [.ref 11, .ref c, .int (nI a), .int (nI x)] (mi, ml, RX y) K := by
  apply e_X0_sendBy
  refine p_degree h0.1 ha ?_
  exact p_sendBy_loop h0 hc hc25 ha hf hx _ 0 (ln_le q 13 a) (by have := h0.w.n2; omega) hK
theorem p_turn_loop {c b a : Nat} (hc : isR c) (hc25 : an c = 25) (hb : isR b) (hb25 : an b ≤ 25) (hcb : c ≠ b) (h16 : 6 < c ∧ 6 < b) (ha : a < q ^ 13) (mi0 : Nat → Nat → Int32) (h0 : En q m d n g mi0) {h : Nat → Nat} (hh : Rw n mi0 b h) {K : Int32 → (Nat → Nat → Int32) → (Nat → Nat → Int64) → Prop} :
    ∀ (k : Nat) (f : Nat → Nat) (mi : Nat → Nat → Int32), k ≤ 13 → (∀ o, o ≠ c → mi o = mi0 o) → Rw n mi c f →
      (∀ mi1 : Nat → Nat → Int32, (∀ o, o ≠ c → mi1 o = mi0 o) → Rw n mi1 c (trnl q m d h a k f).2 → K (nI (if (trnl q m d h a k f).1 = true then 1 else 0)) mi1 ml) →
      wp G e tX m_X0_turn 14 [(0, .ref 11), (1, .ref b), (2, .int (nI a)), (3, .ref c), (4, .int (pd k))] [] (mi, ml, RX y) (QI K) := by
  have w := h0.w
  have hq2 := w.q2
  have hw2 := w.n2
  have hqn : q ≤ n := by
    have hd1 : 1 ≤ d := w.2.2.2.2.1
    have hn : n = q ^ d := w.2.2.2.2.2.1
    rw [hn]
    have := Nat.pow_le_pow_right (show 0 < q by omega) hd1
    rw [Nat.pow_one] at this
    exact this
  intro k
  induction k with
  | zero =>
    intro f mi hk ho hf hK
    apply b_X0_turn_14
    simp (disch := omega) only [s_le, s_lt, s_eq, s_eq0, s_in, s_ix, s_rm, s_div, s_pdlt, s_pdle, s_lepd, s_pdpd, s_pdlepd, s_pdadd, nI_add, pk_mul, pd_succ, Nat.not_lt_zero, Nat.zero_lt_succ, not_false_eq_true, not_true_eq_false, false_implies, true_implies, implies_true, and_true, true_and, Nat.reduceLT, Nat.reduceLeDiff, Nat.reduceAdd, Nat.reduceSub, Nat.zero_add, Nat.add_zero]
    exact ⟨Or.inr rfl, hK mi ho hf⟩
  | succ k ih =>
    intro f mi hk ho hf hK
    have hE : En q m d n g mi := h0.off (fun o o1 o2 => ho o (by omega))
    have hLe : rl h 25 = rl h (an b) := rl_ext hb25 hh.2.1
    unfold trnl at hK
    rw [hLe] at hK
    apply b_X0_turn_14
    rw [pd_succ, pd_dec]
    simp (disch := omega) only [s_le, s_lt, s_eq, s_eq0, s_in, s_ix, s_rm, s_div, s_pdlt, s_pdle, s_lepd, s_pdpd, s_pdlepd, s_pdadd, nI_add, pk_mul, pd_succ, Nat.not_lt_zero, Nat.zero_lt_succ, not_false_eq_true, not_true_eq_false, false_implies, true_implies, implies_true, and_true, true_and, Nat.reduceLT, Nat.reduceLeDiff, Nat.reduceAdd, Nat.reduceSub, Nat.zero_add, Nat.add_zero]
    refine p_multiply hE hc hb hcb h16 (by omega) (by omega) hf (hh.off (ho b (fun z => hcb z.symm))) (fun c1 c2 c3 => ?_) (fun cc mi1 ho1 hf1 => ?_)
    · rw [hc25] at c1 c3
      rw [if_pos ⟨c1, c2, by omega⟩] at hK
      exact ⟨fun z => absurd rfl z, fun _ => ⟨Or.inl rfl, hK mi ho hf⟩⟩
    · rw [hc25] at cc
      rw [if_neg (by omega)] at hK
      have hE1 : En q m d n g mi1 := hE.off (fun o o1 o2 => ho1 o (by omega))
      refine ⟨fun _ => ⟨hc.1, ?_⟩, fun z => absurd z (by decide)⟩
      rw [hc25]
      refine ⟨by omega, p_figure hE1.1 ha (by omega) ?_⟩
      rw [hf1.1 0 (by omega)]
      have hcv := cv_lt w (f := f) hh.2.2 0
      have hdg := dg_lt (n := a) (k := k) hq2
      refine p_sum hE1.1 (w.lt13 hcv) (w.lt13 (by omega)) ⟨hc.1, by omega, ?_⟩
      refine ih _ _ (by omega) (fun o h => by rw [u2_off h, ho1 o h]; exact ho o h) ⟨fun j hj => ?_, fun j hj => ?_, fun j => ?_⟩ hK
      · rw [u2_on]
        show (if j = 0 then _ else _) = nI (if j = 0 then _ else _)
        by_cases z : j = 0
        · rw [if_pos z, if_pos z]
        · rw [if_neg z, if_neg z]
          exact hf1.1 j hj
      · show (if j = 0 then _ else _) = 0
        rw [if_neg (by omega)]
        exact hf1.2.1 j hj
      · show (if j = 0 then _ else _) < n
        split
        · exact cmb_ltn w hcv (by omega)
        · exact hf1.2.2 j
theorem p_turn (h0 : En q m d n g mi) {c b a : Nat} (hc : isR c) (hc25 : an c = 25) (hb : isR b) (hb25 : an b ≤ 25) (hcb : c ≠ b) (h16 : 6 < c ∧ 6 < b) (ha : a < q ^ 13) {h : Nat → Nat} (hh : Rw n mi b h) {K : Int32 → (Nat → Nat → Int32) → (Nat → Nat → Int64) → Prop}
    (hK : ∀ mi1 : Nat → Nat → Int32, (∀ o, o ≠ c → mi1 o = mi o) → Rw n mi1 c (trn q m d h a).2 → K (nI (if (trn q m d h a).1 = true then 1 else 0)) mi1 ml) :
    wpI G e 154 m_X0_turn [.ref 11, .ref b, .int (nI a), .ref c] (mi, ml, RX y) K := by
  have hw2 := h0.w.n2
  apply e_X0_turn
  refine p_clear hc (fun mi1 ho1 hr1 => ?_)
  have hE1 : En q m d n g mi1 := h0.off (fun o o1 o2 => ho1 o (by omega))
  refine p_degree hE1.1 ha ?_
  exact p_turn_loop hc hc25 hb hb25 hcb h16 ha mi1 hE1 (hh.off (ho1 b (fun z => hcb z.symm))) _ (fun _ => 0) mi1 (ln_le q 13 a) (fun _ _ => rfl) ⟨fun k hk => (hr1 k hk).1, fun _ _ => rfl, fun _ => by show 0 < n; omega⟩
    (fun mi2 ho2 h2 => hK mi2 (fun o h => by rw [ho2 o h]; exact ho1 o h) h2)
def off67 (mi mi1 : Nat → Nat → Int32) : Prop := ∀ o, (o < 7 ∨ 67 < o) → mi1 o = mi o
def off16 (mi mi1 : Nat → Nat → Int32) : Prop := ∀ o, (o < 16 ∨ 67 < o) → mi1 o = mi o
theorem off16.to67 {mi mi1 : Nat → Nat → Int32} (h : off16 mi mi1) : off67 mi mi1 := fun o oo => h o (by omega)
theorem En.off16 {mi1 : Nat → Nat → Int32} (h : En q m d n g mi) (ho : off16 mi mi1) : En q m d n g mi1 := h.off (fun o _ _ => ho o (by omega))
theorem En.off67 {mi1 : Nat → Nat → Int32} (h : En q m d n g mi) (ho : off67 mi mi1) : En q m d n g mi1 := h.off (fun o _ _ => ho o (by omega))
theorem pow_lt31 {M : Nat} (hq : q = 2 ∨ q = 3 ∨ q = 5) (hM : M ≤ 13) : q ^ M < 2 ^ 31 := by
  have := pow_q hq hM
  omega
theorem p_chc_loop {g0 : Nat} (hg : g0 < n) (mi0 : Nat → Nat → Int32) (h0 : En q m d n g mi0) {K : Int32 → (Nat → Nat → Int32) → (Nat → Nat → Int64) → Prop} :
    ∀ (r k x : Nat) (S : TSt) (mi : Nat → Nat → Int32), r + k = d + 1 → x < n → off16 mi0 mi → T1 q n mi S → (∀ mi1, off16 mi0 mi1 → K (oI (chl q m g0 r k x S)) mi1 ml) →
      wp G e tX m_X0_characteristic 11 [(0, .ref 11), (1, .int (nI g0)), (2, .int (nI x)), (3, .int (nI k))] [] (mi, ml, RX y) (QI K) := by
  have w := h0.w
  have hq2 := w.q2
  have hd7 := w.d7
  intro r
  induction r with
  | zero =>
    intro k x S mi hr hx ho hT hK
    have hE := h0.off16 ho
    apply b_X0_characteristic_11
    refine p_rdegree hE.2.1 ?_
    simp (disch := omega) only [s_le, s_lt, s_eq, s_eq0, s_in, s_ix, s_rm, s_div, s_pdlt, s_pdle, s_lepd, s_pdpd, s_pdlepd, s_pdadd, nI_add, pk_mul, pd_succ, Nat.not_lt_zero, Nat.zero_lt_succ, not_false_eq_true, not_true_eq_false, false_implies, true_implies, implies_true, and_true, true_and, Nat.reduceLT, Nat.reduceLeDiff, Nat.reduceAdd, Nat.reduceSub, Nat.zero_add, Nat.add_zero]
    exact ⟨fun _ => hK mi ho, fun c => absurd (show d < k by omega) c⟩
  | succ r ih =>
    intro k x S mi hr hx ho hT hK
    have hE := h0.off16 ho
    unfold chl at hK
    apply b_X0_characteristic_11
    refine p_rdegree hE.2.1 ?_
    simp (disch := omega) only [s_le, s_lt, s_eq, s_eq0, s_in, s_ix, s_rm, s_div, s_pdlt, s_pdle, s_lepd, s_pdpd, s_pdlepd, s_pdadd, nI_add, pk_mul, pd_succ, Nat.not_lt_zero, Nat.zero_lt_succ, not_false_eq_true, not_true_eq_false, false_implies, true_implies, implies_true, and_true, true_and, Nat.reduceLT, Nat.reduceLeDiff, Nat.reduceAdd, Nat.reduceSub, Nat.zero_add, Nat.add_zero]
    refine ⟨fun c => absurd c (by omega), fun _ => p_power hE.1 (by omega) ?_⟩
    have hk13 : q ^ k < q ^ 13 := Nat.pow_lt_pow_right (by omega) (by omega)
    have h31 := pow_lt31 (M := 13) w.1 (Nat.le_refl _)
    refine p_add1 hE hx hk13 hT (fun mi1 ho1 hT1 => ?_)
    have ho2 : off16 mi0 mi1 := fun o oo => by rw [ho1 o (by omega)]; exact ho o oo
    have htag := ta1_tag hq2 (fl := S.1) (v := S.2.1) (tg := S.2.2) 7 x _ hk13
    have htag2 : (tS q S x (q ^ k)).2.1 < 2 ^ 31 := by
      show (ta1 q S.1 S.2.1 S.2.2 7 x (q ^ k)).2.1 < _
      omega
    by_cases c1 : (tS q S x (q ^ k)).1 = 0
    · rw [if_pos c1] at hK ⊢
      exact ⟨fun z => absurd z (nI_neg1 htag2), fun _ => hK mi1 ho2⟩
    · rw [if_neg c1] at hK ⊢
      refine ⟨fun _ => p_mu (h0.off16 ho2) hx hg ?_, fun z => absurd rfl z⟩
      exact ih (k + 1) _ _ mi1 (by omega) (mu_lt w hg) ho2 hT1 hK
/-- the characteristic -/
theorem p_chc (h0 : En q m d n g mi) {g0 : Nat} (hg : g0 < n) {K : Int32 → (Nat → Nat → Int32) → (Nat → Nat → Int64) → Prop} (hK : ∀ (c : Nat) (mi1 : Nat → Nat → Int32), off16 mi mi1 → chc q m d g0 = some c → c < q ^ (d + 1) → K (nI c) mi1 ml) : wpI G e 154 m_X0_characteristic [.ref 11, .int (nI g0)] (mi, ml, RX y) K := by
  obtain ⟨c, c1, c2⟩ := chc_some h0.w hg
  apply e_X0_characteristic
  refine p_clear1 (q := q) (n := n) (fun mi1 ho1 hT1 => ?_)
  have ho : off16 mi mi1 := fun o oo => ho1 o (by omega)
  refine p_chc_loop hg mi h0 (d + 1) 0 1 tS0 mi1 rfl (by have := h0.w.n2; omega) ho hT1 (fun mi2 ho2 => ?_)
  have := hK c mi2 ho2 c1 c2
  unfold chc at c1
  rw [c1]
  exact this
end ACT
