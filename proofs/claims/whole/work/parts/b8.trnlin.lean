/-! what a polynomial acts as, by powers of the module -/
/-- the powers of g -/
def gpw (q m d : Nat) (g : Nat → Nat) : Nat → Nat → Nat
  | 0 => r1 1
  | i + 1 => cv q m d (gpw q m d g i) g
/-- f times g, r times -/
def itG (q m d : Nat) (g : Nat → Nat) : Nat → (Nat → Nat) → Nat → Nat
  | 0, f => f
  | r + 1, f => itG q m d g r (cv q m d f g)
def Ac (q m d : Nat) (g : Nat → Nat) (a k : Nat) : Nat := lsm q (dg q a) (fun i => gpw q m d g i k) 13
section TLN
variable {q m d n : Nat}
theorem ss_lin {q : Nat} (h2 : 2 ≤ q) (s : Nat) (t u : Nat → Nat) : ∀ N, ss q (fun i => cmb q s 13 (t i) (u i)) N = cmb q s 13 (ss q t N) (ss q u N)
  | 0 => (cmb_zero s h2 13).symm
  | N + 1 => by
    show cmb q 1 13 (ss q _ N) (cmb q s 13 (t N) (u N)) = cmb q s 13 (cmb q 1 13 (ss q t N) (t N)) (cmb q 1 13 (ss q u N) (u N))
    rw [ss_lin h2 s t u N, cmb_lin h2]
theorem cv_linL (w : Wd q m d n) {f h g : Nat → Nat} (hf : ∀ k, f k < n) (hh : ∀ k, h k < n) (hg : ∀ k, g k < n) (s k : Nat) : cv q m d (fun i => cmb q s 13 (f i) (h i)) g k = cmb q s 13 (cv q m d f g k) (cv q m d h g k) := by
  have h2 := w.q2
  rw [cv_ss h2, cv_ss h2, cv_ss h2, ← ss_lin h2]
  refine ss_ext (fun i hi => ?_)
  unfold ct
  split
  · rw [mu_comm w (cmb_ltn w (hf i) (hh i)) (tu_lt w (hg _)), mu_lin w (tu_lt w (hg _)) (hf i) (hh i), mu_comm w (tu_lt w (hg _)) (hf i), mu_comm w (tu_lt w (hg _)) (hh i)]
  · rw [cmb_zero s h2]
theorem gpw_lt (w : Wd q m d n) {g : Nat → Nat} (hg : ∀ k, g k < n) : ∀ i k, gpw q m d g i k < n
  | 0, k => by
    have := w.n2
    show (if k = 0 then 1 else 0) < n
    split <;> omega
  | i + 1, k => cv_lt w hg k
theorem itG_lt (w : Wd q m d n) {g : Nat → Nat} (hg : ∀ k, g k < n) : ∀ r (f : Nat → Nat), (∀ k, f k < n) → ∀ k, itG q m d g r f k < n
  | 0, _, hf => hf
  | r + 1, _, _ => itG_lt w hg r _ (fun k => cv_lt w hg k)
theorem itG_lin (w : Wd q m d n) {g : Nat → Nat} (hg : ∀ k, g k < n) (s : Nat) : ∀ r (f h : Nat → Nat), (∀ k, f k < n) → (∀ k, h k < n) → ∀ k, itG q m d g r (fun i => cmb q s 13 (f i) (h i)) k = cmb q s 13 (itG q m d g r f k) (itG q m d g r h k)
  | 0, _, _, _, _, _ => rfl
  | r + 1, f, h, hf, hh, k => by
    show itG q m d g r (cv q m d (fun i => cmb q s 13 (f i) (h i)) g) k = _
    have e : cv q m d (fun i => cmb q s 13 (f i) (h i)) g = fun i => cmb q s 13 (cv q m d f g i) (cv q m d h g i) := funext (cv_linL w hf hh hg s)
    rw [e, itG_lin w hg s r _ _ (fun k => cv_lt w hg k) (fun k => cv_lt w hg k)]
    rfl
theorem gpw_itG (q m d : Nat) (g : Nat → Nat) : ∀ r i, itG q m d g r (gpw q m d g i) = gpw q m d g (i + r)
  | 0, _ => rfl
  | r + 1, i => by
    show itG q m d g r (gpw q m d g (i + 1)) = _
    rw [gpw_itG q m d g r (i + 1), show i + 1 + r = i + (r + 1) by omega]
theorem trl_lin (hp : Pw q m d n) {g : Nat → Nat} {a D : Nat} (hg : ∀ i, g i < n) (hg0 : ∀ i, 25 ≤ i → g i = 0) (hD : rl g 25 = D + 1) (hD1 : 1 ≤ D) : ∀ (k j : Nat) (f : Nat → Nat), (∀ i, f i < n) → (∀ i, 25 ≤ i → f i = 0) → rl f 25 = j * D + 1 → (j + k) * D ≤ 24 → ∀ x, (trnl q m d g a k f).2 x = cmb q 1 13 (itG q m d g k f x) (lsm q (dg q a) (fun i => gpw q m d g i x) k)
  | 0, j, f, hf, hf0, c1, _, x => (cmb_0r hp.1.q2 (hp.1.lt13 (hf x))).symm
  | k + 1, j, f, hf, hf0, c1, hbig, x => by
    have w := hp.1
    have h2 := w.q2
    have hqn := q_le_n w
    have e1 : (j + (k + 1)) * D = j * D + D + k * D := by rw [Nat.add_mul, Nat.add_mul, Nat.one_mul]; omega
    have et : trnl q m d g a (k + 1) f = if 0 < rl f 25 ∧ 0 < rl g 25 ∧ 26 < rl f 25 + rl g 25 then (false, f) else trnl q m d g a k (trN q m d g a k f) := rfl
    rw [et, if_neg (by omega)]
    obtain ⟨t1, t2, t3⟩ := trN_rl (a := a) (k := k) hp hg hf hg0 hf0 hD hD1 c1 (by omega)
    have hdl := dg_lt (q := q) (n := a) (k := k) h2
    rw [trl_lin hp (a := a) hg hg0 hD hD1 k (j + 1) _ t1 t2 t3 (by rw [show j + 1 + k = j + (k + 1) by omega]; exact hbig)]
    have eN : trN q m d g a k f = fun i => cmb q (dg q a k) 13 (cv q m d f g i) (r1 1 i) := funext fun i => by
      unfold trN up1 r1
      by_cases c : i = 0
      · rw [if_pos c, if_pos c, c]
        refine dg_ext h2 (cmb_lt _ h2 13 _ _) (cmb_lt _ h2 13 _ _) (fun z hz => ?_)
        rw [cmb_dg _ h2, if_pos hz, cmb_dg _ h2, if_pos hz]
        have e2 : dg q (dg q a k) z = if z = 0 then dg q a k else 0 := by
          by_cases y : z = 0
          · rw [if_pos y, y, dg_0, Nat.mod_eq_of_lt hdl]
          · rw [if_neg y]
            exact dg_big (m := 1) (by rw [Nat.pow_one]; exact hdl) (by omega) h2
        have e3 : dg q 1 z = if z = 0 then 1 else 0 := by
          have := dg_pwk h2 0 z
          rw [Nat.pow_zero] at this
          exact this
        rw [e2, e3]
        by_cases y : z = 0
        · rw [if_pos y, if_pos y, Nat.one_mul, Nat.mul_one]
        · rw [if_neg y, if_neg y, Nat.mul_zero, Nat.mul_zero]
      · rw [if_neg c, if_neg c, cmb_0r h2 (w.lt13 (cv_lt w hg i))]
    have hr1 : ∀ i, r1 1 i < n := gpw_lt w hg 0
    rw [eN, itG_lin w hg _ k _ _ (fun i => cv_lt w hg i) hr1]
    have e4 : itG q m d g k (r1 1) = gpw q m d g k := by
      have := gpw_itG q m d g k 0
      rw [Nat.zero_add] at this
      exact this
    rw [e4]
    show cmb q 1 13 (cmb q (dg q a k) 13 (itG q m d g k (cv q m d f g) x) (gpw q m d g k x)) _ = cmb q 1 13 (itG q m d g k (cv q m d f g) x) (cmb q (dg q a k) 13 (lsm q (dg q a) (fun i => gpw q m d g i x) k) (gpw q m d g k x))
    rw [cmb_in h2, Nat.one_mul, cmb_swap h2]
theorem lsm_more (h2 : 2 ≤ q) {h t : Nat → Nat} {k : Nat} (hz : ∀ j, k ≤ j → h j = 0) : ∀ r, lsm q h t (k + r) = lsm q h t k
  | 0 => rfl
  | r + 1 => by
    show cmb q (h (k + r)) 13 (lsm q h t (k + r)) (t (k + r)) = _
    rw [hz _ (by omega), cmb_a h2 _ (lsm_lt13 h2 _ _ _), lsm_more h2 hz r]
theorem lsm_13 (h2 : 2 ≤ q) {a : Nat} (ha : a < q ^ 13) (t : Nat → Nat) : lsm q (dg q a) t 13 = lsm q (dg q a) t (ln q 13 a) := by
  have hl := ln_le q 13 a
  have := lsm_more h2 (h := dg q a) (t := t) (k := ln q 13 a) (fun j hj => dg_ge_ln h2 ha hj) (13 - ln q 13 a)
  rw [show ln q 13 a + (13 - ln q 13 a) = 13 by omega] at this
  exact this
theorem trn_Ac (hp : Pw q m d n) {g : Nat → Nat} {a D : Nat} (ha : a < q ^ 13) (hg : ∀ i, g i < n) (hg0 : ∀ i, 25 ≤ i → g i = 0) (hD : rl g 25 = D + 1) (hD1 : 1 ≤ D) (hfit : D * (ln q 13 a - 1) ≤ 24) (x : Nat) : (trn q m d g a).2 x = Ac q m d g a x := by
  have w := hp.1
  have h2 := w.q2
  have hn2 := w.n2
  have hqn := q_le_n w
  unfold Ac
  rw [lsm_13 h2 ha]
  by_cases h0 : a = 0
  · subst h0
    rw [ln_zero h2]
    unfold trn
    rw [ln_zero h2]
    rfl
  obtain ⟨k, hk⟩ : ∃ k, ln q 13 a = k + 1 := ⟨ln q 13 a - 1, by have := ln_pos ha (by omega); omega⟩
  have hd := (dg_ln h2 ha hk).1
  rw [hk, Nat.add_sub_cancel, Nat.mul_comm] at hfit
  unfold trn
  rw [hk]
  have r0 : rl (fun _ => 0) 25 = 0 := rfl
  have et : trnl q m d g a (k + 1) (fun _ => 0) = trnl q m d g a k (trN q m d g a k (fun _ => 0)) := by
    show (if _ then _ else _) = _
    rw [if_neg (by rw [r0]; omega)]
    rfl
  rw [et]
  have hcv : ∀ i, cv q m d (fun _ => 0) g i = 0 := fun i => by
    rw [cv_top2 w (a := 0) (fun _ _ => rfl)]
    rfl
  have hdl := dg_lt (q := q) (n := a) (k := k) h2
  have e0 : trN q m d g a k (fun _ => 0) = fun i => cmb q (dg q a k) 13 0 (r1 1 i) := funext fun i => by
    unfold trN up1 r1
    by_cases c : i = 0
    · rw [if_pos c, if_pos c, hcv, cmb_one h2 (w.lt13 (show dg q a k < n by omega)), cmb_fig h2 (by omega) (by omega), Nat.zero_add, Nat.mul_one, Nat.mod_eq_of_lt hdl]
    · rw [if_neg c, if_neg c, hcv, cmb_zero _ h2]
  have e00 : trN q m d g a k (fun _ => 0) 0 = dg q a k := by
    rw [e0]
    show cmb q (dg q a k) 13 0 1 = _
    rw [cmb_fig h2 (by omega) (by omega), Nat.zero_add, Nat.mul_one, Nat.mod_eq_of_lt hdl]
  have en : ∀ i, i ≠ 0 → trN q m d g a k (fun _ => 0) i = 0 := fun i hi => by
    unfold trN up1
    rw [if_neg hi, hcv]
  have := trl_lin hp (a := a) hg hg0 hD hD1 k 0 (trN q m d g a k (fun _ => 0)) (fun i => by
    by_cases c : i = 0
    · rw [c, e00]; omega
    · rw [en i c]; omega) (fun i hi => en i (by omega)) (by rw [Nat.zero_mul]; exact rl_is (by rw [e00]; omega) (by omega) (fun i h1 _ => en i (by omega))) (by rw [Nat.zero_add]; exact hfit) x
  rw [this, e0, itG_lin w hg _ k (fun _ => 0) (r1 1) (fun _ => w.pos) (gpw_lt w hg 0)]
  have e4 : itG q m d g k (r1 1) = gpw q m d g k := by
    have := gpw_itG q m d g k 0
    rw [Nat.zero_add] at this
    exact this
  have e5 : ∀ r y, itG q m d g r (fun _ => 0) y = 0 := by
    intro r
    induction r with
    | zero => intro y; rfl
    | succ r ih =>
      intro y
      show itG q m d g r (cv q m d (fun _ => 0) g) y = 0
      have : cv q m d (fun _ => 0) g = fun _ => 0 := funext hcv
      rw [this]
      exact ih y
  rw [e4, e5]
  show cmb q 1 13 (cmb q (dg q a k) 13 0 (gpw q m d g k x)) (lsm q (dg q a) (fun i => gpw q m d g i x) k) = cmb q (dg q a k) 13 (lsm q (dg q a) (fun i => gpw q m d g i x) k) (gpw q m d g k x)
  rw [cmb_swap h2, cmb_one h2 (lsm_lt13 h2 _ _ _)]
theorem Ac_lin (h2 : 2 ≤ q) (g : Nat → Nat) (s a b k : Nat) : Ac q m d g (cmb q s 13 a b) k = cmb q s 13 (Ac q m d g a k) (Ac q m d g b k) := by
  unfold Ac
  refine dg_ext h2 (lsm_lt13 h2 _ _ _) (cmb_lt _ h2 13 _ _) (fun x hx => ?_)
  rw [cmb_dg _ h2, if_pos hx, lsm_dg h2 _ _ hx, lsm_dg h2 _ _ hx, lsm_dg h2 _ _ hx, md1, ← sg_lin]
  congr 1
  refine sg_ext (fun i hi => ?_)
  rw [cmb_dg _ h2, if_pos hi]
theorem Ac_pow (w : Wd q m d n) {g : Nat → Nat} (hg : ∀ k, g k < n) {i : Nat} (hi : i < 13) (k : Nat) : Ac q m d g (q ^ i) k = gpw q m d g i k := by
  have h2 := w.q2
  unfold Ac
  refine dg_ext h2 (lsm_lt13 h2 _ _ _) (w.lt13 (gpw_lt w hg i k)) (fun x hx => ?_)
  rw [lsm_dg h2 _ _ hx]
  have e : (fun j => dg q (q ^ i) j * dg q (gpw q m d g j k) x) = fun j => if j = i then dg q (gpw q m d g i k) x else 0 := funext fun j => by
    rw [dg_pwk h2]
    by_cases c : j = i
    · rw [if_pos c, if_pos c, c, Nat.one_mul]
    · rw [if_neg c, if_neg c, Nat.zero_mul]
  rw [e, sg_one, if_pos hi, Nat.mod_eq_of_lt (dg_lt h2)]
theorem Ac_zero (h2 : 2 ≤ q) (g : Nat → Nat) (k : Nat) : Ac q m d g 0 k = 0 := by
  have := Ac_lin (m := m) (d := d) h2 g (q - 1) 0 0 k
  rw [cmb_self h2, cmb_self h2] at this
  exact this
theorem Ac_lt (w : Wd q m d n) {g : Nat → Nat} (hg : ∀ k, g k < n) (a k : Nat) : Ac q m d g a k < n := lsm_lt w (fun i => gpw_lt w hg i k) 13
/-- the i-th power has degree D i -/
theorem gpw_deg (hp : Pw q m d n) {g : Nat → Nat} {D : Nat} (hg : ∀ i, g i < n) (hgD : g D ≠ 0) (hg0 : ∀ i, D < i → g i = 0) : ∀ i, gpw q m d g i (i * D) ≠ 0 ∧ ∀ k, i * D < k → gpw q m d g i k = 0
  | 0 => by
    refine ⟨?_, fun k hk => ?_⟩
    · show (if 0 * D = 0 then 1 else 0) ≠ 0
      rw [Nat.zero_mul, if_pos rfl]
      omega
    · show (if k = 0 then 1 else 0) = 0
      rw [if_neg (by omega)]
  | i + 1 => by
    obtain ⟨a, b⟩ := gpw_deg hp hg hgD hg0 i
    obtain ⟨l1, l2⟩ := cv_lead hp (gpw_lt hp.1 hg i) hg a hgD b hg0
    have e : (i + 1) * D = i * D + D := by rw [Nat.add_mul, Nat.one_mul]
    rw [e]
    exact ⟨l1, l2⟩
end TLN
