/-! the ring of rests: products by steps of x; commutative, associative -/
theorem mA {q Y X M : Nat} : (Y + (X % q) * M) % q = (Y + X * M) % q := by
  have e : Y + X * M = Y + (X % q) * M + q * (X / q * M) := by
    have h := Nat.div_add_mod X q
    have e2 : X * M = (q * (X / q) + X % q) * M := by rw [h]
    rw [e2, Nat.add_mul, Nat.mul_assoc]
    omega
  rw [e, Nat.add_mul_mod_self_left]
theorem mB {q Y X M : Nat} : (Y + M * (X % q)) % q = (Y + M * X) % q := by
  rw [Nat.mul_comm M, mA, Nat.mul_comm X]
theorem neg_q {q x : Nat} (hx : x < q) : (q - x) % q = (q - 1) * x % q := by
  rcases Nat.eq_zero_or_pos x with z | z
  · rw [z, Nat.sub_zero, Nat.mod_self, Nat.mul_zero, Nat.zero_mod]
  · have e : (q - 1) * x = (q - x) + q * (x - 1) := by
      obtain ⟨y, rfl⟩ : ∃ y, x = y + 1 := ⟨x - 1, by omega⟩
      obtain ⟨p, rfl⟩ : ∃ p, q = p + 1 := ⟨q - 1, by omega⟩
      rw [Nat.add_sub_cancel, Nat.add_sub_cancel, Nat.mul_add, Nat.mul_one, Nat.add_mul, Nat.one_mul]
      omega
    rw [e, Nat.add_mul_mod_self_left]
section CMB
theorem cmb_lin {q : Nat} (h2 : 2 ≤ q) {s t a b c d : Nat} : cmb q s 13 (cmb q t 13 a b) (cmb q t 13 c d) = cmb q t 13 (cmb q s 13 a c) (cmb q s 13 b d) := by
  refine dg_ext h2 (cmb_lt _ h2 13 _ _) (cmb_lt _ h2 13 _ _) (fun k hk => ?_)
  simp only [cmb_dg _ h2, if_pos hk]
  rw [Nat.mod_add_mod, mB, Nat.mod_add_mod, mB]
  congr 1
  rw [Nat.mul_add, Nat.mul_add]
  have e : s * (t * dg q d k) = t * (s * dg q d k) := by rw [← Nat.mul_assoc, Nat.mul_comm s t, Nat.mul_assoc]
  omega
theorem cmb_swap {q : Nat} (h2 : 2 ≤ q) {s t a b c : Nat} : cmb q s 13 (cmb q t 13 a b) c = cmb q t 13 (cmb q s 13 a c) b := by
  refine dg_ext h2 (cmb_lt _ h2 13 _ _) (cmb_lt _ h2 13 _ _) (fun k hk => ?_)
  simp only [cmb_dg _ h2, if_pos hk]
  rw [Nat.mod_add_mod, Nat.mod_add_mod]
  congr 1
  omega
theorem cmb_in {q : Nat} (h2 : 2 ≤ q) {s t a b c : Nat} : cmb q s 13 a (cmb q t 13 b c) = cmb q (s * t) 13 (cmb q s 13 a b) c := by
  refine dg_ext h2 (cmb_lt _ h2 13 _ _) (cmb_lt _ h2 13 _ _) (fun k hk => ?_)
  simp only [cmb_dg _ h2, if_pos hk]
  rw [mB, Nat.mod_add_mod]
  congr 1
  rw [Nat.mul_add, Nat.mul_assoc]
  omega
theorem cmb_one {q : Nat} (h2 : 2 ≤ q) {b : Nat} (hb : b < q ^ 13) : cmb q 1 13 0 b = b := by
  refine dg_ext h2 (cmb_lt _ h2 13 _ _) hb (fun k hk => ?_)
  rw [cmb_dg _ h2, if_pos hk, dg_zero, Nat.zero_add, Nat.one_mul, Nat.mod_eq_of_lt (dg_lt h2)]
end CMB
/-- x times s by m -/
def T1x (q m d s : Nat) : Nat := cmb q ((q - dg q (s * q) d) % q) 13 (s * q) m
def Tn (q m d : Nat) : Nat → Nat → Nat
  | 0, y => y
  | n + 1, y => T1x q m d (Tn q m d n y)
/-- the figures of x below n, as steps of x, done to y -/
def Px (q m d x : Nat) : Nat → Nat → Nat
  | 0, _ => 0
  | n + 1, y => cmb q (dg q x n) 13 (Px q m d x n y) (Tn q m d n y)
section RNG
theorem Wd.nq {q m d n : Nat} (w : Wd q m d n) : n = q ^ d := w.2.2.2.2.2.1
theorem T1x_lt {q m d n : Nat} (w : Wd q m d n) {s : Nat} (hs : s < n) : T1x q m d s < n := by
  have h2 := w.q2
  have h7 := w.d7
  obtain ⟨hq, hm, hl, hd, hd1, hnq, hn128⟩ := id w
  rw [hnq] at hs ⊢
  have hm2 := ln_lt hm
  rw [hl] at hm2
  exact (pb_step (b := 0) (f := 0) h2 hm2 hd (by omega) hs (Nat.pow_pos (by omega))).1
theorem T1x_dg {q m d n : Nat} (w : Wd q m d n) {s k : Nat} (hs : s < n) (hk : k < 13) : dg q (T1x q m d s) k = (dg q (s * q) k + (q - 1) * dg q (s * q) d * dg q m k) % q := by
  have h2 := w.q2
  unfold T1x
  rw [cmb_dg _ h2, if_pos hk, neg_q (dg_lt h2), mA]
theorem dgq {q : Nat} {s k : Nat} (h2 : 2 ≤ q) : dg q (s * q) k = if 1 ≤ k then dg q s (k - 1) else 0 := by
  have := dg_mulpow (q := q) (x := s) (n := 1) (k := k) h2
  rw [Nat.pow_one] at this
  exact this
theorem dgq_cmb {q : Nat} {s a b k : Nat} (h2 : 2 ≤ q) (hk : k ≤ 13) : dg q (cmb q s 13 a b * q) k = (dg q (a * q) k + s * dg q (b * q) k) % q := by
  rw [dgq h2, dgq h2, dgq h2]
  by_cases h : 1 ≤ k
  · rw [if_pos h, if_pos h, if_pos h, cmb_dg _ h2, if_pos (by omega)]
  · rw [if_neg h, if_neg h, if_neg h]
    simp
theorem T1x_lin {q m d n : Nat} (w : Wd q m d n) {s a b : Nat} (ha : a < n) (hb : b < n) : T1x q m d (cmb q s 13 a b) = cmb q s 13 (T1x q m d a) (T1x q m d b) := by
  have h2 := w.q2
  have h7 := w.d7
  refine dg_ext h2 (w.lt13 (T1x_lt w (cmb_ltn w ha hb))) (cmb_lt _ h2 13 _ _) (fun k hk => ?_)
  rw [T1x_dg w (cmb_ltn w ha hb) hk, cmb_dg _ h2, if_pos hk, T1x_dg w ha hk, T1x_dg w hb hk, dgq_cmb h2 (by omega), dgq_cmb h2 (by omega)]
  have e1 : (q - 1) * ((dg q (a * q) d + s * dg q (b * q) d) % q) * dg q m k = ((dg q (a * q) d + s * dg q (b * q) d) % q) * ((q - 1) * dg q m k) := by
    rw [Nat.mul_comm (q - 1), Nat.mul_assoc]
  rw [e1, mA, Nat.mod_add_mod, Nat.mod_add_mod, mB]
  congr 1
  rw [Nat.add_mul, Nat.mul_add]
  have e2 : dg q (a * q) d * ((q - 1) * dg q m k) = (q - 1) * dg q (a * q) d * dg q m k := by rw [← Nat.mul_assoc, Nat.mul_comm (dg q (a * q) d)]
  have e3 : s * dg q (b * q) d * ((q - 1) * dg q m k) = s * ((q - 1) * dg q (b * q) d * dg q m k) := by
    rw [Nat.mul_assoc]
    congr 1
    rw [← Nat.mul_assoc, Nat.mul_comm (dg q (b * q) d)]
  omega
theorem T1x_0 {q m d n : Nat} (w : Wd q m d n) : T1x q m d 0 = 0 := by
  have h2 := w.q2
  have h := T1x_lin w (s := q - 1) (a := 0) (b := 0) (by have := w.n2; omega) (by have := w.n2; omega)
  unfold T1x
  rw [Nat.zero_mul, dg_zero, Nat.sub_zero, Nat.mod_self, cmb_a h2 m (Nat.pow_pos (by omega))]
theorem Tn_lt {q m d n : Nat} (w : Wd q m d n) {y : Nat} (hy : y < n) : ∀ k, Tn q m d k y < n
  | 0 => hy
  | k + 1 => T1x_lt w (Tn_lt w hy k)
theorem Tn_lin {q m d n : Nat} (w : Wd q m d n) {s a b : Nat} (ha : a < n) (hb : b < n) : ∀ k, Tn q m d k (cmb q s 13 a b) = cmb q s 13 (Tn q m d k a) (Tn q m d k b)
  | 0 => rfl
  | k + 1 => by
    show T1x q m d (Tn q m d k (cmb q s 13 a b)) = _
    rw [Tn_lin w ha hb k, T1x_lin w (Tn_lt w ha k) (Tn_lt w hb k)]
    rfl
theorem Tn_comm {q m d : Nat} {y : Nat} : ∀ k, Tn q m d k (T1x q m d y) = T1x q m d (Tn q m d k y)
  | 0 => rfl
  | k + 1 => by
    show T1x q m d (Tn q m d k (T1x q m d y)) = _
    rw [Tn_comm k]
    rfl
theorem Px_lt {q m d n : Nat} (w : Wd q m d n) {x y : Nat} (hy : y < n) : ∀ k, Px q m d x k y < n
  | 0 => by have := w.n2; show 0 < n; omega
  | k + 1 => cmb_ltn w (Px_lt w hy k) (Tn_lt w hy k)
theorem Px_lin {q m d n : Nat} (w : Wd q m d n) {x s a b : Nat} (ha : a < n) (hb : b < n) : ∀ k, Px q m d x k (cmb q s 13 a b) = cmb q s 13 (Px q m d x k a) (Px q m d x k b)
  | 0 => by
    have h2 := w.q2
    show 0 = cmb q s 13 0 0
    rw [cmb_zero _ h2]
  | k + 1 => by
    have h2 := w.q2
    show cmb q (dg q x k) 13 (Px q m d x k (cmb q s 13 a b)) (Tn q m d k (cmb q s 13 a b)) = cmb q s 13 (cmb q (dg q x k) 13 _ _) (cmb q (dg q x k) 13 _ _)
    rw [Px_lin w ha hb k, Tn_lin w ha hb k, cmb_lin h2]
theorem Px_T {q m d n : Nat} (w : Wd q m d n) {x y : Nat} (hy : y < n) : ∀ k, Px q m d x k (T1x q m d y) = T1x q m d (Px q m d x k y)
  | 0 => (T1x_0 w).symm
  | k + 1 => by
    show cmb q (dg q x k) 13 (Px q m d x k (T1x q m d y)) (Tn q m d k (T1x q m d y)) = T1x q m d (cmb q (dg q x k) 13 _ _)
    rw [Px_T w hy k, Tn_comm k, T1x_lin w (Px_lt w hy k) (Tn_lt w hy k)]
theorem Px_Tn {q m d n : Nat} (w : Wd q m d n) {x y k : Nat} (hy : y < n) : ∀ j, Px q m d x k (Tn q m d j y) = Tn q m d j (Px q m d x k y)
  | 0 => rfl
  | j + 1 => by
    show Px q m d x k (T1x q m d (Tn q m d j y)) = T1x q m d (Tn q m d j (Px q m d x k y))
    rw [Px_T w (Tn_lt w hy j) k, Px_Tn w hy j]
theorem Px_Px {q m d n : Nat} (w : Wd q m d n) {x y z k : Nat} (hz : z < n) : ∀ j, Px q m d x k (Px q m d y j z) = Px q m d y j (Px q m d x k z)
  | 0 => by
    have h2 := w.q2
    show Px q m d x k 0 = 0
    have h := Px_lin w (x := x) (s := 0) (a := 0) (b := 0) (by have := w.n2; omega) (by have := w.n2; omega) k
    have : ∀ k, Px q m d x k 0 = 0 := by
      intro k
      induction k with
      | zero => rfl
      | succ k ih =>
        show cmb q (dg q x k) 13 (Px q m d x k 0) (Tn q m d k 0) = 0
        have ht : Tn q m d k 0 = 0 := by
          have : ∀ k, Tn q m d k 0 = 0 := by
            intro k
            induction k with
            | zero => rfl
            | succ k ih =>
              show T1x q m d (Tn q m d k 0) = 0
              rw [ih, T1x_0 w]
          exact this k
        have hx0 : Px q m d x k 0 = 0 := by
          clear h
          clear ih
          have : ∀ j, Px q m d x j 0 = 0 := by
            intro j
            induction j with
            | zero => rfl
            | succ j ihj =>
              show cmb q (dg q x j) 13 (Px q m d x j 0) (Tn q m d j 0) = 0
              have htj : Tn q m d j 0 = 0 := by
                have : ∀ k, Tn q m d k 0 = 0 := by
                  intro k
                  induction k with
                  | zero => rfl
                  | succ k ih =>
                    show T1x q m d (Tn q m d k 0) = 0
                    rw [ih, T1x_0 w]
                exact this j
              rw [ihj, htj, cmb_zero _ h2]
          exact this k
        rw [hx0, ht, cmb_zero _ h2]
    exact this k
  | j + 1 => by
    show Px q m d x k (cmb q (dg q y j) 13 (Px q m d y j z) (Tn q m d j z)) = cmb q (dg q y j) 13 (Px q m d y j (Px q m d x k z)) (Tn q m d j (Px q m d x k z))
    rw [Px_lin w (Px_lt w hz j) (Tn_lt w hz j) k, Px_Px w hz j, Px_Tn w hz j]
/-- Horner's way is the same -/
theorem pbl_Px {q m d n : Nat} (w : Wd q m d n) {x y : Nat} (hy : y < n) : ∀ k s, s < n → pbl q x y m d k s = cmb q 1 13 (Tn q m d k s) (Px q m d x k y)
  | 0, s, hs => by
    have h2 := w.q2
    show s = cmb q 1 13 s 0
    rw [cmb_0r h2 (w.lt13 hs)]
  | k + 1, s, hs => by
    have h2 := w.q2
    have hTs := T1x_lt w hs
    show pbl q x y m d k (cmb q (dg q x k) 13 (T1x q m d s) y) = _
    rw [pbl_Px w hy k _ (cmb_ltn w hTs hy), Tn_lin w hTs hy k, Tn_comm k]
    show cmb q 1 13 (cmb q (dg q x k) 13 (Tn q m d (k + 1) s) (Tn q m d k y)) (Px q m d x k y) = cmb q 1 13 (Tn q m d (k + 1) s) (cmb q (dg q x k) 13 (Px q m d x k y) (Tn q m d k y))
    rw [cmb_swap h2, cmb_in h2, Nat.one_mul]
theorem Px_more {q m d n : Nat} (w : Wd q m d n) {x y : Nat} (hx : x < q ^ d) (hy : y < n) : ∀ k, d ≤ k → Px q m d x k y = Px q m d x d y := by
  intro k hk
  have h2 := w.q2
  induction k with
  | zero =>
    have : d = 0 := by omega
    rw [this]
  | succ k ih =>
    by_cases c : d = k + 1
    · rw [c]
    · show cmb q (dg q x k) 13 (Px q m d x k y) (Tn q m d k y) = _
      rw [dg_big hx (by omega) h2, cmb_a h2 _ (w.lt13 (Px_lt w hy k)), ih (by omega)]
theorem Px_less {q m d n : Nat} (w : Wd q m d n) {x y j : Nat} (hx : x < q ^ j) (hy : y < n) : ∀ k, j ≤ k → Px q m d x k y = Px q m d x j y := by
  intro k hk
  have h2 := w.q2
  induction k with
  | zero =>
    have : j = 0 := by omega
    rw [this]
  | succ k ih =>
    by_cases c : j = k + 1
    · rw [c]
    · show cmb q (dg q x k) 13 (Px q m d x k y) (Tn q m d k y) = _
      rw [dg_big hx (by omega) h2, cmb_a h2 _ (w.lt13 (Px_lt w hy k)), ih (by omega)]
theorem mu_Px {q m d n : Nat} (w : Wd q m d n) {x y : Nat} (hx : x < n) (hy : y < n) : mu q m x y = Px q m d x d y := by
  have h2 := w.q2
  have hn2 := w.n2
  obtain ⟨hq, hm, hl, hd, hd1, hnq, hn128⟩ := id w
  have hxd : x < q ^ d := by rw [← hnq]; exact hx
  unfold mu pby
  rw [hl, Nat.add_sub_cancel, pbl_Px w hy _ 0 (by omega)]
  have ht : ∀ k, Tn q m d k 0 = 0 := by
    intro k
    induction k with
    | zero => rfl
    | succ k ih =>
      show T1x q m d (Tn q m d k 0) = 0
      rw [ih, T1x_0 w]
  rw [ht, cmb_one h2 (w.lt13 (Px_lt w hy _))]
  have hl2 : ln q 13 x ≤ d := ln_le_lt h2 hxd
  have hx13 : x < q ^ ln q 13 x := ln_lt (w.lt13 hx)
  exact (Px_less w hx13 hy d hl2).symm
theorem Tn_one {q m d n : Nat} (w : Wd q m d n) : ∀ k, k < d → Tn q m d k 1 = q ^ k
  | 0, _ => by rw [Nat.pow_zero]; rfl
  | k + 1, hk => by
    have h2 := w.q2
    show T1x q m d (Tn q m d k 1) = _
    rw [Tn_one w k (by omega)]
    unfold T1x
    rw [← Nat.pow_succ]
    have e0 : dg q (q ^ (k + 1)) d = 0 := dg_big (Nat.pow_lt_pow_right (by omega) (by omega)) (Nat.le_refl d) h2
    have h7 := w.d7
    rw [e0, Nat.sub_zero, Nat.mod_self, cmb_a h2 _ (Nat.pow_lt_pow_right (by omega) (by omega))]
theorem Px_one {q m d n : Nat} (w : Wd q m d n) {y : Nat} (hy : y < n) : Px q m d y d 1 = y := by
  have h2 := w.q2
  have h7 := w.d7
  have hn2 := w.n2
  have h : ∀ k, k ≤ d → ∀ j, j < 13 → dg q (Px q m d y k 1) j = if j < k then dg q y j else 0 := by
    intro k
    induction k with
    | zero =>
      intro _ j _
      show dg q 0 j = _
      rw [dg_zero, if_neg (by omega)]
    | succ k ih =>
      intro hk j hj
      show dg q (cmb q (dg q y k) 13 (Px q m d y k 1) (Tn q m d k 1)) j = _
      rw [cmb_dg _ h2, if_pos hj, ih (by omega) j hj, Tn_one w k (by omega)]
      have e := dg_mulpow (q := q) (x := 1) (n := k) (k := j) h2
      rw [Nat.one_mul] at e
      rw [e]
      rcases Nat.lt_trichotomy j k with z | z | z
      · rw [if_pos z, if_neg (by omega), if_pos (by omega), Nat.mul_zero, Nat.add_zero, Nat.mod_eq_of_lt (dg_lt h2)]
      · subst z
        rw [if_neg (by omega), if_pos (Nat.le_refl j), if_pos (by omega), Nat.sub_self, dg_0, Nat.mod_eq_of_lt (show 1 < q by omega), Nat.mul_one, Nat.zero_add, Nat.mod_eq_of_lt (dg_lt h2)]
      · obtain ⟨i, hi⟩ : ∃ i, j - k = i + 1 := ⟨j - k - 1, by omega⟩
        have e4 : (1 : Nat) / q = 0 := Nat.div_eq_of_lt (by omega)
        rw [if_neg (by omega), if_pos (by omega), if_neg (by omega), hi, dg_succ, e4, dg_zero, Nat.mul_zero, Nat.zero_add, Nat.zero_mod]
  refine dg_ext h2 (w.lt13 (Px_lt w (by omega) d)) (w.lt13 hy) (fun j hj => ?_)
  rw [h d (Nat.le_refl d) j hj]
  by_cases c : j < d
  · rw [if_pos c]
  · rw [if_neg c, dg_big (by rw [← w.nq]; exact hy) (by omega) h2]
theorem mu_comm {q m d n : Nat} (w : Wd q m d n) {x y : Nat} (hx : x < n) (hy : y < n) : mu q m x y = mu q m y x := by
  have h1 : 1 < n := by have := w.n2; omega
  rw [mu_Px w hx hy, mu_Px w hy hx]
  conv => lhs; rw [← Px_one w hy]
  conv => rhs; rw [← Px_one w hx]
  exact Px_Px w h1 d
theorem mu_assoc {q m d n : Nat} (w : Wd q m d n) {x y z : Nat} (hx : x < n) (hy : y < n) (hz : z < n) : mu q m (mu q m x y) z = mu q m x (mu q m y z) := by
  have e1 : mu q m (mu q m x y) z = mu q m z (mu q m x y) := mu_comm w (mu_lt w hy) hz
  rw [e1, mu_comm w hy hz, mu_Px w hz (mu_lt w hy), mu_Px w hx (mu_lt w hy), mu_Px w hx hy, mu_Px w hz hy]
  exact Px_Px w hy d
theorem mu_1r {q m d n : Nat} (w : Wd q m d n) {x : Nat} (hx : x < n) : mu q m x 1 = x := by
  have h1 : 1 < n := by have := w.n2; omega
  rw [mu_Px w hx h1, Px_one w hx]
theorem mu_1l {q m d n : Nat} (w : Wd q m d n) {x : Nat} (hx : x < n) : mu q m 1 x = x := by
  have h1 : 1 < n := by have := w.n2; omega
  rw [mu_comm w h1 hx, mu_1r w hx]
theorem mu_lin {q m d n : Nat} (w : Wd q m d n) {s x a b : Nat} (hx : x < n) (ha : a < n) (hb : b < n) : mu q m x (cmb q s 13 a b) = cmb q s 13 (mu q m x a) (mu q m x b) := by
  rw [mu_Px w hx (cmb_ltn w ha hb), mu_Px w hx ha, mu_Px w hx hb, Px_lin w ha hb]
end RNG
