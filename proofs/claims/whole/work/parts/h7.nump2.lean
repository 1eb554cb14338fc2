/-! numbers as polynomials: products and powers by m; the q-th power -/
theorem mnm_mn {R : Type} [Lean.Grind.CommRing R] (a b : R) (i j : Nat) : letI := plR R; mnm a i * mnm b j = mnm (a * b) (i + j) := pl_ext (fun k => by
  rw [mnm_mul]
  show (if i ≤ k then a * (if k - i = j then b else 0) else 0) = if k = i + j then a * b else 0
  by_cases c : i ≤ k
  · rw [if_pos c]
    by_cases c1 : k - i = j
    · rw [if_pos c1, if_pos (by omega)]
    · rw [if_neg c1, if_neg (by omega)]
      grind
  · rw [if_neg c, if_neg (by omega)])
theorem mnm_mn1 {R : Type} [Lean.Grind.CommRing R] (i : Nat) : letI := plR R; mnm (1 : R) i * mnm 1 1 = mnm 1 (i + 1) := by
  rw [mnm_mn]
  have e : (1 : R) * 1 = 1 := by grind
  rw [e]
section NP2
variable {q m d n : Nat}
theorem pn_modu (w : Wd q m d n) (a : Nat) {k : Nat} (hk : k < 13) : letI := kR (wd_q w); letI := plR (KT q); Pn w (a % q ^ (k + 1)) = Pn w (a % q ^ k) + mnm (kt (Nat.mod_lt (dg q a k) w.q0)) 0 * mnm 1 k := by
  letI := kR (wd_q w)
  letI := plR (KT q)
  have h2 := w.q2
  refine pl_ext (fun i => ?_)
  rw [pl_add, mnm_mul, if_pos (Nat.zero_le _), Nat.sub_zero]
  by_cases c : i < 13
  · by_cases c1 : i = k
    · have e1 : (Pn w (a % q ^ k)).1 i = 0 := Subtype.ext (by
        rw [pn_at w _ c, dg_low h2, if_neg (by omega)]
        rfl)
      have e2 : (Pn w (a % q ^ (k + 1))).1 i = kt (Nat.mod_lt (dg q a k) w.q0) := Subtype.ext (by
        rw [pn_at w _ c, dg_low h2, if_pos (by omega), c1]
        exact (Nat.mod_eq_of_lt (dg_lt h2)).symm)
      have e3 : (mnm (1 : KT q) k).1 i = 1 := if_pos c1
      rw [e1, e2, e3]
      grind
    · have e2 : (Pn w (a % q ^ (k + 1))).1 i = (Pn w (a % q ^ k)).1 i := Subtype.ext (by
        rw [pn_at w _ c, pn_at w _ c, dg_low h2, dg_low h2]
        by_cases c2 : i < k
        · rw [if_pos c2, if_pos (by omega)]
        · rw [if_neg c2, if_neg (by omega)])
      have e3 : (mnm (1 : KT q) k).1 i = 0 := if_neg c1
      rw [e2, e3]
      grind
  · have e3 : (mnm (1 : KT q) k).1 i = 0 := if_neg (by omega)
    rw [pn_hi w _ (by omega), pn_hi w _ (by omega), e3]
    grind
theorem pbl_dv (w : Wd q m d n) {a b m0 top : Nat} (hm : m0 < q ^ (top + 1)) (hm1 : dg q m0 top = 1) (h12 : top ≤ 12) (hb : b < q ^ top) (k : Nat) : ∀ s, k ≤ 13 → s < q ^ top → letI := kR (wd_q w); letI := plR (KT q); Dv (Pn w m0) (mnm 1 k * Pn w s + Pn w (a % q ^ k) * Pn w b - Pn w (pbl q a b m0 top k s)) := by
  letI := kR (wd_q w)
  letI := plR (KT q)
  have h2 := w.q2
  induction k with
  | zero =>
    intro s _ _
    rw [Nat.pow_zero, Nat.mod_one, pn_0 w, mnm_one]
    have e : Pn w s + 0 * Pn w b - Pn w (pbl q a b m0 top 0 s) = 0 := by
      have e1 : pbl q a b m0 top 0 s = s := rfl
      rw [e1]
      grind
    rw [e]
    exact Dv.zero _
  | succ k ih =>
    intro s hk hs1
    have e1 : pbl q a b m0 top (k + 1) s = pbl q a b m0 top k (cmb q (dg q a k) 13 (cmb q ((q - dg q (s * q) top) % q) 13 (s * q) m0) b) := rfl
    have h3 := ih _ (by omega) (pb_step (f := dg q a k) h2 hm hm1 h12 hs1 hb).2
    rw [e1]
    generalize pbl q a b m0 top k (cmb q (dg q a k) 13 (cmb q ((q - dg q (s * q) top) % q) 13 (s * q) m0) b) = R at *
    rw [pn_cmbs w, pn_cmbs w, pn_shift w (Nat.lt_of_lt_of_le hs1 (Nat.pow_le_pow_right (by omega) h12))] at h3
    rw [pn_modu w a (by omega), ← mnm_mn1]
    generalize (mnm (kt (Nat.mod_lt (dg q a k) w.q0)) 0 : PL (KT q)) = D at *
    generalize (mnm (kt (Nat.mod_lt ((q - dg q (s * q) top) % q) w.q0)) 0 : PL (KT q)) = C at *
    generalize (mnm 1 k : PL (KT q)) = X at *
    generalize (mnm 1 1 : PL (KT q)) = Y at *
    have h5 := Dv.sub h3 (Dv.self_r (Pn w m0) (X * C))
    have e : X * (Y * Pn w s + C * Pn w m0 + D * Pn w b) + Pn w (a % q ^ k) * Pn w b - Pn w R - X * C * Pn w m0 = X * Y * Pn w s + (Pn w (a % q ^ k) + D * X) * Pn w b - Pn w R := by grind
    rw [e] at h5
    exact h5
theorem pby_dv (w : Wd q m d n) {a b m0 top : Nat} (hl : ln q 13 m0 = top + 1) (hm : m0 < q ^ 13) (hm1 : dg q m0 top = 1) (ha : a < q ^ 13) (hb : b < q ^ top) : letI := kR (wd_q w); letI := plR (KT q); Dv (Pn w m0) (Pn w a * Pn w b - Pn w (pby q a b m0)) := by
  letI := kR (wd_q w)
  letI := plR (KT q)
  have h2 := w.q2
  have hle := ln_le q 13 m0
  have h9 := ln_lt hm
  rw [hl] at h9
  have h := pbl_dv w (a := a) h9 hm1 (by omega) hb (ln q 13 a) 0 (ln_le q 13 a) (Nat.pow_pos (by omega))
  rw [Nat.mod_eq_of_lt (ln_lt ha), pn_0 w] at h
  have e1 : pbl q a b m0 top (ln q 13 a) 0 = pby q a b m0 := by
    unfold pby
    rw [hl, Nat.add_sub_cancel]
  rw [e1] at h
  have e : mnm 1 (ln q 13 a) * (0 : PL (KT q)) + Pn w a * Pn w b - Pn w (pby q a b m0) = Pn w a * Pn w b - Pn w (pby q a b m0) := by grind
  rw [e] at h
  exact h
theorem tbl_dv (w : Wd q m d n) {a m0 top : Nat} (hl : ln q 13 m0 = top + 1) (hm : m0 < q ^ 13) (hm1 : dg q m0 top = 1) (ha : a < q ^ top) (k : Nat) : ∀ p, p < q ^ top → letI := kR (wd_q w); letI := plR (KT q); Dv (Pn w m0) (Pn w p * Pn w a ^ k - Pn w (tbl q a m0 k p)) := by
  letI := kR (wd_q w)
  letI := plR (KT q)
  have h2 := w.q2
  have hle := ln_le q 13 m0
  induction k with
  | zero =>
    intro p _
    have e : Pn w p * Pn w a ^ 0 - Pn w (tbl q a m0 0 p) = 0 := by
      have e1 : tbl q a m0 0 p = p := rfl
      rw [e1]
      grind
    rw [e]
    exact Dv.zero _
  | succ k ih =>
    intro p hp
    have h3 := ih (pby q p a m0) (pby_lt h2 hl hm hm1 ha)
    have h5 := pby_dv w hl hm hm1 (Nat.lt_of_lt_of_le hp (Nat.pow_le_pow_right (by omega) (by omega))) ha
    have e1 : tbl q a m0 (k + 1) p = tbl q a m0 k (pby q p a m0) := rfl
    rw [e1]
    generalize tbl q a m0 k (pby q p a m0) = R at *
    have h6 := Dv.add h3 (Dv.mulr h5 (Pn w a ^ k))
    have e : Pn w (pby q p a m0) * Pn w a ^ k - Pn w R + (Pn w p * Pn w a - Pn w (pby q p a m0)) * Pn w a ^ k = Pn w p * Pn w a ^ (k + 1) - Pn w R := by grind
    rw [e] at h6
    exact h6
theorem tby_dv (w : Wd q m d n) {a m0 top : Nat} (hl : ln q 13 m0 = top + 1) (hm : m0 < q ^ 13) (hm1 : dg q m0 top = 1) (ha : a < q ^ top) : letI := kR (wd_q w); letI := plR (KT q); Dv (Pn w m0) (Pn w a ^ q - Pn w (tby q a m0)) := by
  letI := kR (wd_q w)
  letI := plR (KT q)
  have h2 := w.q2
  have h := tbl_dv w hl hm hm1 ha (q - 1) a ha
  have e : Pn w a * Pn w a ^ (q - 1) = Pn w a ^ q := by
    obtain ⟨r, rfl⟩ : ∃ r, q = r + 1 := ⟨q - 1, by omega⟩
    rw [Nat.add_sub_cancel]
    generalize Pn w a = A
    grind
  rw [e] at h
  exact h
end NP2
/-! of characteristic q -/
def Chq (S : Type) [Lean.Grind.CommRing S] (q : Nat) : Prop := (q = 2 ∨ q = 3 ∨ q = 5) ∧ (OfNat.ofNat q : S) = 0
def frq {S : Type} [Lean.Grind.CommRing S] (q : Nat) (x : S) : S := x ^ q
theorem frq_add {S : Type} [Lean.Grind.CommRing S] {q : Nat} (h : Chq S q) (x y : S) : frq q (x + y) = frq q x + frq q y := frob_add h.1 h.2 x y
theorem frq_mul {S : Type} [Lean.Grind.CommRing S] (q : Nat) (x y : S) : frq q (x * y) = frq q x * frq q y := Lean.Grind.CommSemiring.mul_pow x y q
theorem fri_add {S : Type} [Lean.Grind.CommRing S] {q : Nat} (h : Chq S q) (k : Nat) : ∀ x y : S, itg (frq q) k (x + y) = itg (frq q) k x + itg (frq q) k y := by
  induction k with
  | zero => exact fun _ _ => rfl
  | succ k ih =>
    intro x y
    show itg (frq q) k (frq q (x + y)) = itg (frq q) k (frq q x) + itg (frq q) k (frq q y)
    rw [frq_add h, ih]
theorem fri_mul {S : Type} [Lean.Grind.CommRing S] (q : Nat) (k : Nat) : ∀ x y : S, itg (frq q) k (x * y) = itg (frq q) k x * itg (frq q) k y := by
  induction k with
  | zero => exact fun _ _ => rfl
  | succ k ih =>
    intro x y
    show itg (frq q) k (frq q (x * y)) = itg (frq q) k (frq q x) * itg (frq q) k (frq q y)
    rw [frq_mul, ih]
theorem fri_0 {S : Type} [Lean.Grind.CommRing S] {q : Nat} (h : Chq S q) (k : Nat) : itg (frq q) k (0 : S) = 0 := by
  have h1 := fri_add h k 0 0
  have e : (0 : S) + 0 = 0 := by grind
  rw [e] at h1
  grind
theorem fri_neg {S : Type} [Lean.Grind.CommRing S] {q : Nat} (h : Chq S q) (k : Nat) (x : S) : itg (frq q) k (-x) = -(itg (frq q) k x) := by
  have h1 := fri_add h k (-x) x
  have e : -x + x = 0 := by grind
  rw [e, fri_0 h] at h1
  grind
theorem fri_sub {S : Type} [Lean.Grind.CommRing S] {q : Nat} (h : Chq S q) (k : Nat) (x y : S) : itg (frq q) k (x - y) = itg (frq q) k x - itg (frq q) k y := by
  have h1 := fri_add h k x (-y)
  have e : x + -y = x - y := by grind
  rw [e, fri_neg h] at h1
  grind
theorem pow_mulp {S : Type} [Lean.Grind.CommRing S] (x : S) (a : Nat) : ∀ b, (x ^ a) ^ b = x ^ (a * b) := fun b => by
  induction b with
  | zero =>
    rw [Nat.mul_zero]
    generalize x ^ a = A
    grind
  | succ b ih =>
    have e := Lean.Grind.Semiring.pow_add x (a * b) a
    rw [show a * (b + 1) = a * b + a by rw [Nat.mul_add, Nat.mul_one], e, ← ih]
    generalize x ^ a = A
    grind
theorem fri_pow {S : Type} [Lean.Grind.CommRing S] (q : Nat) (k : Nat) : ∀ x : S, itg (frq q) k x = x ^ (q ^ k) := by
  induction k with
  | zero =>
    intro x
    show x = x ^ (q ^ 0)
    rw [Nat.pow_zero]
    grind
  | succ k ih =>
    intro x
    show itg (frq q) k (x ^ q) = _
    rw [ih, pow_mulp, Nat.pow_succ, Nat.mul_comm]
theorem itg_add {M : Type} (T : M → M) (i : Nat) : ∀ j x, itg T (i + j) x = itg T i (itg T j x) := by
  intro j
  induction j with
  | zero => exact fun x => rfl
  | succ j ih => exact fun x => ih (T x)
theorem pl_nat {R : Type} [Lean.Grind.CommRing R] (k : Nat) : ∀ n, letI := plR R; (OfNat.ofNat n : PL R).1 k = if k = 0 then (OfNat.ofNat n : R) else 0 := by
  letI := plR R
  intro n
  induction n with
  | zero =>
    show (0 : R) = if k = 0 then (OfNat.ofNat 0 : R) else 0
    split
    · rfl
    · rfl
  | succ n ih =>
    have e1 : (OfNat.ofNat (n + 1) : PL R) = OfNat.ofNat n + 1 := Lean.Grind.Semiring.ofNat_succ n
    have e2 : (OfNat.ofNat (n + 1) : R) = OfNat.ofNat n + 1 := Lean.Grind.Semiring.ofNat_succ n
    rw [e1, e2, pl_add, ih, pl_one]
    by_cases c : k = 0
    · rw [if_pos c, if_pos c, if_pos c]
    · rw [if_neg c, if_neg c, if_neg c]
      grind
theorem pl_chq {R : Type} [Lean.Grind.CommRing R] {q : Nat} (h : Chq R q) : letI := plR R; Chq (PL R) q := by
  refine ⟨h.1, pl_ext (fun k => ?_)⟩
  rw [pl_nat k q, h.2]
  show (if k = 0 then (0 : R) else 0) = 0
  split <;> rfl
