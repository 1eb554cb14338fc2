/-! numbers: figures to the base q; ints that are numbers -/
def dg (q n k : Nat) : Nat := n / q ^ k % q
theorem dg_lt {q n k : Nat} (hq : 2 ≤ q) : dg q n k < q := Nat.mod_lt _ (by omega)
theorem dg_zero (q k : Nat) : dg q 0 k = 0 := by simp [dg]
theorem dg_0 (q n : Nat) : dg q n 0 = n % q := by simp [dg]
theorem dg_succ (q n k : Nat) : dg q n (k + 1) = dg q (n / q) k := by
  unfold dg
  rw [Nat.div_div_eq_div_mul, Nat.pow_succ, Nat.mul_comm]
theorem dg_big {q n k m : Nat} (h : n < q ^ m) (hk : m ≤ k) (hq : 2 ≤ q) : dg q n k = 0 := by
  unfold dg
  rw [Nat.div_eq_of_lt (Nat.lt_of_lt_of_le h (Nat.pow_le_pow_right (by omega) hk))]
  simp
theorem div_lt_pow {q n m : Nat} (h : n < q ^ (m + 1)) (hq : 2 ≤ q) : n / q < q ^ m := by
  rw [Nat.div_lt_iff_lt_mul (by omega)]
  rw [Nat.pow_succ] at h
  exact h
theorem dg_ext {q : Nat} (hq : 2 ≤ q) : ∀ {n a b : Nat}, a < q ^ n → b < q ^ n → (∀ k, k < n → dg q a k = dg q b k) → a = b
  | 0, a, b, ha, hb, _ => by simp at ha hb; omega
  | n + 1, a, b, ha, hb, h => by
    have h0 := h 0 (by omega)
    rw [dg_0, dg_0] at h0
    have ih := dg_ext hq (div_lt_pow ha hq) (div_lt_pow hb hq) (fun k hk => by rw [← dg_succ, ← dg_succ]; exact h (k + 1) (by omega))
    have e1 := Nat.div_add_mod a q
    have e2 := Nat.div_add_mod b q
    rw [ih] at e1
    omega
/-- a and s times b together, n figures -/
def cmb (q s : Nat) : Nat → Nat → Nat → Nat
  | 0, _, _ => 0
  | n + 1, a, b => (a % q + s * (b % q)) % q + q * cmb q s n (a / q) (b / q)
theorem cmb_lt {q : Nat} (s : Nat) (hq : 2 ≤ q) : ∀ (n a b : Nat), cmb q s n a b < q ^ n
  | 0, a, b => by simp [cmb]
  | n + 1, a, b => by
    have ih := cmb_lt s hq n (a / q) (b / q)
    have h1 : (a % q + s * (b % q)) % q < q := Nat.mod_lt _ (by omega)
    unfold cmb
    have h2 : q * (cmb q s n (a / q) (b / q) + 1) ≤ q * q ^ n := Nat.mul_le_mul_left q ih
    rw [Nat.pow_succ, Nat.mul_comm (q ^ n)]
    rw [Nat.mul_add] at h2
    omega
theorem cmb_dg {q : Nat} (s : Nat) (hq : 2 ≤ q) : ∀ (n a b k : Nat), dg q (cmb q s n a b) k = if k < n then (dg q a k + s * dg q b k) % q else 0
  | 0, a, b, k => by simp [cmb, dg]
  | n + 1, a, b, 0 => by
    rw [dg_0, dg_0, dg_0]
    unfold cmb
    rw [Nat.add_mul_mod_self_left, Nat.mod_mod, if_pos (by omega)]
  | n + 1, a, b, k + 1 => by
    rw [dg_succ, dg_succ, dg_succ]
    unfold cmb
    have h1 : (a % q + s * (b % q)) % q < q := Nat.mod_lt _ (by omega)
    rw [Nat.add_mul_div_left _ _ (by omega), Nat.div_eq_of_lt h1, Nat.zero_add, cmb_dg s hq n]
    by_cases h : k < n
    · rw [if_pos h, if_pos (by omega)]
    · rw [if_neg h, if_neg (by omega)]
theorem cmb_zero {q : Nat} (s : Nat) (hq : 2 ≤ q) (n : Nat) : cmb q s n 0 0 = 0 := by
  refine dg_ext hq (cmb_lt s hq n 0 0) (Nat.pow_pos (by omega)) (fun k hk => ?_)
  rw [cmb_dg s hq, if_pos hk]
  simp [dg_zero]
theorem cmb_a {q : Nat} (hq : 2 ≤ q) {n a : Nat} (b : Nat) (ha : a < q ^ n) : cmb q 0 n a b = a := by
  refine dg_ext hq (cmb_lt 0 hq n a b) ha (fun k hk => ?_)
  rw [cmb_dg 0 hq, if_pos hk, Nat.zero_mul, Nat.add_zero, Nat.mod_eq_of_lt (dg_lt hq)]
theorem dg_two (n k : Nat) : dg 2 n k = (n.testBit k).toNat := by
  rw [Nat.toNat_testBit]
  rfl
theorem cmb_xor {n a b : Nat} (ha : a < 2 ^ n) (hb : b < 2 ^ n) : cmb 2 1 n a b = a ^^^ b := by
  refine dg_ext (Nat.le_refl 2) (cmb_lt 1 (Nat.le_refl 2) n a b) (Nat.xor_lt_two_pow ha hb) (fun k hk => ?_)
  rw [cmb_dg 1 (Nat.le_refl 2), if_pos hk, dg_two, dg_two, dg_two, Nat.testBit_xor]
  cases a.testBit k <;> cases b.testBit k <;> rfl
/-- how many figures -/
def ln (q : Nat) : Nat → Nat → Nat
  | 0, _ => 0
  | m + 1, a => if a < q ^ m then ln q m a else m + 1
theorem ln_le (q : Nat) : ∀ (m a : Nat), ln q m a ≤ m
  | 0, _ => Nat.le_refl 0
  | m + 1, a => by
    unfold ln
    split
    · exact Nat.le_succ_of_le (ln_le q m a)
    · exact Nat.le_refl _
theorem ln_lt {q : Nat} : ∀ {m a : Nat}, a < q ^ m → a < q ^ ln q m a
  | 0, a, h => h
  | m + 1, a, h => by
    unfold ln
    split
    next h1 => exact ln_lt h1
    next => exact h
theorem ln_ge {q : Nat} : ∀ {m a k : Nat}, ln q m a = k + 1 → q ^ k ≤ a
  | 0, a, k, h => by simp [ln] at h
  | m + 1, a, k, h => by
    unfold ln at h
    split at h
    next h1 => exact ln_ge h
    next h1 =>
      have : m = k := by omega
      rw [← this]
      omega
theorem ln_eq {q : Nat} (hq : 2 ≤ q) {m a k : Nat} (h1 : q ^ k ≤ a) (h2 : a < q ^ (k + 1)) (hm : a < q ^ m) : ln q m a = k + 1 := by
  have h3 := ln_lt hm
  rcases Nat.lt_trichotomy (ln q m a) (k + 1) with h | h | h
  · have : q ^ ln q m a ≤ q ^ k := Nat.pow_le_pow_right (by omega) (by omega)
    omega
  · exact h
  · cases hl : ln q m a with
    | zero => omega
    | succ j =>
      have h4 := ln_ge hl
      have : q ^ (k + 1) ≤ q ^ j := Nat.pow_le_pow_right (by omega) (by omega)
      omega
theorem ln_zero {q : Nat} (hq : 2 ≤ q) (m : Nat) : ln q m 0 = 0 := by
  cases h : ln q m 0 with
  | zero => rfl
  | succ k =>
    have h1 := ln_ge h
    have : 0 < q ^ k := Nat.pow_pos (by omega)
    omega
theorem ln_pos {q m a : Nat} (h : a < q ^ m) (h0 : 0 < a) : 0 < ln q m a := by
  rcases Nat.eq_zero_or_pos (ln q m a) with q1 | q1
  · have := ln_lt h
    rw [q1] at this
    simp at this
    omega
  · exact q1
theorem dg_ln {q : Nat} (hq : 2 ≤ q) {m a k : Nat} (h : a < q ^ m) (hk : ln q m a = k + 1) : 0 < dg q a k ∧ a / q ^ k < q := by
  have h1 := ln_ge hk
  have h2 := ln_lt h
  rw [hk, Nat.pow_succ] at h2
  have h3 : a / q ^ k < q := by rw [Nat.div_lt_iff_lt_mul (Nat.pow_pos (by omega)), Nat.mul_comm]; exact h2
  have h4 : 0 < a / q ^ k := Nat.div_pos h1 (Nat.pow_pos (by omega))
  exact ⟨by unfold dg; rw [Nat.mod_eq_of_lt h3]; exact h4, h3⟩
theorem dg_ge_ln {q : Nat} (hq : 2 ≤ q) {m a k : Nat} (h : a < q ^ m) (hk : ln q m a ≤ k) : dg q a k = 0 := dg_big (ln_lt h) hk hq
/-- n - 1 as an int, also for 0 -/
def pd (n : Nat) : Int32 := nI n + (-(nI 1))
theorem pd_succ (n : Nat) : pd (n + 1) = nI n := by
  unfold pd
  rw [← nI_1, Int32.add_neg_eq_sub]
  exact Int32.add_sub_cancel _ _
theorem pd_toInt {n : Nat} (h : n < 2 ^ 31) : (pd n).toInt = (n : Int) - 1 := by
  cases n with
  | zero => decide
  | succ n => rw [pd_succ, nI_toInt (by omega)]; omega
theorem pd_zero : pd 0 = -(nI 1) := by decide
-- rows for simp
theorem s_le {a b : Nat} (ha : a < 2 ^ 31) (hb : b < 2 ^ 31) : (nI a ≤ nI b) = (a ≤ b) := propext (nI_leI ha hb)
theorem s_lt {a b : Nat} (ha : a < 2 ^ 31) (hb : b < 2 ^ 31) : (nI a < nI b) = (a < b) := propext (nI_ltI ha hb)
theorem s_eq {a b : Nat} (ha : a < 2 ^ 31) (hb : b < 2 ^ 31) : (nI a = nI b) = (a = b) := propext (nI_eq ha hb)
theorem s_eq0 {a : Nat} (ha : a < 2 ^ 31) : (nI a = 0) = (a = 0) := by rw [← nI_0]; exact s_eq ha (by decide)
theorem s_in {n N : Nat} (hn : n < 2 ^ 31) : vp_in (nI n) N = (n < N) := propext ⟨fun h => by
  have := vp_in_iff.mp h
  rw [nI_toInt hn] at this
  omega, fun h => vp_in_iff.mpr (by rw [nI_toInt hn]; omega)⟩
theorem s_ix {n : Nat} (h : n < 2 ^ 31) : ix (nI n) = n := nI_clamp h
theorem s_div {a d : Nat} (ha : a < 2 ^ 31) (h0 : 0 < d) (hd : d < 2 ^ 31) : nI a / nI d = nI (a / d) := pk_div ha h0 hd
theorem s_rm {a d : Nat} (ha : a < 2 ^ 31) (h0 : 0 < d) (hd : d < 2 ^ 31) : rm (nI a) (nI d) = nI (a % d) := pk_rem ha h0 hd
theorem s_sub {a b : Nat} (h : b ≤ a) : nI a - nI b = nI (a - b) := pk_sub h
theorem s_pdlt {n b : Nat} (hn : n < 2 ^ 31) (hb : b < 2 ^ 31) : (pd n < nI b) = (n < b + 1) := by
  rw [Int32.lt_iff_toInt_lt, pd_toInt hn, nI_toInt hb]
  exact propext ⟨fun h => by omega, fun h => by omega⟩
theorem s_pdpd {n b : Nat} (hn : n < 2 ^ 31) (hb : b < 2 ^ 31) : (pd n < pd b) = (n < b) := by
  rw [Int32.lt_iff_toInt_lt, pd_toInt hn, pd_toInt hb]
  exact propext ⟨fun h => by omega, fun h => by omega⟩
theorem s_pdle {n b : Nat} (hn : n < 2 ^ 31) (hb : b < 2 ^ 31) : (nI b ≤ pd n) = (b + 1 ≤ n) := by
  rw [Int32.le_iff_toInt_le, pd_toInt hn, nI_toInt hb]
  exact propext ⟨fun h => by omega, fun h => by omega⟩
theorem s_lepd {n b : Nat} (hn : n < 2 ^ 31) (hb : b < 2 ^ 31) : (pd n ≤ nI b) = (n ≤ b + 1) := by
  rw [Int32.le_iff_toInt_le, pd_toInt hn, nI_toInt hb]
  exact propext ⟨fun h => by omega, fun h => by omega⟩
theorem s_pdlepd {n b : Nat} (hn : n < 2 ^ 31) (hb : b < 2 ^ 31) : (pd n ≤ pd b) = (n ≤ b) := by
  rw [Int32.le_iff_toInt_le, pd_toInt hn, pd_toInt hb]
  exact propext ⟨fun h => by omega, fun h => by omega⟩
theorem s_pdadd {n : Nat} : pd n + nI 1 = nI n := by
  unfold pd
  rw [Int32.add_neg_eq_sub]
  exact Int32.sub_add_cancel _ _
theorem s_pdpdsub {a b : Nat} (h : b ≤ a) : pd a - pd b = nI (a - b) := by
  have : pd a = nI (a - b) + pd b := by
    unfold pd
    rw [← Int32.add_assoc, nI_add, Nat.sub_add_cancel h]
  rw [this, Int32.add_sub_cancel]
theorem pow_q {q : Nat} (h : q = 2 ∨ q = 3 ∨ q = 5) {k : Nat} (hk : k ≤ 13) : q ^ k ≤ 1220703125 := by
  have h1 : q ^ k ≤ q ^ 13 := Nat.pow_le_pow_right (by omega) hk
  have h2 : q ^ 13 ≤ 1220703125 := by rcases h with rfl | rfl | rfl <;> decide
  omega
theorem fb_xorI (a b : Nat) : nI a ^^^ nI b = nI (a ^^^ b) := by
  apply Int32.toBitVec_inj.1
  show BitVec.ofNat 32 a ^^^ BitVec.ofNat 32 b = BitVec.ofNat 32 (a ^^^ b)
  apply BitVec.eq_of_getLsbD_eq
  intro i hi
  simp [hi]
theorem fb_bmod {z : Int} (h1 : -2147483648 ≤ z) (h2 : z < 2147483648) : z.bmod (2 ^ 32) = z := by
  rw [Int.bmod_eq_of_le (by omega) (by omega)]
theorem fb_addI {x y : Int32} (h1 : -2147483648 ≤ x.toInt + y.toInt) (h2 : x.toInt + y.toInt < 2147483648) : (x + y).toInt = x.toInt + y.toInt := by
  rw [Int32.toInt_add, fb_bmod h1 h2]
theorem fb_ofI {z : Int} (h1 : -2147483648 ≤ z) (h2 : z < 2147483648) : (Int32.ofInt z).toInt = z := by
  rw [Int32.toInt_ofInt, fb_bmod h1 h2]
