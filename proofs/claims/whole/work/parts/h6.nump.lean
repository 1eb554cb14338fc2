/-! numbers as polynomials: rests, quotients, products by m -/
section NPL
variable {q m d n : Nat}
theorem pn_cmbs (w : Wd q m d n) (s a b : Nat) : letI := kR (wd_q w); letI := plR (KT q); Pn w (cmb q s 13 a b) = Pn w a + mnm (kt (Nat.mod_lt s w.q0)) 0 * Pn w b := by
  have h := pn_cmb w (kt (Nat.mod_lt s w.q0)) a b
  have e : cmb q (kt (Nat.mod_lt s w.q0) : KT q).1 13 a b = cmb q s 13 a b := cmb_mod w.q2 _ _
  rw [e] at h
  exact h
theorem mnm_one {R : Type} [Lean.Grind.CommRing R] (f : PL R) : letI := plR R; mnm 1 0 * f = f := pl_ext (fun k => by
  rw [mnm_mul, if_pos (Nat.zero_le _), Nat.sub_zero]
  grind)
theorem pn_add (w : Wd q m d n) (a b : Nat) : letI := kR (wd_q w); letI := plR (KT q); Pn w (cmb q 1 13 a b) = Pn w a + Pn w b := by
  letI := kR (wd_q w)
  letI := plR (KT q)
  have h2 := w.q2
  have e : (kt (Nat.mod_lt 1 w.q0) : KT q) = 1 := Subtype.ext (Nat.mod_eq_of_lt (by omega))
  rw [pn_cmbs w, e, mnm_one]
theorem pn_sub (w : Wd q m d n) (a b : Nat) : letI := kR (wd_q w); letI := plR (KT q); Pn w (cmb q (q - 1) 13 a b) = Pn w a - Pn w b := by
  letI := kR (wd_q w)
  letI := plR (KT q)
  have h2 := w.q2
  have e : (kt (Nat.mod_lt (q - 1) w.q0) : KT q) = -1 := by
    have e1 : (kt (Nat.mod_lt (q - 1) w.q0) : KT q) + 1 = 0 := Subtype.ext (by
      show cmb q 1 13 ((q - 1) % q) 1 = 0
      rw [Nat.mod_eq_of_lt (by omega), cmb_fig h2 (by omega) (by omega), Nat.one_mul, Nat.sub_add_cancel (by omega), Nat.mod_self])
    grind
  rw [pn_cmbs w, e]
  refine pl_ext (fun k => ?_)
  rw [pl_add, pl_sub, mnm_mul, if_pos (Nat.zero_le _), Nat.sub_zero]
  grind
theorem pn_mulpow (w : Wd q m d n) {a M : Nat} (ha : a < q ^ M) : ∀ j, M + j ≤ 13 → letI := kR (wd_q w); letI := plR (KT q); Pn w (a * q ^ j) = mnm 1 j * Pn w a := by
  letI := kR (wd_q w)
  letI := plR (KT q)
  have h2 := w.q2
  intro j
  induction j with
  | zero =>
    intro _
    rw [Nat.pow_zero, Nat.mul_one, mnm_one]
  | succ j ih =>
    intro hj
    have h1 : a * q ^ j < q ^ (M + j) := by
      rw [Nat.pow_add]
      exact Nat.mul_lt_mul_of_pos_right ha (Nat.pow_pos (by omega))
    have h3 : a * q ^ j < q ^ 12 := Nat.lt_of_lt_of_le h1 (Nat.pow_le_pow_right (by omega) (by omega))
    rw [Nat.pow_succ, ← Nat.mul_assoc, pn_shift w h3, ih (by omega)]
    refine pl_ext (fun k => ?_)
    have eL := mnm_mul (1 : KT q) (mnm 1 j * Pn w a) 1 k
    have eM := mnm_mul (1 : KT q) (Pn w a) j (k - 1)
    have eR := mnm_mul (1 : KT q) (Pn w a) (j + 1) k
    rw [eL, eM, eR]
    by_cases c : 1 ≤ k
    · rw [if_pos c]
      by_cases c1 : j ≤ k - 1
      · rw [if_pos c1, if_pos (by omega), show k - 1 - j = k - (j + 1) by omega]
        grind
      · rw [if_neg c1, if_neg (by omega)]
        grind
    · rw [if_neg c, if_neg (by omega)]
theorem rs_dv (w : Wd q m d n) {b t lb : Nat} (hb : b < q ^ lb) (n' : Nat) : ∀ a, n' ≤ 13 → letI := kR (wd_q w); letI := plR (KT q); Dv (Pn w b) (Pn w a - Pn w (rs q b t lb n' a)) := by
  letI := kR (wd_q w)
  letI := plR (KT q)
  have h0 : ∀ a : Nat, Dv (Pn w b) (Pn w a - Pn w a) := fun a => by
    have e : Pn w a - Pn w a = 0 := by grind
    rw [e]
    exact Dv.zero _
  induction n' with
  | zero => exact fun a _ => h0 a
  | succ k ih =>
    intro a hk
    have e1 : rs q b t lb (k + 1) a = if k + 1 < lb then a else rs q b t lb k (cmb q ((q - dg q a k * t % q) % q) 13 a (b * q ^ (k + 1 - lb))) := rfl
    rw [e1]
    by_cases c : k + 1 < lb
    · rw [if_pos c]
      exact h0 a
    · rw [if_neg c]
      have h3 := ih (cmb q ((q - dg q a k * t % q) % q) 13 a (b * q ^ (k + 1 - lb))) (by omega)
      generalize rs q b t lb k (cmb q ((q - dg q a k * t % q) % q) 13 a (b * q ^ (k + 1 - lb))) = R at *
      rw [pn_cmbs w, pn_mulpow w hb _ (by omega)] at h3
      generalize (mnm (kt (Nat.mod_lt ((q - dg q a k * t % q) % q) w.q0)) 0 : PL (KT q)) = C at *
      generalize (mnm 1 (k + 1 - lb) : PL (KT q)) = X at *
      have h5 := Dv.sub h3 (Dv.self_r (Pn w b) (C * X))
      have e : Pn w a + C * (X * Pn w b) - Pn w R - C * X * Pn w b = Pn w a - Pn w R := by grind
      rw [e] at h5
      exact h5
theorem rst_dv (w : Wd q m d n) {a b : Nat} (hb : b < q ^ 13) : letI := kR (wd_q w); letI := plR (KT q); Dv (Pn w b) (Pn w a - Pn w (rst q a b)) := rs_dv w (ln_lt hb) _ a (ln_le q 13 a)
theorem mn_pn (w : Wd q m d n) {b : Nat} (hb : Mn q b) : letI := kR (wd_q w); Mnc (Pn w b) (ln q 13 b - 1) := by
  obtain ⟨k, h1, h2, h3⟩ := hb
  have h4 := ln_lt h3
  have h5 := ln_le q 13 b
  rw [h1] at h4 h5 ⊢
  exact pn_mnc w (by omega) h4 h2
/-- nought is left where it divides -/
theorem rst_0 (w : Wd q m d n) {a b : Nat} (ha : a < q ^ 13) (hb : Mn q b) : letI := kR (wd_q w); rst q a b = 0 ↔ Dv (Pn w b) (Pn w a) := by
  letI := kR (wd_q w)
  letI := plR (KT q)
  have hb13 := hb.lt13
  have h1 := rst_dv w (a := a) hb13
  refine ⟨fun z => ?_, fun h => ?_⟩
  · rw [z, pn_0 w] at h1
    have e : Pn w a - 0 = Pn w a := by grind
    rw [e] at h1
    exact h1
  · have h3 := Dv.sub h h1
    have e : Pn w a - (Pn w a - Pn w (rst q a b)) = Pn w (rst q a b) := by grind
    rw [e] at h3
    have h5 := dv_small (mn_pn w hb) (pn_dlt w (rst_small w.hq ha hb13 (hb.pos w.q2))) h3
    exact pn_inj w (rst_lt w.q2 ha) (Nat.pow_pos (by have := w.q2; omega)) (h5.trans (pn_0 w).symm)
theorem qs_dv (w : Wd q m d n) {b t lb : Nat} (hb : b < q ^ lb) (hlb : 1 ≤ lb) (n' : Nat) : ∀ a v, n' ≤ 13 → (∃ u, v = u * q ^ (n' + 1 - lb)) → v + q ^ (n' + 1 - lb) ≤ q ^ 13 → letI := kR (wd_q w); letI := plR (KT q); Pn w (qs q b t lb n' a v) * Pn w b + Pn w (rs q b t lb n' a) = Pn w v * Pn w b + Pn w a := by
  letI := kR (wd_q w)
  letI := plR (KT q)
  have h2 := w.q2
  induction n' with
  | zero => exact fun a v _ _ _ => rfl
  | succ k ih =>
    intro a v hk hu hl
    have e1 : rs q b t lb (k + 1) a = if k + 1 < lb then a else rs q b t lb k (cmb q ((q - dg q a k * t % q) % q) 13 a (b * q ^ (k + 1 - lb))) := rfl
    have e2 : qs q b t lb (k + 1) a v = if k + 1 < lb then v else qs q b t lb k (cmb q ((q - dg q a k * t % q) % q) 13 a (b * q ^ (k + 1 - lb))) (v + dg q a k * t % q * q ^ (k + 1 - lb)) := rfl
    rw [e1, e2]
    by_cases c : k + 1 < lb
    · rw [if_pos c, if_pos c]
    · rw [if_neg c, if_neg c]
      have hcq : dg q a k * t % q < q := Nat.mod_lt _ w.q0
      generalize dg q a k * t % q = c1 at *
      have e3 : k + 1 + 1 - lb = k + 1 - lb + 1 := by omega
      rw [e3] at hu hl
      have hput := cmb_put h2 hcq (show k + 1 - lb < 13 by omega) hu hl
      have hle : v + c1 * q ^ (k + 1 - lb) + q ^ (k + 1 - lb) ≤ q ^ 13 := by
        have : c1 * q ^ (k + 1 - lb) + q ^ (k + 1 - lb) ≤ q ^ (k + 1 - lb + 1) := by
          rw [Nat.pow_succ, Nat.mul_comm (q ^ (k + 1 - lb)) q, ← Nat.succ_mul]
          exact Nat.mul_le_mul_right _ hcq
        omega
      have h3 := ih (cmb q ((q - c1) % q) 13 a (b * q ^ (k + 1 - lb))) (v + c1 * q ^ (k + 1 - lb)) (by omega) (by
        obtain ⟨u, hu⟩ := hu
        refine ⟨u * q + c1, ?_⟩
        rw [hu, Nat.pow_succ, Nat.add_mul, Nat.mul_assoc, Nat.mul_comm (q ^ (k + 1 - lb)) q]) hle
      rw [h3, ← hput, pn_cmbs w, pn_cmbs w, pn_mulpow w hb _ (by omega), pn_pow w (show k + 1 - lb < 13 by omega)]
      have en : (mnm (kt (Nat.mod_lt ((q - c1) % q) w.q0)) 0 : PL (KT q)) = -(mnm (kt (Nat.mod_lt c1 w.q0)) 0) := by
        have e5 : (kt (Nat.mod_lt ((q - c1) % q) w.q0) : KT q) + kt (Nat.mod_lt c1 w.q0) = 0 := Subtype.ext (by
          show cmb q 1 13 ((q - c1) % q % q) (c1 % q) = 0
          rw [Nat.mod_mod, Nat.mod_eq_of_lt hcq, cmb_fig h2 (Nat.mod_lt _ w.q0) hcq, Nat.one_mul, Nat.mod_add_mod, show q - c1 + c1 = q by omega, Nat.mod_self])
        refine pl_ext (fun i => ?_)
        rw [pl_neg]
        show (if i = 0 then (kt (Nat.mod_lt ((q - c1) % q) w.q0) : KT q) else 0) = -(if i = 0 then (kt (Nat.mod_lt c1 w.q0) : KT q) else 0)
        split
        · grind
        · grind
      rw [en]
      generalize (mnm (kt (Nat.mod_lt c1 w.q0)) 0 : PL (KT q)) = C
      generalize (mnm 1 (k + 1 - lb) : PL (KT q)) = X
      grind
/-- a quotient that leaves nought -/
theorem quo_dv (w : Wd q m d n) {a b : Nat} (ha : a < q ^ 13) (hb : Mn q b) (h : rst q a b = 0) : letI := kR (wd_q w); letI := plR (KT q); Pn w a = Pn w (quo q a b) * Pn w b := by
  letI := kR (wd_q w)
  letI := plR (KT q)
  have h2 := w.q2
  have hb13 := hb.lt13
  have hl := ln_pos hb13 (hb.pos h2)
  have h1 := qs_dv w (t := iv q (fst q b)) (ln_lt hb13) hl (ln q 13 a) a 0 (ln_le q 13 a) ⟨0, by rw [Nat.zero_mul]⟩ (by
    rw [Nat.zero_add]
    have := ln_le q 13 a
    exact Nat.pow_le_pow_right (by omega) (by omega))
  have e : rs q b (iv q (fst q b)) (ln q 13 b) (ln q 13 a) a = 0 := h
  rw [e, pn_0 w] at h1
  have e2 : qs q b (iv q (fst q b)) (ln q 13 b) (ln q 13 a) a 0 = quo q a b := rfl
  rw [e2] at h1
  generalize Pn w (quo q a b) = X at *
  grind
/-- monic with the same divisors -/
theorem mon_dv (w : Wd q m d n) {a : Nat} (ha : a < q ^ 13) (h0 : 0 < a) : letI := kR (wd_q w); Dv (Pn w a) (Pn w (mon q a)) ∧ Dv (Pn w (mon q a)) (Pn w a) := by
  letI := kR (wd_q w)
  letI := plR (KT q)
  have h2 := w.q2
  have hf := fst_pos h2 ha h0
  have hf1 := fst_lt h2 a
  have e : Pn w (mon q a) = mnm (kt (Nat.mod_lt (iv q (fst q a)) w.q0)) 0 * Pn w a := by
    have := pn_cmbs w (iv q (fst q a)) 0 a
    rw [pn_0 w] at this
    have e1 : mon q a = cmb q (iv q (fst q a)) 13 0 a := rfl
    rw [e1, this]
    grind
  refine ⟨⟨_, e⟩, ⟨mnm (kt hf1) 0, ?_⟩⟩
  rw [e]
  refine pl_ext (fun k => ?_)
  rw [mnm_mul, mnm_mul, if_pos (Nat.zero_le _), if_pos (Nat.zero_le _), Nat.sub_zero]
  have e3 : (kt hf1 : KT q) * kt (Nat.mod_lt (iv q (fst q a)) w.q0) = 1 := Subtype.ext (by
    show mu q q (fst q a) (iv q (fst q a) % q) = 1
    rw [mu_fig (wd_q w) hf1 (Nat.mod_lt _ w.q0), Nat.mul_mod_mod]
    exact iv_mul w.hq hf1 (by omega))
  grind
theorem gcl_dv (w : Wd q m d n) (k : Nat) : ∀ a b, a < q ^ 13 → b < q ^ 13 → (0 < a ∨ 0 < b) → ln q 13 b ≤ k → letI := kR (wd_q w); Dv (Pn w (gcl q k a b)) (Pn w a) ∧ Dv (Pn w (gcl q k a b)) (Pn w b) ∧ ∀ e, Dv e (Pn w a) → Dv e (Pn w b) → Dv e (Pn w (gcl q k a b)) := by
  letI := kR (wd_q w)
  letI := plR (KT q)
  have h2 := w.q2
  have base : ∀ a b, a < q ^ 13 → (0 < a ∨ 0 < b) → b = 0 → Dv (Pn w (mon q a)) (Pn w a) ∧ Dv (Pn w (mon q a)) (Pn w b) ∧ ∀ e, Dv e (Pn w a) → Dv e (Pn w b) → Dv e (Pn w (mon q a)) := fun a b ha h0 hb => by
    obtain ⟨m1, m2⟩ := mon_dv w ha (by omega)
    refine ⟨m2, ?_, fun e he _ => he.trans m1⟩
    rw [hb, pn_0 w]
    exact Dv.zero _
  induction k with
  | zero =>
    intro a b ha hb h0 hl
    exact base a b ha h0 ((ln_zero_iff h2 hb).mp (by omega))
  | succ k ih =>
    intro a b ha hb h0 hl
    have e1 : gcl q (k + 1) a b = if b = 0 then mon q a else gcl q k b (rst q a b) := rfl
    rw [e1]
    by_cases c : b = 0
    · rw [if_pos c]
      exact base a b ha h0 c
    · rw [if_neg c]
      have hr := rst_ln w.hq ha hb (by omega)
      obtain ⟨i1, i2, i3⟩ := ih b (rst q a b) hb (rst_lt h2 ha) (Or.inl (by omega)) (by omega)
      have hd := rst_dv w (a := a) hb
      refine ⟨?_, i1, fun e h1 h3 => i3 e h3 ?_⟩
      · have h5 := Dv.add (i1.trans hd) i2
        have e : Pn w a - Pn w (rst q a b) + Pn w (rst q a b) = Pn w a := by grind
        rw [e] at h5
        exact h5
      · have h5 := Dv.sub h1 (h3.trans hd)
        have e : Pn w a - (Pn w a - Pn w (rst q a b)) = Pn w (rst q a b) := by grind
        rw [e] at h5
        exact h5
theorem gcn_dv (w : Wd q m d n) {a b : Nat} (ha : a < q ^ 13) (hb : b < q ^ 13) (h0 : 0 < a ∨ 0 < b) : letI := kR (wd_q w); Dv (Pn w (gcn q a b)) (Pn w a) ∧ Dv (Pn w (gcn q a b)) (Pn w b) ∧ ∀ e, Dv e (Pn w a) → Dv e (Pn w b) → Dv e (Pn w (gcn q a b)) := gcl_dv w 26 a b ha hb h0 (by have := ln_le q 13 b; omega)
end NPL
