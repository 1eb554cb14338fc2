/-! the figures as a field; numbers as polynomials over it -/
section FGQ
variable {q m d n : Nat}
theorem wd_q (w : Wd q m d n) : Wd q q 1 q := by
  rcases w.hq with rfl | rfl | rfl
  · exact ⟨by omega, by decide, by decide, by decide, by omega, by omega, by omega⟩
  · exact ⟨by omega, by decide, by decide, by decide, by omega, by omega, by omega⟩
  · exact ⟨by omega, by decide, by decide, by decide, by omega, by omega, by omega⟩
theorem q_le_n1 (w : Wd q m d n) {a : Nat} (ha : a < q) : a < n := by
  have := q_le_n w
  omega
/-- a figure as a rest -/
def fgm (w : Wd q m d n) (a : KT q) : KT n := ⟨a.1, q_le_n1 w a.2⟩
/-- a linear map of the rests -/
def lnm {f : Nat → Nat} (hf : Ln q n f) (x : KT n) : KT n := ⟨f x.1, hf.1 _ x.2⟩
theorem cmb_tw (h2 : 2 ≤ q) {s a b : Nat} : cmb q 1 13 a (cmb q s 13 0 b) = cmb q s 13 a b := by
  refine dg_ext h2 (cmb_lt _ h2 13 _ _) (cmb_lt _ h2 13 _ _) (fun k hk => ?_)
  rw [cmb_dg _ h2, if_pos hk, cmb_dg _ h2, if_pos hk, cmb_dg _ h2, if_pos hk, dg_zero, Nat.zero_add, Nat.one_mul, Nat.add_mod_mod]
theorem k_fgm (w : Wd q m d n) (s : KT q) (a x : KT n) : letI := kR w; (a + fgm w s * x).1 = cmb q s.1 13 a.1 x.1 := by
  show cmb q 1 13 a.1 (mu q m s.1 x.1) = _
  rw [mu_fgl w s.2 x.2, cmb_tw w.q2]
theorem fgm_Lop (w : Wd q m d n) {f : Nat → Nat} (hf : Ln q n f) : letI := kR (wd_q w); letI := kR w; Lop (fgm w) (lnm hf) := by
  have h2 := w.q2
  have wq := wd_q w
  refine ⟨fun a b => Subtype.ext rfl, fun a b => Subtype.ext ?_, Subtype.ext rfl, fun x y => Subtype.ext ?_, fun a x => Subtype.ext ?_⟩
  · show mu q q a.1 b.1 = mu q m a.1 b.1
    rw [mu_fig wq a.2 b.2, mu_fig w a.2 b.2]
  · exact hf.2 1 x.1 y.1 x.2 y.2
  · show f (mu q m a.1 x.1) = mu q m a.1 (f x.1)
    rw [mu_fgl w a.2 x.2, mu_fgl w a.2 (hf.1 _ x.2), hf.2 _ _ _ w.pos x.2, hf.zero w]
theorem q_ivs (w : Wd q m d n) : letI := kR (wd_q w); Ivs (KT q) := by
  letI := kR (wd_q w)
  intro a ha
  have h0 : a.1 ≠ 0 := fun z => ha (Subtype.ext z)
  refine ⟨⟨iv q a.1, iv_lt w.hq a.2⟩, Subtype.ext ?_⟩
  show mu q q (iv q a.1) a.1 = 1
  rw [mu_fig (wd_q w) (iv_lt w.hq a.2) a.2, Nat.mul_comm]
  exact iv_mul w.hq a.2 h0
theorem q_ne (w : Wd q m d n) : letI := kR (wd_q w); (1 : KT q) ≠ 0 := fun z => by
  have : (1 : Nat) = 0 := congrArg Subtype.val z
  omega
theorem itg_val (w : Wd q m d n) {f : Nat → Nat} (hf : Ln q n f) : ∀ k x, (itg (lnm hf) k x).1 = itr f k x.1 := by
  intro k
  induction k with
  | zero => exact fun x => rfl
  | succ k ih => exact fun x => ih (lnm hf x)
theorem q_tor (w : Wd q m d n) {f : Nat → Nat} (hf : Ln q n f) : letI := kR (wd_q w); letI := kR w; Tor (acp (fgm w) (lnm hf)) := by
  letI iq := kR (wd_q w)
  letI ik := kR w
  intro v
  have h := fgm_Lop w hf
  have hex : ∃ i j, i < j ∧ itg (lnm hf) i v = itg (lnm hf) j v := by
    apply Classical.byContradiction
    intro c
    have hp := pigeon n (n + 1) (fun i => (itg (lnm hf) i v).1) (fun i _ => (itg (lnm hf) i v).2) (fun i j _ _ e => by
      have e : itg (lnm hf) i v = itg (lnm hf) j v := Subtype.ext e
      rcases Nat.lt_trichotomy i j with z | z | z
      · exact absurd ⟨i, j, z, e⟩ c
      · exact z
      · exact absurd ⟨j, i, z, e.symm⟩ c)
    omega
  obtain ⟨i, j, hij, e⟩ := hex
  letI := plR (KT q)
  refine ⟨mnm 1 j - mnm 1 i, j, ⟨?_, fun k hk => ?_⟩, ?_⟩
  · rw [pl_sub]
    show (if j = j then (1 : KT q) else 0) - (if j = i then 1 else 0) = 1
    rw [if_pos rfl, if_neg (by omega)]
    grind
  · rw [pl_sub]
    show (if k = j then (1 : KT q) else 0) - (if k = i then 1 else 0) = 0
    rw [if_neg (by omega), if_neg (by omega)]
    grind
  · rw [acp_sub h, acp_mn h, acp_mn h, e]
    grind
/-- a number as a polynomial -/
def Pn (w : Wd q m d n) (a : Nat) : letI := kR (wd_q w); PL (KT q) := letI := kR (wd_q w); ⟨fun k => if k < 13 then (⟨dg q a k, dg_lt w.q2⟩ : KT q) else 0, 13, fun k hk => if_neg (by omega)⟩
theorem pn_at (w : Wd q m d n) (a : Nat) {k : Nat} (hk : k < 13) : letI := kR (wd_q w); ((Pn w a).1 k).1 = dg q a k := by
  letI := kR (wd_q w)
  exact congrArg Subtype.val (if_pos (c := k < 13) (t := (⟨dg q a k, dg_lt w.q2⟩ : KT q)) (e := (0 : KT q)) hk)
theorem pn_hi (w : Wd q m d n) (a : Nat) {k : Nat} (hk : 13 ≤ k) : letI := kR (wd_q w); (Pn w a).1 k = 0 := if_neg (by omega)
theorem pn_dlt (w : Wd q m d n) {a N : Nat} (ha : a < q ^ N) : letI := kR (wd_q w); Dlt (Pn w a) N := fun k hk => by
  by_cases c : k < 13
  · refine Subtype.ext ?_
    rw [pn_at w a c, dg_of w.q2 ha hk]
    rfl
  · exact pn_hi w a (by omega)
theorem pn_mnc (w : Wd q m d n) {a k : Nat} (hk : k < 13) (ha : a < q ^ (k + 1)) (h1 : dg q a k = 1) : letI := kR (wd_q w); Mnc (Pn w a) k := by
  refine ⟨Subtype.ext ?_, pn_dlt w ha⟩
  rw [pn_at w a hk, h1]
  rfl
theorem pn_inj (w : Wd q m d n) {a b : Nat} (ha : a < q ^ 13) (hb : b < q ^ 13) (h : Pn w a = Pn w b) : a = b := dg_ext w.q2 ha hb (fun k hk => by
  letI := kR (wd_q w)
  rw [← pn_at w a hk, ← pn_at w b hk, h])
theorem pn_cmb (w : Wd q m d n) (s : KT q) (a b : Nat) : letI := kR (wd_q w); letI := plR (KT q); Pn w (cmb q s.1 13 a b) = Pn w a + mnm s 0 * Pn w b := by
  letI := kR (wd_q w)
  letI := plR (KT q)
  have wq := wd_q w
  have h2 := w.q2
  refine pl_ext (fun k => ?_)
  rw [pl_add, mnm_mul, if_pos (Nat.zero_le _), Nat.sub_zero]
  by_cases c : k < 13
  · refine Subtype.ext ?_
    have e := k_fgm wq s ((Pn w a).1 k) ((Pn w b).1 k)
    have e1 : fgm wq s = s := rfl
    rw [e1] at e
    rw [e, pn_at w _ c, pn_at w _ c, pn_at w _ c, cmb_dg _ h2, if_pos c, cmb_fig h2 (dg_lt h2) (dg_lt h2)]
  · rw [pn_hi w _ (by omega), pn_hi w _ (by omega), pn_hi w _ (by omega)]
    grind
theorem pn_0 (w : Wd q m d n) : letI := kR (wd_q w); letI := plR (KT q); Pn w 0 = 0 := by
  letI := kR (wd_q w)
  refine pl_ext (fun k => ?_)
  by_cases c : k < 13
  · refine Subtype.ext ?_
    rw [pn_at w _ c, dg_zero]
    rfl
  · exact pn_hi w _ (by omega)
theorem pn_pow (w : Wd q m d n) {k : Nat} (hk : k < 13) : letI := kR (wd_q w); Pn w (q ^ k) = mnm 1 k := by
  letI := kR (wd_q w)
  have h2 := w.q2
  refine pl_ext (fun i => ?_)
  by_cases c : i < 13
  · refine Subtype.ext ?_
    rw [pn_at w _ c, dg_pwk h2]
    show _ = (if i = k then (1 : KT q) else 0).1
    by_cases z : i = k
    · rw [if_pos z, if_pos z]
      rfl
    · rw [if_neg z, if_neg z]
      rfl
  · rw [pn_hi w _ (by omega)]
    exact (if_neg (by omega)).symm
theorem pn_1 (w : Wd q m d n) : letI := kR (wd_q w); letI := plR (KT q); Pn w 1 = 1 := by
  have := pn_pow w (show 0 < 13 by omega)
  rw [Nat.pow_zero] at this
  exact this
theorem pn_shift (w : Wd q m d n) {a : Nat} (ha : a < q ^ 12) : letI := kR (wd_q w); letI := plR (KT q); Pn w (a * q) = mnm 1 1 * Pn w a := by
  letI := kR (wd_q w)
  letI := plR (KT q)
  have h2 := w.q2
  refine pl_ext (fun k => ?_)
  rw [mnm_mul]
  by_cases c : k < 13
  · by_cases z : 1 ≤ k
    · rw [if_pos z]
      have e : (1 : KT q) * (Pn w a).1 (k - 1) = (Pn w a).1 (k - 1) := by grind
      rw [e]
      refine Subtype.ext ?_
      rw [pn_at w _ c, pn_at w _ (by omega)]
      obtain ⟨j, rfl⟩ : ∃ j, k = j + 1 := ⟨k - 1, by omega⟩
      exact dg_mulq h2
    · rw [if_neg z]
      refine Subtype.ext ?_
      have : k = 0 := by omega
      subst this
      rw [pn_at w _ c]
      unfold dg
      rw [Nat.pow_zero, Nat.div_one, Nat.mul_mod_left]
      rfl
  · rw [pn_hi w _ (by omega), if_pos (by omega)]
    have e := pn_dlt w ha (k - 1) (by omega)
    rw [e]
    grind
theorem cvq_sg (w : Wd q m d n) (k : Nat) : ∀ f g : Nat → KT q, letI := kR (wd_q w); (cvq f g k).1 = sg (fun i => (f i).1 * (g (k - i)).1) (k + 1) % q := by
  letI := kR (wd_q w)
  have wq := wd_q w
  induction k with
  | zero =>
    intro f g
    show mu q q (f 0).1 (g 0).1 = (0 + (f 0).1 * (g 0).1) % q
    rw [mu_fig wq (f 0).2 (g 0).2, Nat.zero_add]
  | succ k ih =>
    intro f g
    have e1 : (cvq f g (k + 1)).1 = cmb q 1 13 (mu q q (f 0).1 (g (k + 1)).1) (cvq (fun i => f (i + 1)) g k).1 := rfl
    rw [e1, ih, mu_fig wq (f 0).2 (g (k + 1)).2, cmb_fig w.q2 (Nat.mod_lt _ (by have := w.q2; omega)) (Nat.mod_lt _ (by have := w.q2; omega)), Nat.one_mul, ← Nat.add_mod, sg_head (fun i => (f i).1 * (g (k + 1 - i)).1), Nat.sub_zero]
    have e3 : sg (fun i => (f (i + 1)).1 * (g (k - i)).1) (k + 1) = sg (fun i => (f (i + 1)).1 * (g (k + 1 - (i + 1))).1) (k + 1) := sg_ext (fun i hi => by rw [show k + 1 - (i + 1) = k - i by omega])
    rw [e3]
theorem pn_mul (w : Wd q m d n) {a b : Nat} (ha : a < q ^ 13) (hb : b < q ^ 13) (hf : ln q 13 a + ln q 13 b ≤ 14) : letI := kR (wd_q w); letI := plR (KT q); Pn w (prd q a b) = Pn w a * Pn w b := by
  letI := kR (wd_q w)
  letI := plR (KT q)
  have h2 := w.q2
  refine pl_ext (fun k => ?_)
  rw [pl_mul]
  by_cases c : k < 13
  · refine Subtype.ext ?_
    rw [pn_at w _ c, prd_dg h2 ha hb hf c, cvq_sg w]
    unfold pc
    congr 1
    refine sg_ext (fun i hi => ?_)
    rw [pn_at w _ (by omega), pn_at w _ (by omega)]
  · rw [pn_hi w _ (by omega)]
    have hA := pn_dlt w (ln_lt ha)
    have hB := pn_dlt w (ln_lt hb)
    by_cases z : ln q 13 a = 0
    · rw [z] at hA
      exact (cvq_z k _ _ (fun i => hA i (Nat.zero_le _))).symm
    · by_cases z1 : ln q 13 b = 0
      · rw [z1] at hB
        rw [cvq_comm]
        exact (cvq_z k _ _ (fun i => hB i (Nat.zero_le _))).symm
      · obtain ⟨x, hx⟩ : ∃ x, ln q 13 a = x + 1 := ⟨ln q 13 a - 1, by omega⟩
        obtain ⟨y, hy⟩ : ∃ y, ln q 13 b = y + 1 := ⟨ln q 13 b - 1, by omega⟩
        rw [hx] at hA
        rw [hy] at hB
        exact (hA.mul hB k (by omega)).symm
end FGQ
