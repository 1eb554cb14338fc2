/-! splitting: the end -/
theorem rg_can {S : Type} [Lean.Grind.CommRing S] {a b c : S} (h : b + a = c + a) : b = c := by grind
theorem rg_e2 {S : Type} [Lean.Grind.CommRing S] (x v i r : S) : x * (v - i) - (x * v - r) = r - i * x := by grind
section SPE
variable {q m d n : Nat}
/-- the trace of t^j is a constant by u -/
def CJ (w : Wd q m d n) (k u j : Nat) : Prop := letI := kR (wd_q w); letI := plR (KT q); ∃ c : KT q, Dv (Pn w u) (trq q k (mnm 1 j) - mnm c 0)
theorem cj_inh (w : Wd q m d n) (k j : Nat) : Inh w (fun u => CJ w k u j) := fun u v _ hd h => by
  letI := kR (wd_q w)
  obtain ⟨c, hc⟩ := h
  exact ⟨c, hd.trans hc⟩
/-- all separated: the trace is a constant -/
theorem sep_cst (w : Wd q m d n) {C k u tr : Nat} (hC : CK w C k) (hu : Mn q u) (hu2 : 2 ≤ ln q 13 u) (hd : letI := kR (wd_q w); Dv (Pn w u) (Pn w C)) (hf : letI := kR (wd_q w); letI := qrR (Pn w C); frq q (tq (Pn w C) (Pn w tr)) = tq (Pn w C) (Pn w tr)) (hs1 : ∀ s, s < q → Sep w (cmb q (q - 1) 13 tr s) u) : letI := kR (wd_q w); letI := plR (KT q); ∃ c : KT q, Dv (Pn w u) (Pn w tr - mnm c 0) := by
  letI := kR (wd_q w)
  letI := plR (KT q)
  obtain ⟨p, e, hp, hpu⟩ := irr_ex (q_ne w) _ _ (mn_pn w hu) (by omega)
  letI := qrR p
  have hpC := hpu.trans hd
  have hy : frq q (tq p (Pn w tr)) = tq p (Pn w tr) := by
    have e1 : frq q (tq p (Pn w tr)) = tq p (Pn w tr ^ q) := (tq_pow _ _ q).symm
    have e2 : letI := qrR (Pn w C); frq q (tq (Pn w C) (Pn w tr)) = tq (Pn w C) (Pn w tr ^ q) := (tq_pow _ _ q).symm
    rw [e1, tq_eq]
    refine hpC.trans ?_
    rw [← tq_eq]
    exact e2.symm.trans hf
  obtain ⟨c, hc⟩ := frq_cst w hp _ hy
  have h1 : Dv p (Pn w tr - mnm c 0) := tq_eq.mp hc
  refine ⟨c, ?_⟩
  rw [← pn_fig w, ← pn_sub w] at h1 ⊢
  rcases hs1 c.1 c.2 with z | z
  · exact z
  · exact absurd h1 (z p e hp hpu)
theorem spO_ok (w : Wd q m d n) {C k top : Nat} (hC : CK w C k) (hl : ln q 13 C = top + 1) : ∀ r i v L f, i + r + 1 = top → v < q ^ top → (letI := kR (wd_q w); letI := plR (KT q); Dv (Pn w C) (Pn w v - mnm 1 i)) → Pcs w C L f → (∀ u, u < L → ∀ j, 1 ≤ j → j ≤ i → CJ w k (f u) j) → Pcs w C (spO q k C top r v L f).1 (spO q k C top r v L f).2 ∧ (top ≤ (spO q k C top r v L f).1 * k ∨ ∀ u, u < (spO q k C top r v L f).1 → ∀ j, 1 ≤ j → j < top → CJ w k ((spO q k C top r v L f).2 u) j) := by
  letI := kR (wd_q w)
  letI := plR (KT q)
  letI := qrR (Pn w C)
  have h2 := w.q2
  have hC13 := hC.1.lt13
  have hle := ln_le q 13 C
  have hc1 : dg q C top = 1 := by
    obtain ⟨j, j1, j2, j3⟩ := hC.1
    have : j = top := by omega
    rw [← this]
    exact j2
  intro r
  induction r with
  | zero => exact fun i v L f hi _ _ hP hJ => ⟨hP, Or.inr (fun u hu j h1 h3 => hJ u hu j h1 (by omega))⟩
  | succ r ih =>
    intro i v L f hi hv hvi hP hJ
    have e1 : spO q k C top (r + 1) v L f = if top ≤ L * k then (L, f) else spO q k C top r (rst q (v * q) C) (spF q (trc q (rst q (v * q) C) k C) q 0 L f).1 (spF q (trc q (rst q (v * q) C) k C) q 0 L f).2 := rfl
    rw [e1]
    by_cases c : top ≤ L * k
    · rw [if_pos c]
      exact ⟨hP, Or.inl c⟩
    · rw [if_neg c]
      have hv12 : v < q ^ 12 := Nat.lt_of_lt_of_le hv (Nat.pow_le_pow_right (by omega) (by omega))
      have hvq : v * q < q ^ 13 := by
        rw [show (13 : Nat) = 12 + 1 by rfl, Nat.pow_succ]
        exact Nat.mul_lt_mul_of_pos_right hv12 (by omega)
      have hr1 := rst_small w.hq hvq hC13 (hC.1.pos h2)
      rw [hl, Nat.add_sub_cancel] at hr1
      have hrd := rst_dv w (a := v * q) hC13
      have hvi1 : Dv (Pn w C) (Pn w (rst q (v * q) C) - mnm 1 (i + 1)) := by
        rw [pn_shift w hv12] at hrd
        have h5 := Dv.sub (Dv.mul hvi (mnm 1 1)) hrd
        have e2 : (mnm 1 1 : PL (KT q)) * (Pn w v - mnm 1 i) - (mnm 1 1 * Pn w v - Pn w (rst q (v * q) C)) = Pn w (rst q (v * q) C) - mnm 1 (i + 1) := by
          rw [← mnm_mn1 i]
          exact rg_e2 _ _ _ _
        rw [e2] at h5
        exact h5
      generalize rst q (v * q) C = x at *
      have htr := trc_tq w hl hC13 hc1 hr1 hC.2.1
      have hx : tq (Pn w C) (Pn w x) = tq (Pn w C) (mnm 1 (i + 1)) := tq_eq.mpr hvi1
      have hch := qr_chq (fq_chq w) (Pn w C)
      have hfx := (fix_dv w (g := Pn w C) (k := k)).mpr hC.2.2.1
      have hff : frq q (tq (Pn w C) (Pn w (trc q x k C))) = tq (Pn w C) (Pn w (trc q x k C)) := by
        have h5 := trq_frq hch k (tq (Pn w C) (Pn w x))
        rw [fix_all w hfx, ← htr] at h5
        exact rg_can h5
      have htd : Dv (Pn w C) (Pn w (trc q x k C) - trq q k (mnm 1 (i + 1))) := by
        rw [← tq_eq, htr, hx, tq_trq]
      generalize trc q x k C = tr at *
      have hQ : Inh w (fun u => ∀ j, 1 ≤ j → j ≤ i → CJ w k u j) := fun u v hv hd h j h1 h3 => cj_inh w k j u v hv hd (h j h1 h3)
      obtain ⟨b1, b2, b3⟩ := spF_ok w (tr := tr) hC q 0 L f _ hQ hP hJ
      refine ih (i + 1) x _ _ (by omega) hr1 hvi1 b1 (fun u hu j h1 h3 => ?_)
      by_cases z : j = i + 1
      · rw [z]
        obtain ⟨u1, u2⟩ := b1.1 u hu
        have hd : Dv (Pn w ((spF q tr q 0 L f).2 u)) (Pn w C) := by
          rw [← b1.2]
          have := pcs_dv w (f := (spF q tr q 0 L f).2) (i := u) _ 0 hu
          rw [Nat.zero_add] at this
          exact this
        obtain ⟨c1, hc2⟩ := sep_cst w hC u1 u2 hd hff (fun s hs => b3 s (Nat.zero_le _) (by omega) u hu)
        refine ⟨c1, ?_⟩
        have h5 := Dv.sub hc2 (hd.trans htd)
        have e2 : Pn w tr - mnm c1 0 - (Pn w tr - trq q k (mnm 1 (i + 1))) = trq q k (mnm 1 (i + 1)) - mnm c1 0 := by
          generalize trq q k (mnm 1 (i + 1) : PL (KT q)) = A
          generalize (mnm c1 0 : PL (KT q)) = B
          grind
        rw [e2] at h5
        exact h5
      · exact b2 u hu j h1 (by omega)
/-- the trace of all of degree below N is a constant -/
theorem cj_all (w : Wd q m d n) {k u top : Nat} (hJ : ∀ j, 1 ≤ j → j < top → CJ w k u j) (N : Nat) : N ≤ top → letI := kR (wd_q w); letI := plR (KT q); ∀ f : PL (KT q), Dlt f N → ∃ c, Dv (Pn w u) (trq q k f - mnm c 0) := by
  letI := kR (wd_q w)
  letI := plR (KT q)
  have hch := pl_chq (fq_chq w)
  have hcf : ∀ c : KT q, frq q (mnm c 0 : PL (KT q)) = mnm c 0 := fun c => by
    show (mnm c 0 : PL (KT q)) ^ q = mnm c 0
    rw [mnm_pw, fq_pow w]
  have hm0 : (mnm 0 0 : PL (KT q)) = 0 := mnm_0 0
  have hma : ∀ a b : KT q, (mnm (a + b) 0 : PL (KT q)) = mnm a 0 + mnm b 0 := fun a b => pl_ext (fun k => by
    rw [pl_add]
    show (if k = 0 then a + b else 0) = (if k = 0 then a else 0) + (if k = 0 then b else 0)
    split
    · rfl
    · grind)
  have h1 : ∃ c : KT q, trq q k (mnm 1 0 : PL (KT q)) = mnm c 0 := by
    have hk : ∀ k, itg (frq q) k (mnm 1 0 : PL (KT q)) = mnm 1 0 := fun k => by
      induction k with
      | zero => rfl
      | succ k ih =>
        show itg (frq q) k (frq q (mnm 1 0)) = _
        rw [hcf, ih]
    induction k with
    | zero => exact ⟨0, hm0.symm⟩
    | succ k ih =>
      have hex : ∀ k, ∃ c : KT q, trq q k (mnm 1 0 : PL (KT q)) = mnm c 0 := fun k => by
        induction k with
        | zero => exact ⟨0, hm0.symm⟩
        | succ k ih =>
          obtain ⟨c, hc⟩ := ih
          exact ⟨c + 1, by rw [trq_s, hc, hk, hma]⟩
      exact hex (k + 1)
  induction N with
  | zero =>
    intro _ f hf
    refine ⟨0, ?_⟩
    rw [show f = 0 from pl_ext (fun k => hf k (Nat.zero_le _)), trq_0 hch, hm0]
    have e : (0 : PL (KT q)) - 0 = 0 := by grind
    rw [e]
    exact Dv.zero _
  | succ N ih =>
    intro hN f hf
    have hN1 : ∃ c : KT q, Dv (Pn w u) (trq q k (mnm 1 N : PL (KT q)) - mnm c 0) := by
      by_cases z : N = 0
      · obtain ⟨c, hc⟩ := h1
        refine ⟨c, ?_⟩
        rw [z, hc]
        have e : (mnm c 0 : PL (KT q)) - mnm c 0 = 0 := by
          generalize (mnm c 0 : PL (KT q)) = A
          grind
        rw [e]
        exact Dv.zero _
      · exact hJ N (by omega) (by omega)
    obtain ⟨c1, hc1⟩ := hN1
    have hd : Dlt (f - mnm (f.1 N) 0 * mnm 1 N) N := fun j hj => by
      rw [pl_sub, mnm_mul, if_pos (Nat.zero_le _), Nat.sub_zero]
      show f.1 j - f.1 N * (if j = N then 1 else 0) = 0
      by_cases z : j = N
      · rw [if_pos z, z]
        grind
      · rw [if_neg z, hf j (by omega)]
        grind
    obtain ⟨c2, hc2⟩ := ih (by omega) _ hd
    refine ⟨c2 + f.1 N * c1, ?_⟩
    have e1 : f = (f - mnm (f.1 N) 0 * mnm 1 N) + mnm (f.1 N) 0 * mnm 1 N := by
      generalize (mnm (f.1 N) 0 * mnm 1 N : PL (KT q)) = A
      grind
    have e2 : trq q k f = trq q k (f - mnm (f.1 N) 0 * mnm 1 N) + mnm (f.1 N) 0 * trq q k (mnm 1 N) := by
      rw [← trq_mul (hcf (f.1 N)), ← trq_add hch, ← e1]
    have h5 := Dv.add hc2 (Dv.mul hc1 (mnm (f.1 N) 0))
    have e3 : (mnm (c2 + f.1 N * c1) 0 : PL (KT q)) = mnm c2 0 + mnm (f.1 N) 0 * mnm c1 0 := by
      rw [hma, mnm_mn]
    rw [e2, e3]
    generalize trq q k (f - mnm (f.1 N) 0 * mnm 1 N) = A at *
    generalize trq q k (mnm 1 N : PL (KT q)) = B at *
    generalize (mnm (f.1 N) 0 : PL (KT q)) = D at *
    generalize (mnm c1 0 : PL (KT q)) = E at *
    generalize (mnm c2 0 : PL (KT q)) = G at *
    have e4 : A - G + D * (B - E) = A + D * B - (G + D * E) := by grind
    rw [e4] at h5
    exact h5
/-- a piece with all traces constant is not to be divided -/
theorem cj_irr (w : Wd q m d n) {C k u top : Nat} (hC : CK w C k) (hl : ln q 13 C = top + 1) (hu : Mn q u) (hu2 : 2 ≤ ln q 13 u) (hd : letI := kR (wd_q w); Dv (Pn w u) (Pn w C)) (hJ : ∀ j, 1 ≤ j → j < top → CJ w k u j) : Irn w u ∧ ln q 13 u = k + 1 := by
  letI := kR (wd_q w)
  letI := plR (KT q)
  have h2 := w.q2
  have hR := q_ne w
  have hI := q_ivs w
  have hle := ln_le q 13 C
  have hch := pl_chq (fq_chq w)
  obtain ⟨p1, e1, hp1, hd1⟩ := irr_ex hR _ _ (mn_pn w hu) (by omega)
  have ek1 := hC.2.2.2 p1 e1 hp1 (hd1.trans hd)
  subst ek1
  obtain ⟨x, hx⟩ := hd1
  obtain ⟨q1, q2⟩ := mnc_quo hR hp1.1 (mn_pn w hu) hx
  have key : ln q 13 u - 1 - e1 = 0 := by
    apply Classical.byContradiction
    intro hne
    obtain ⟨p2, e2, hp2, hd2⟩ := irr_ex hR _ _ q2 (by omega)
    have hd2u : Dv p2 (Pn w u) := by
      rw [hx]
      exact Dv.mulr hd2 p1
    have ek2 := hC.2.2.2 p2 e2 hp2 (hd2u.trans hd)
    subst ek2
    have hk1 := hp1.2.1
    have hpp : Dv (p2 * p1) (Pn w u) := by
      obtain ⟨y, hy⟩ := hd2
      exact ⟨y, by rw [hx, hy]; grind⟩
    have hneq : p2 ≠ p1 := fun z => by
      rw [z] at hpp
      exact ck_sq w hC hp1 (hpp.trans hd)
    have hdeg := mnc_dvle hR (hp2.1.mul hp1.1) (mn_pn w hC.1) (hpp.trans hd)
    letI := qrR p2
    -- 1 out of both
    obtain ⟨a, b, hab⟩ := bez (R := KT q) hI (a := p2) (b := p1) hp2.1 (fun f K hf h3 h5 => by
      rcases hp2.2.2 f K hf h3 with z | z
      · exact z
      · subst z
        have e3 := mnc_dveq hR hf hp2.1 h3
        rw [e3] at h5
        exact absurd (irr_eq hR hp2 hp1 h5) hneq)
    obtain ⟨y, hy⟩ := trq_ne w hp2 (by omega)
    obtain ⟨g, rfl⟩ := tq_rep y
    obtain ⟨M, hM⟩ := Dlt.ex (b * g)
    obtain ⟨s, h, hs1, hs2⟩ := pl_div hp2.1 M (b * g) hM
    have hdl : Dlt (p1 * h) (e2 + e2) := by
      obtain ⟨j, hj⟩ : ∃ j, e2 = j + 1 := ⟨e2 - 1, by omega⟩
      rw [hj] at hs2
      have := hp1.1.2.mul hs2
      exact this.mono (by omega)
    obtain ⟨c, hc⟩ := cj_all w hJ (e2 + e2) (by omega) (p1 * h) hdl
    have hp1u : Dv p1 (Pn w u) := ⟨x, hx⟩
    have hz1 : Dv p1 (trq q e2 (p1 * h)) := by
      letI := qrR p1
      have e3 : tq p1 (p1 * h) = 0 := tq_dv.mpr (Dv.self_l p1 h)
      have e4 : tq p1 (trq q e2 (p1 * h)) = 0 := by rw [tq_trq, e3, trq_0 (qr_chq (fq_chq w) p1)]
      exact tq_dv.mp e4
    have hcz : (mnm c 0 : PL (KT q)) = 0 := by
      refine dv_small hp1.1 (fun i hi => if_neg (by omega)) ?_
      have h5 := Dv.sub hz1 (hp1u.trans hc)
      have e3 : trq q e2 (p1 * h) - (trq q e2 (p1 * h) - mnm c 0) = mnm c 0 := by
        generalize trq q e2 (p1 * h) = A
        generalize (mnm c 0 : PL (KT q)) = B
        grind
      rw [e3] at h5
      exact h5
    have h7 : Dv p2 (trq q e2 (p1 * h)) := by
      have h5 := hd2u.trans hc
      rw [hcz] at h5
      have e3 : trq q e2 (p1 * h) - 0 = trq q e2 (p1 * h) := by
        generalize trq q e2 (p1 * h) = A
        grind
      rw [e3] at h5
      exact h5
    apply hy
    have e5 : tq p2 g = tq p2 (p1 * h) := by
      rw [tq_eq]
      have e6 : g - p1 * h = (a * g + p1 * s) * p2 := by
        have e7 : h = b * g - s * p2 := by grind
        have e8 : g = (a * p2 + b * p1) * g := by
          rw [hab]
          grind
        rw [e7]
        grind
      exact ⟨_, e6⟩
    rw [e5, ← tq_trq, tq_dv]
    exact h7
  rw [key] at q2
  have e3 : Pn w u = p1 := by
    rw [hx, mnc_1 q2]
    grind
  have e4 : ln q 13 u - 1 = e1 := by omega
  refine ⟨⟨hu, hu2, ?_⟩, by omega⟩
  rw [e3, e4]
  exact hp1
theorem spU_ok (w : Wd q m d n) {C k : Nat} (hC : CK w C k) : (∀ i, i < (spU q k C).1 → Irn w ((spU q k C).2 i) ∧ ln q 13 ((spU q k C).2 i) = k + 1) ∧ pp w (spU q k C).2 0 (spU q k C).1 = Pn w C := by
  letI := kR (wd_q w)
  letI := plR (KT q)
  have h2 := w.q2
  have hR := q_ne w
  have hmC := mn_pn w hC.1
  have e0 : spU q k C = if ln q 13 C - 1 < k then (0, fun _ => C) else spO q k C (ln q 13 C - 1) (ln q 13 C - 1 - 1) 1 1 (fun _ => C) := rfl
  rw [e0]
  by_cases c : ln q 13 C - 1 < k
  · rw [if_pos c]
    refine ⟨fun i hi => absurd hi (Nat.not_lt_zero _), ?_⟩
    have hz : ln q 13 C - 1 = 0 := by
      apply Classical.byContradiction
      intro z
      obtain ⟨p, e, hp, hd⟩ := irr_ex hR _ _ hmC (by omega)
      have h1 := hC.2.2.2 p e hp hd
      have h3 := mnc_dvle hR hp.1 hmC hd
      omega
    rw [hz] at hmC
    exact (mnc_1 hmC).symm
  · rw [if_neg c]
    have hk := hC.2.1
    obtain ⟨top, htop⟩ : ∃ top, ln q 13 C = top + 1 := ⟨ln q 13 C - 1, by omega⟩
    rw [htop, Nat.add_sub_cancel] at c ⊢
    have hP : Pcs w C 1 (fun _ => C) := by
      refine ⟨fun i _ => ⟨hC.1, show 2 ≤ ln q 13 C by omega⟩, ?_⟩
      show Pn w C * 1 = Pn w C
      grind
    have h1t : 1 < q ^ top := by
      have : q ^ 1 ≤ q ^ top := Nat.pow_le_pow_right (by omega) (by omega)
      rw [Nat.pow_one] at this
      omega
    obtain ⟨a1, a2⟩ := spO_ok w hC htop (top - 1) 0 1 1 (fun _ => C) (by omega) h1t (by
      rw [pn_1 w]
      have e : (1 : PL (KT q)) - mnm 1 0 = 0 := by
        have e1 : (mnm 1 0 : PL (KT q)) = 1 := rfl
        rw [e1]
        grind
      rw [e]
      exact Dv.zero _) hP (fun u _ j h1 h3 => absurd h1 (by omega))
    generalize spO q k C top (top - 1) 1 1 (fun _ => C) = R at *
    obtain ⟨L, f⟩ := R
    dsimp only at a1 a2 ⊢
    have hdv : ∀ i, i < L → Dv (Pn w (f i)) (Pn w C) := fun i hi => by
      rw [← a1.2]
      have := pcs_dv w (f := f) (i := i) L 0 hi
      rw [Nat.zero_add] at this
      exact this
    refine ⟨fun i hi => ?_, a1.2⟩
    obtain ⟨u1, u2⟩ := a1.1 i hi
    rcases a2 with z | z
    · have hge : ∀ i, i < L → Mn q (f i) ∧ k + 1 ≤ ln q 13 (f i) := fun i hi => by
        obtain ⟨v1, v2⟩ := a1.1 i hi
        obtain ⟨p, e, hp, hd⟩ := irr_ex hR _ _ (mn_pn w v1) (by omega)
        have h1 := hC.2.2.2 p e hp (hd.trans (hdv i hi))
        have h3 := mnc_dvle hR hp.1 (mn_pn w v1) hd
        exact ⟨v1, by omega⟩
      obtain ⟨D, d1, d2, d3⟩ := pp_deg w (k := k) (f := f) L 0 (fun i hi => by
        rw [Nat.zero_add]
        exact hge i hi)
      rw [a1.2] at d1
      have e := mnc_deg hR d1 hmC
      have h3 := d3 i hi
      rw [Nat.zero_add] at h3
      have h5 := (hge i hi).2
      obtain ⟨p, e1, hp, hd⟩ := irr_ex hR _ _ (mn_pn w u1) (by omega)
      have h6 := hC.2.2.2 p e1 hp (hd.trans (hdv i hi))
      have hlk : ln q 13 (f i) = k + 1 := by omega
      subst h6
      have e2 : ln q 13 (f i) - 1 = e1 := by omega
      have h8 := mn_pn w u1
      rw [e2] at h8
      have h7 : p = Pn w (f i) := mnc_dveq hR hp.1 h8 hd
      refine ⟨⟨u1, u2, ?_⟩, hlk⟩
      rw [e2, ← h7]
      exact hp
    · exact cj_irr w hC htop u1 u2 (hdv i hi) (z i hi)
end SPE
