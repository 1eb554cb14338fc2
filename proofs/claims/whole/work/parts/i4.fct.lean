/-! factors: the class's are the reference's -/
section FCT
variable {q m d n : Nat}
/-- a, with the primes found already, is A -/
def Fst0 (w : Wd q m d n) (A a L : Nat) (f : Nat → Nat) : Prop := Mn q a ∧ (∀ i, i < L → Irn w (f i)) ∧ letI := kR (wd_q w); letI := plR (KT q); pp w f 0 L * Pn w a = Pn w A
theorem Fst0.len (w : Wd q m d n) {A a L : Nat} {f : Nat → Nat} (hA : Mn q A) (h : Fst0 w A a L f) : L + ln q 13 a ≤ ln q 13 A := by
  letI := kR (wd_q w)
  letI := plR (KT q)
  obtain ⟨h1, h3, h5⟩ := h
  obtain ⟨D, d1, d2, -⟩ := pp_deg w (k := 1) (f := f) L 0 (fun i hi => by
    rw [Nat.zero_add]
    exact ⟨(h3 i hi).1, (h3 i hi).2.1⟩)
  have h7 := d1.mul (mn_pn w h1)
  rw [h5] at h7
  have e := mnc_deg (q_ne w) h7 (mn_pn w hA)
  have p1 := ln_pos h1.lt13 (h1.pos w.q2)
  have p2 := ln_pos hA.lt13 (hA.pos w.q2)
  omega
theorem tkf_ok (w : Wd q m d n) {A p : Nat} (hA : Mn q A) (hp : Irn w p) : ∀ r a L f, ln q 13 a ≤ r → Fst0 w A a L f → Fst0 w A (tkf q p r a L f).1 (tkf q p r a L f).2.1 (tkf q p r a L f).2.2 ∧ (letI := kR (wd_q w); ¬ Dv (Pn w p) (Pn w (tkf q p r a L f).1)) ∧ letI := kR (wd_q w); Dv (Pn w (tkf q p r a L f).1) (Pn w a) := by
  letI := kR (wd_q w)
  letI := plR (KT q)
  have h2 := w.q2
  intro r
  induction r with
  | zero =>
    intro a L f hl h
    have := ln_pos h.1.lt13 (h.1.pos h2)
    omega
  | succ r ih =>
    intro a L f hl h
    have e1 : tkf q p (r + 1) a L f = if rst q a p = 0 then (if L < 13 then tkf q p r (quo q a p) (L + 1) (up1 f L p) else tkf q p r (quo q a p) L f) else (a, L, f) := rfl
    rw [e1]
    by_cases c : rst q a p = 0
    · obtain ⟨c1, c2, c3, c4⟩ := cof w h.1 hp.1 c
      have hlen := h.len w hA
      have hA13 := ln_le q 13 A
      have hp2 := hp.2.1
      have hqe := quo_dv w h.1.lt13 hp.1 c
      rw [if_pos c, if_pos (by omega)]
      obtain ⟨i1, i2, i3⟩ := ih (quo q a p) (L + 1) (up1 f L p) (by omega) ⟨c1, fun i hi => by
        show Irn w (if i = L then p else f i)
        by_cases z : i = L
        · rw [if_pos z]
          exact hp
        · rw [if_neg z]
          exact h.2.1 i (by omega), by
        have e5 : up1 f L p L = p := if_pos rfl
        have e6 : pp w (up1 f L p) 0 L = pp w f 0 L := pp_cg w L 0 (fun j hj => if_neg (by omega))
        rw [pp_last, Nat.zero_add, e5, e6, ← h.2.2, hqe]
        generalize pp w f 0 L = X
        generalize Pn w p = Y
        generalize Pn w (quo q a p) = Z
        grind⟩
      exact ⟨i1, i2, i3.trans ((rst_0 w h.1.lt13 c1).mp c4)⟩
    · rw [if_neg c]
      exact ⟨h, fun z => c ((rst_0 w h.1.lt13 hp.1).mpr z), Dv.refl _⟩
theorem tka_ok (w : Wd q m d n) {A : Nat} {g : Nat → Nat} (hA : Mn q A) : ∀ r i a L f, (∀ j, j < i + r → Irn w (g j)) → Fst0 w A a L f → (letI := kR (wd_q w); ∀ j, j < i → ¬ Dv (Pn w (g j)) (Pn w a)) → Fst0 w A (tka q g r i a L f).1 (tka q g r i a L f).2.1 (tka q g r i a L f).2.2 ∧ (letI := kR (wd_q w); ∀ j, j < i + r → ¬ Dv (Pn w (g j)) (Pn w (tka q g r i a L f).1)) ∧ letI := kR (wd_q w); Dv (Pn w (tka q g r i a L f).1) (Pn w a) := by
  letI := kR (wd_q w)
  letI := plR (KT q)
  intro r
  induction r with
  | zero => exact fun i a L f _ h h1 => ⟨h, h1, Dv.refl _⟩
  | succ r ih =>
    intro i a L f hg h h1
    obtain ⟨a1, a2, a3⟩ := tkf_ok w hA (hg i (by omega)) 13 a L f (ln_le q 13 a) h
    obtain ⟨b1, b2, b3⟩ := ih (i + 1) _ _ _ (fun j hj => hg j (by omega)) a1 (fun j hj hd => by
      by_cases z : j = i
      · rw [z] at hd
        exact a2 hd
      · exact h1 j (by omega) (hd.trans a3))
    exact ⟨b1, fun j hj => b2 j (by omega), b3.trans a3⟩
/-- what is left at the end -/
theorem left_ok (w : Wd q m d n) {a k : Nat} (ha : Mn q a) (hk : letI := kR (wd_q w); ∀ p e, Irr p e → Dv p (Pn w a) → k ≤ e) (hl : ln q 13 a < 2 * k + 1) (h1 : 2 ≤ ln q 13 a) : Irn w a := by
  letI := kR (wd_q w)
  letI := plR (KT q)
  have hR := q_ne w
  have hm := mn_pn w ha
  obtain ⟨p, e, hp, hd⟩ := irr_ex hR _ _ hm (by omega)
  have hke := hk p e hp hd
  obtain ⟨x, hx⟩ := hd
  obtain ⟨q1, q2⟩ := mnc_quo hR hp.1 hm hx
  by_cases c : ln q 13 a - 1 - e = 0
  · rw [c] at q2
    have e3 : Pn w a = p := by
      rw [hx, mnc_1 q2]
      grind
    have e4 : ln q 13 a - 1 = e := by omega
    refine ⟨ha, h1, ?_⟩
    rw [e3, e4]
    exact hp
  · exfalso
    obtain ⟨p2, e2, hp2, hd2⟩ := irr_ex hR _ _ q2 (by omega)
    have h3 := mnc_dvle hR hp2.1 q2 hd2
    have h5 := hk p2 e2 hp2 (by
      rw [hx]
      exact Dv.mulr hd2 p)
    omega
theorem fdo_ok (w : Wd q m d n) {A : Nat} (hA : Mn q A) : ∀ r k a t L f, r + k = 7 → 1 ≤ k → t < q ^ 13 → Fst0 w A a L f → (letI := kR (wd_q w); letI := plR (KT q); Dv (Pn w a) (Pn w t - mnm 1 (q ^ (k - 1)))) → (letI := kR (wd_q w); ∀ p e, Irr p e → Dv p (Pn w a) → k ≤ e) → Fst0 w A (fdo q r k a t L f).1 (fdo q r k a t L f).2.1 (fdo q r k a t L f).2.2 ∧ (2 ≤ ln q 13 (fdo q r k a t L f).1 → Irn w (fdo q r k a t L f).1) := by
  letI := kR (wd_q w)
  letI := plR (KT q)
  have h2 := w.q2
  have hR := q_ne w
  intro r
  induction r with
  | zero =>
    intro k a t L f hk _ _ h _ hmin
    have := ln_le q 13 a
    exact ⟨h, fun h1 => left_ok w h.1 hmin (show ln q 13 a < 2 * k + 1 by omega) h1⟩
  | succ r ih =>
    intro k a t L f hk hk1 ht h htd hmin
    have e1 : fdo q (r + 1) k a t L f = if ln q 13 a < 2 * k + 1 then (a, L, f) else
      fdo q r (k + 1) (tka q (spU q k (fdC q a t)).2 (spU q k (fdC q a t)).1 0 a L f).1 (fdT q a t)
        (tka q (spU q k (fdC q a t)).2 (spU q k (fdC q a t)).1 0 a L f).2.1 (tka q (spU q k (fdC q a t)).2 (spU q k (fdC q a t)).1 0 a L f).2.2 := rfl
    rw [e1]
    by_cases c : ln q 13 a < 2 * k + 1
    · rw [if_pos c]
      exact ⟨h, fun h1 => left_ok w h.1 hmin c h1⟩
    · rw [if_neg c]
      have ha := h.1
      have ha13 := ha.lt13
      have hle := ln_le q 13 a
      obtain ⟨top, htop⟩ : ∃ top, ln q 13 a = top + 1 := ⟨ln q 13 a - 1, by omega⟩
      have ha1 : dg q a top = 1 := by
        obtain ⟨j, j1, j2, j3⟩ := ha
        have : j = top := by omega
        rw [← this]
        exact j2
      have hr1 := rst_small w.hq ht ha13 (ha.pos h2)
      rw [htop, Nat.add_sub_cancel] at hr1
      have hT13 : fdT q a t < q ^ 13 := Nat.lt_of_lt_of_le (tby_lt h2 htop ha13 ha1 hr1) (Nat.pow_le_pow_right (by omega) (by omega))
      have hTd : Dv (Pn w a) (Pn w (fdT q a t) - mnm 1 (q ^ k)) := by
        letI := qrR (Pn w a)
        have h5 := tby_tq w htop ha13 ha1 hr1
        have h6 : tq (Pn w a) (Pn w (rst q t a)) = tq (Pn w a) (mnm 1 (q ^ (k - 1))) := by
          have h7 := Dv.sub htd (rst_dv w (a := t) ha13)
          rw [tq_eq]
          have e : Pn w t - mnm 1 (q ^ (k - 1)) - (Pn w t - Pn w (rst q t a)) = Pn w (rst q t a) - mnm 1 (q ^ (k - 1)) := by
            generalize (mnm 1 (q ^ (k - 1)) : PL (KT q)) = X
            grind
          rw [e] at h7
          exact h7
        rw [h6] at h5
        have h8 : frq q (tq (Pn w a) (mnm 1 (q ^ (k - 1)))) = tq (Pn w a) (mnm 1 (q ^ k)) := by
          have e : frq q (tq (Pn w a) (mnm 1 (q ^ (k - 1)))) = tq (Pn w a) ((mnm 1 (q ^ (k - 1)) : PL (KT q)) ^ q) := (tq_pow _ _ q).symm
          rw [e, ← mnm_pow (q ^ (k - 1)), pow_mulp, ← Nat.pow_succ, show (k - 1).succ = k by omega, mnm_pow]
        rw [h8] at h5
        exact tq_eq.mp h5
      have hXq : Pn w q = mnm 1 1 := by
        have := pn_pow w (k := 1) (by omega)
        rw [Nat.pow_one] at this
        exact this
      obtain ⟨g1, g2, g3⟩ := gcn_dv w (a := a) (b := cmb q (q - 1) 13 (fdT q a t) q) ha13 (cmb_lt _ h2 13 _ _) (Or.inl (ha.pos h2))
      have eC : gcn q a (cmb q (q - 1) 13 (fdT q a t) q) = fdC q a t := rfl
      rw [eC] at g1 g2 g3
      rw [pn_sub w, hXq] at g2 g3
      have hCM : Mn q (fdC q a t) := gcn_Mn w.hq ha (cmb_lt _ h2 13 _ _)
      have hsw : ∀ p, Dv p (Pn w a) → (Dv p (Pn w (fdT q a t) - mnm 1 1) ↔ Dv p (mnm 1 (q ^ k) - mnm 1 1)) := fun p hpa => by
        have h5 := hpa.trans hTd
        generalize Pn w (fdT q a t) = T at *
        generalize (mnm 1 (q ^ k) : PL (KT q)) = Y at *
        generalize (mnm 1 1 : PL (KT q)) = X at *
        refine ⟨fun h7 => ?_, fun h7 => ?_⟩
        · have h9 := Dv.sub h7 h5
          have e : T - X - (T - Y) = Y - X := by grind
          rw [e] at h9
          exact h9
        · have h9 := Dv.add h7 h5
          have e : Y - X + (T - Y) = T - X := by grind
          rw [e] at h9
          exact h9
      have hCK : CK w (fdC q a t) k := by
        refine ⟨hCM, hk1, (hsw _ g1).mp g2, fun p e hp hd => ?_⟩
        have hge := hmin p e hp (hd.trans g1)
        have hdeg := mnc_dvle hR hp.1 (mn_pn w ha) (hd.trans g1)
        have h5 := (hsw _ (hd.trans g1)).mp (hd.trans g2)
        have := (irr_fix w hp (by omega)).2 k hk1 ((fix_dv w).mpr h5)
        omega
      obtain ⟨s1, s2⟩ := spU_ok w hCK
      generalize spU q k (fdC q a t) = G at *
      obtain ⟨S, g⟩ := G
      dsimp only at s1 s2 ⊢
      obtain ⟨b1, b2, b3⟩ := tka_ok w (g := g) hA S 0 a L f (fun j hj => (s1 j (by omega)).1) h (fun j hj => absurd hj (Nat.not_lt_zero _))
      refine ih (k + 1) _ _ _ _ (by omega) (by omega) hT13 b1 ?_ (fun p e hp hd => ?_)
      · rw [Nat.add_sub_cancel]
        exact b3.trans hTd
      · have hpa := hd.trans b3
        have hge := hmin p e hp hpa
        apply Decidable.byContradiction
        intro z
        have hek : e = k := by omega
        subst hek
        have hdeg := mnc_dvle hR hp.1 (mn_pn w ha) hpa
        have h5 := (fix_dv w).mp (irr_fix w hp (by omega)).1
        have h6 := g3 p hpa ((hsw p hpa).mpr h5)
        rw [← s2] at h6
        obtain ⟨i, i1, i2⟩ := dv_pp w hp S 0 (fun i hi => by
          rw [Nat.zero_add]
          exact (s1 i hi).1) h6
        rw [Nat.zero_add] at i2
        rw [i2] at hd
        exact b2 i (by omega) hd
theorem fnu_ok (w : Wd q m d n) {a : Nat} (ha : a < q ^ 13) (h0 : 0 < a) : (∀ i, i < (fnu q a).1 → Irn w ((fnu q a).2 i)) ∧ pp w (fnu q a).2 0 (fnu q a).1 = Pn w (mon q a) ∧ (fnu q a).1 ≤ 12 := by
  letI := kR (wd_q w)
  letI := plR (KT q)
  have h2 := w.q2
  have hA := mon_Mn w.hq ha h0
  have hq13 : q < q ^ 13 := by
    have : q ^ 1 < q ^ 13 := Nat.pow_lt_pow_right (by omega) (by omega)
    rw [Nat.pow_one] at this
    exact this
  have hXq : Pn w q = mnm 1 1 := by
    have := pn_pow w (k := 1) (by omega)
    rw [Nat.pow_one] at this
    exact this
  obtain ⟨b1, b2⟩ := fdo_ok w hA 6 1 (mon q a) q 0 (fun _ => 0) rfl (Nat.le_refl _) hq13 ⟨hA, fun i hi => absurd hi (Nat.not_lt_zero _), by
    show 1 * Pn w (mon q a) = _
    generalize Pn w (mon q a) = X
    grind⟩ (by
    rw [hXq, Nat.sub_self, Nat.pow_zero]
    have e : (mnm 1 1 : PL (KT q)) - mnm 1 1 = 0 := by
      generalize (mnm 1 1 : PL (KT q)) = X
      grind
    rw [e]
    exact Dv.zero _) (fun p e hp _ => hp.2.1)
  have e1 : fnu q a = fdE q (fdo q 6 1 (mon q a) q 0 (fun _ => 0)) := rfl
  rw [e1]
  generalize fdo q 6 1 (mon q a) q 0 (fun _ => 0) = R at *
  obtain ⟨a1, L, f⟩ := R
  dsimp only at b1 b2
  have hlen := b1.len w hA
  have hA13 := ln_le q 13 (mon q a)
  have hpos := ln_pos b1.1.lt13 (b1.1.pos h2)
  have e2 : fdE q (a1, L, f) = if ln q 13 a1 ≤ 1 then (L, f) else if L < 13 then (L + 1, up1 f L a1) else (L, f) := rfl
  rw [e2]
  by_cases c : ln q 13 a1 ≤ 1
  · rw [if_pos c]
    have h5 := mn_pn w b1.1
    rw [show ln q 13 a1 - 1 = 0 by omega] at h5
    have h6 := b1.2.2
    rw [mnc_1 h5] at h6
    refine ⟨b1.2.1, ?_, by show L ≤ 12; omega⟩
    show pp w f 0 L = _
    rw [← h6]
    generalize pp w f 0 L = X
    grind
  · rw [if_neg c, if_pos (by omega)]
    refine ⟨fun i hi => ?_, ?_, by show L + 1 ≤ 12; omega⟩
    · have hi : i < L + 1 := hi
      show Irn w (if i = L then a1 else f i)
      by_cases z : i = L
      · rw [if_pos z]
        exact b2 (by omega)
      · rw [if_neg z]
        exact b1.2.1 i (by omega)
    · show pp w (up1 f L a1) 0 (L + 1) = _
      have e5 : up1 f L a1 L = a1 := if_pos rfl
      have e6 : pp w (up1 f L a1) 0 L = pp w f 0 L := pp_cg w L 0 (fun j hj => if_neg (by omega))
      rw [pp_last, Nat.zero_add, e5, e6]
      exact b1.2.2
theorem pp_swp (w : Wd q m d n) {f : Nat → Nat} {k : Nat} (hk : 1 ≤ k) (N : Nat) : ∀ o, k < o + N → (o ≤ k - 1) → pp w (swp f k) o N = pp w f o N := by
  letI := kR (wd_q w)
  letI := plR (KT q)
  induction N with
  | zero => exact fun o h1 h3 => by omega
  | succ N ih =>
    intro o h1 h3
    rw [pp_s, pp_s]
    by_cases c : o = k - 1
    · obtain ⟨N, rfl⟩ : ∃ N1, N = N1 + 1 := ⟨N - 1, by omega⟩
      rw [pp_s, pp_s]
      have e1 : swp f k o = f (o + 1) := by
        show (if o = k - 1 then f k else _) = _
        rw [if_pos c, show o + 1 = k by omega]
      have e2 : swp f k (o + 1) = f o := by
        show (if o + 1 = k - 1 then f k else if o + 1 = k then f (k - 1) else f (o + 1)) = _
        rw [if_neg (by omega), if_pos (by omega), c]
      have e3 : pp w (swp f k) (o + 1 + 1) N = pp w f (o + 1 + 1) N := pp_cg w N _ (fun j _ => by
        show (if o + 1 + 1 + j = k - 1 then f k else if o + 1 + 1 + j = k then f (k - 1) else f (o + 1 + 1 + j)) = _
        rw [if_neg (by omega), if_neg (by omega)])
      rw [e1, e2, e3]
      generalize pp w f (o + 1 + 1) N = X
      generalize Pn w (f o) = Y
      generalize Pn w (f (o + 1)) = Z
      grind
    · have e1 : swp f k o = f o := by
        show (if o = k - 1 then f k else if o = k then f (k - 1) else f o) = _
        rw [if_neg c, if_neg (by omega)]
      rw [e1, ih (o + 1) (by omega) (by omega)]
theorem srI_ok (w : Wd q m d n) {N : Nat} (k : Nat) : ∀ f : Nat → Nat, k < N → (∀ i j, i ≤ j → j < k → f i ≤ f j) → (∀ i j, i ≤ j → j < k + 1 → srI k f i ≤ srI k f j) ∧ pp w (srI k f) 0 N = pp w f 0 N ∧ (∀ P : Nat → Prop, ∀ M, k + 1 ≤ M → (∀ i, i < M → P (f i)) → ∀ i, i < M → P (srI k f i)) ∧ ∀ i, k < i → srI k f i = f i := by
  induction k with
  | zero =>
    intro f _ _
    refine ⟨fun i j h1 h3 => ?_, rfl, fun P M _ h => h, fun i _ => rfl⟩
    have e1 : i = 0 := by omega
    have e2 : j = 0 := by omega
    rw [e1, e2]
    exact Nat.le_refl _
  | succ k ih =>
    intro f hk hs1
    have e1 : srI (k + 1) f = if f k ≤ f (k + 1) then f else srI k (swp f (k + 1)) := rfl
    rw [e1]
    by_cases c : f k ≤ f (k + 1)
    · rw [if_pos c]
      refine ⟨fun i j h1 h3 => ?_, rfl, fun P M _ h => h, fun i _ => rfl⟩
      by_cases z : j = k + 1
      · by_cases z1 : i = k + 1
        · rw [z, z1]
          exact Nat.le_refl _
        · rw [z]
          exact Nat.le_trans (hs1 i k (by omega) (by omega)) c
      · exact hs1 i j h1 (by omega)
    · rw [if_neg c]
      have sv : ∀ i, i < k → swp f (k + 1) i = f i := fun i hi => by
        show (if i = k + 1 - 1 then f (k + 1) else if i = k + 1 then f (k + 1 - 1) else f i) = _
        rw [if_neg (by omega), if_neg (by omega)]
      have s0 : swp f (k + 1) k = f (k + 1) := by
        show (if k = k + 1 - 1 then f (k + 1) else _) = _
        rw [if_pos (by omega)]
      have s1 : swp f (k + 1) (k + 1) = f k := by
        show (if k + 1 = k + 1 - 1 then f (k + 1) else if k + 1 = k + 1 then f (k + 1 - 1) else f (k + 1)) = _
        rw [if_neg (by omega), if_pos rfl, Nat.add_sub_cancel]
      have sb : ∀ i, k + 1 < i → swp f (k + 1) i = f i := fun i hi => by
        show (if i = k + 1 - 1 then f (k + 1) else if i = k + 1 then f (k + 1 - 1) else f i) = _
        rw [if_neg (by omega), if_neg (by omega)]
      obtain ⟨a1, a2, a3, a4⟩ := ih (swp f (k + 1)) (by omega) (fun i j h1 h3 => by
        rw [sv i (by omega), sv j h3]
        exact hs1 i j h1 (by omega))
      refine ⟨fun i j h1 h3 => ?_, ?_, fun P M hM h => ?_, fun i hi => ?_⟩
      · by_cases z : j = k + 1
        · by_cases z1 : i = k + 1
          · rw [z, z1]
            exact Nat.le_refl _
          · rw [z, a4 (k + 1) (by omega), s1]
            refine a3 (fun v => v ≤ f k) (k + 1) (Nat.le_refl _) (fun i hi => ?_) i (by omega)
            by_cases z2 : i = k
            · rw [z2, s0]
              omega
            · rw [sv i (by omega)]
              exact hs1 i k (by omega) (by omega)
        · exact a1 i j h1 (by omega)
      · rw [a2]
        exact pp_swp w (by omega) N 0 (by omega) (Nat.zero_le _)
      · refine a3 P M (by omega) (fun i hi => ?_)
        by_cases z : i = k
        · rw [z, s0]
          exact h (k + 1) (by omega)
        · by_cases z1 : i = k + 1
          · rw [z1, s1]
            exact h k (by omega)
          · by_cases z2 : i < k
            · rw [sv i z2]
              exact h i hi
            · rw [sb i (by omega)]
              exact h i hi
      · rw [a4 i (by omega)]
        exact sb i hi
theorem srO_ok (w : Wd q m d n) {N : Nat} : ∀ r i (f : Nat → Nat), i + r = N → (∀ a b, a ≤ b → b < i → f a ≤ f b) → (∀ a b, a ≤ b → b < N → srO r i f a ≤ srO r i f b) ∧ pp w (srO r i f) 0 N = pp w f 0 N ∧ ∀ P : Nat → Prop, (∀ j, j < N → P (f j)) → ∀ j, j < N → P (srO r i f j) := by
  intro r
  induction r with
  | zero =>
    intro i f hi hs1
    have : i = N := by omega
    subst this
    exact ⟨hs1, rfl, fun P h => h⟩
  | succ r ih =>
    intro i f hi hs1
    obtain ⟨a1, a2, a3, -⟩ := srI_ok w (N := N) i f (by omega) hs1
    obtain ⟨b1, b2, b3⟩ := ih (i + 1) (srI i f) (by omega) a1
    exact ⟨b1, b2.trans a2, fun P h => b3 P (a3 P N (by omega) h)⟩
/-- the class's factors: sorted primes whose product it is -/
theorem fnd_ok (w : Wd q m d n) {a : Nat} (ha : a < q ^ 13) (h0 : 0 < a) : (∀ i, i < (fnd q a).1 → Irn w ((fnd q a).2 i)) ∧ (∀ i j, i ≤ j → j < (fnd q a).1 → (fnd q a).2 i ≤ (fnd q a).2 j) ∧ pp w (fnd q a).2 0 (fnd q a).1 = Pn w (mon q a) ∧ (fnd q a).1 ≤ 12 := by
  obtain ⟨a1, a2, a3⟩ := fnu_ok w ha h0
  have e : fnd q a = ((fnu q a).1, srO ((fnu q a).1 - 1) 1 (fnu q a).2) := rfl
  rw [e]
  dsimp only
  by_cases c : (fnu q a).1 = 0
  · rw [c]
    rw [c] at a2
    exact ⟨fun i hi => absurd hi (Nat.not_lt_zero _), fun i j _ hj => absurd hj (Nat.not_lt_zero _), a2, by omega⟩
  · obtain ⟨b1, b2, b3⟩ := srO_ok w (N := (fnu q a).1) ((fnu q a).1 - 1) 1 (fnu q a).2 (by omega) (fun i j h1 h3 => by
      have e1 : i = 0 := by omega
      have e2 : j = 0 := by omega
      rw [e1, e2]
      exact Nat.le_refl _)
    exact ⟨b3 _ a1, b1, b2.trans a2, a3⟩
end FCT
theorem wdq {q : Nat} (hq : q = 2 ∨ q = 3 ∨ q = 5) : Wd q q 1 q := by
  rcases hq with rfl | rfl | rfl
  · exact ⟨by omega, by decide, by decide, by decide, by omega, by omega, by omega⟩
  · exact ⟨by omega, by decide, by decide, by decide, by omega, by omega, by omega⟩
  · exact ⟨by omega, by decide, by decide, by decide, by omega, by omega, by omega⟩
theorem fctOK : FctOK := fun q a v hq ha h0 hv => by
  have w := wdq hq
  have h2 := w.q2
  obtain ⟨f1, f2, f3, f4⟩ := fnd_ok w ha h0
  have sz : ∀ i, 0 + i = i := Nat.zero_add
  obtain ⟨m1, m2, m3⟩ := mfc_all w (v := v) (F := (fnd q a).2) (fnd q a).1 14 0 (mon q a) (by omega) (by omega) (mon_Mn hq ha h0) (fun i hi => by
    rw [sz]
    exact f1 i hi) (fun i j hij hj => by
    rw [sz, sz]
    exact f2 i j hij hj) f3.symm
  refine ⟨fun z => ?_, fun z hn => m2 z (fun i hi hiv => ?_), fun i z hs1 => ?_⟩
  · rw [m1 z, sz]
  · rw [sz] at hiv
    rw [← hiv, asN_nI (by omega), if_pos hi] at hn
    cases hn
  · obtain ⟨e1, e2, e3⟩ := asN_some hs1
    have := m3 i e2 (by rw [sz]; exact e1.symm)
    rw [sz] at this
    exact this
