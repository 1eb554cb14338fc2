/-! symbols: SymOK -/
/-- 1 + q + .. -/
def gsm (q : Nat) : Nat → Nat
  | 0 => 0
  | e + 1 => gsm q e + q ^ e
theorem gsm_mul {q : Nat} (h2 : 2 ≤ q) (e : Nat) : gsm q e * (q - 1) + 1 = q ^ e := by
  induction e with
  | zero =>
    show 0 * (q - 1) + 1 = q ^ 0
    rw [Nat.zero_mul, Nat.pow_zero]
  | succ e ih =>
    show (gsm q e + q ^ e) * (q - 1) + 1 = q ^ (e + 1)
    rw [Nat.add_mul, Nat.pow_succ]
    have h3 : q ^ e * q = q ^ e * (q - 1) + q ^ e := by
      rw [← Nat.mul_succ]
      congr 1
      omega
    omega
theorem gsm_div {q : Nat} (h2 : 2 ≤ q) (e : Nat) : (q ^ e - 1) / (q - 1) = gsm q e := by
  have h := gsm_mul h2 e
  rw [show q ^ e - 1 = gsm q e * (q - 1) by omega, Nat.mul_div_cancel _ (by omega)]
theorem prf_gsm {S : Type} [Lean.Grind.CommRing S] (q : Nat) (x : S) (e : Nat) : prf (fun i => itg (frq q) i x) e = x ^ gsm q e := by
  induction e with
  | zero =>
    show (1 : S) = x ^ 0
    grind
  | succ e ih =>
    have e1 := Lean.Grind.Semiring.pow_add x (gsm q e) (q ^ e)
    rw [prf_s, ih, fri_pow]
    exact e1.symm
theorem rg_e5 {S : Type} [Lean.Grind.CommRing S] (s y z x : S) : s * y * z * x = s * (z * (y * x)) := by grind
section SYM
variable {q m d n : Nat}
theorem rst_tq (w : Wd q m d n) {a p : Nat} (hp : p < q ^ 13) : letI := kR (wd_q w); tq (Pn w p) (Pn w (rst q a p)) = tq (Pn w p) (Pn w a) := by
  letI := kR (wd_q w)
  exact (tq_eq.mpr (rst_dv w hp)).symm
theorem msl_ok (w : Wd q m d n) {p e : Nat} (hp : Mn q p) (he : ln q 13 p = e + 1) (he6 : e ≤ 6) : ∀ r k y v, k < 2 ^ r → y < q ^ e → v < q ^ e → letI := kR (wd_q w); letI := qrR (Pn w p); tq (Pn w p) (Pn w (msl q p r k y v)) = tq (Pn w p) (Pn w v) * tq (Pn w p) (Pn w y) ^ k ∧ msl q p r k y v < q ^ e := by
  letI := kR (wd_q w)
  letI := plR (KT q)
  letI := qrR (Pn w p)
  have h2 := w.q2
  have hp13 := hp.lt13
  have up : ∀ z, z < q ^ e → z < q ^ 13 := fun z hz => Nat.lt_of_lt_of_le hz (Nat.pow_le_pow_right (by omega) (by omega))
  have hmul : ∀ x y, x < q ^ e → y < q ^ e → rst q (prd q x y) p < q ^ e ∧ tq (Pn w p) (Pn w (rst q (prd q x y) p)) = tq (Pn w p) (Pn w x) * tq (Pn w p) (Pn w y) := fun x y hx hy => by
    have l1 := ln_le_lt (m := 13) h2 hx
    have l2 := ln_le_lt (m := 13) h2 hy
    have h13 := prd_lt13 h2 (up x hx) (up y hy) (by omega)
    have h5 := rst_small w.hq h13 hp13 (hp.pos h2)
    rw [he, Nat.add_sub_cancel] at h5
    refine ⟨h5, ?_⟩
    rw [rst_tq w hp13, pn_mul w (up x hx) (up y hy) (by omega), tq_mul]
  intro r
  induction r with
  | zero =>
    intro k y v hk hy hv
    have : k = 0 := by
      rw [Nat.pow_zero] at hk
      omega
    subst this
    refine ⟨?_, hv⟩
    show tq (Pn w p) (Pn w v) = _
    generalize tq (Pn w p) (Pn w v) = A
    generalize tq (Pn w p) (Pn w y) = B
    clear hmul
    grind
  | succ r ih =>
    intro k y v hk hy hv
    have e1 : msl q p (r + 1) k y v = if k = 0 then v else msl q p r (k / 2) (rst q (prd q y y) p) (if k % 2 = 1 then rst q (prd q v y) p else v) := rfl
    rw [e1]
    by_cases c : k = 0
    · rw [if_pos c, c]
      refine ⟨?_, hv⟩
      generalize tq (Pn w p) (Pn w v) = A
      generalize tq (Pn w p) (Pn w y) = B
      clear hmul ih
      grind
    · rw [if_neg c]
      obtain ⟨y1, y2⟩ := hmul y y hy hy
      have hk2 : k / 2 < 2 ^ r := by
        rw [Nat.pow_succ] at hk
        omega
      by_cases c1 : k % 2 = 1
      · rw [if_pos c1]
        obtain ⟨v1, v2⟩ := hmul v y hv hy
        obtain ⟨i1, i2⟩ := ih (k / 2) _ _ hk2 y1 v1
        refine ⟨?_, i2⟩
        rw [i1, v2, y2]
        obtain ⟨j, rfl⟩ : ∃ j, k = 2 * j + 1 := ⟨k / 2, by omega⟩
        rw [show (2 * j + 1) / 2 = j by omega]
        generalize tq (Pn w p) (Pn w v) = A
        generalize tq (Pn w p) (Pn w y) = B
        have e2 : (B * B) ^ j = B ^ (2 * j) := by
          rw [← pow_mulp]
          congr 1
          clear hmul ih i1 v2 y2
          grind
        rw [e2, pow_sp]
        generalize B ^ (2 * j) = C
        clear hmul ih i1 v2 y2
        grind
      · rw [if_neg c1]
        obtain ⟨i1, i2⟩ := ih (k / 2) _ _ hk2 y1 hv
        refine ⟨?_, i2⟩
        rw [i1, y2]
        obtain ⟨j, rfl⟩ : ∃ j, k = 2 * j := ⟨k / 2, by omega⟩
        rw [show (2 * j) / 2 = j by omega]
        generalize tq (Pn w p) (Pn w v) = A
        generalize tq (Pn w p) (Pn w y) = B
        have e2 : (B * B) ^ j = B ^ (2 * j) := by
          rw [← pow_mulp]
          congr 1
          clear hmul ih i1 y2
          grind
        rw [e2]
theorem mso_nm (w : Wd q m d n) {p e a : Nat} (hp : Irn w p) (he : ln q 13 p = e + 1) (he6 : e ≤ 6) (ha : a < q ^ 13) {c : KT q} (hc : NmR w (Pn w p) e (Pn w a) c) : mso q a p = c.1 := by
  letI := kR (wd_q w)
  letI := plR (KT q)
  letI := qrR (Pn w p)
  have h2 := w.q2
  have he1 : 1 ≤ e := by
    have := hp.2.1
    omega
  have hpm := mn_pn w hp.1
  rw [show ln q 13 p - 1 = e by omega] at hpm
  have hqe : q ^ 1 ≤ q ^ e := Nat.pow_le_pow_right (by omega) he1
  rw [Nat.pow_one] at hqe
  have hr := rst_small w.hq ha hp.1.lt13 (hp.1.pos h2)
  rw [he, Nat.add_sub_cancel] at hr
  have hk : gsm q e < 2 ^ 31 := by
    have h1 := gsm_mul h2 e
    have h3 : q ^ e ≤ 5 ^ 6 := by
      have h5 : q ^ e ≤ 5 ^ e := Nat.pow_le_pow_left (by have := w.hq; omega) e
      exact Nat.le_trans h5 (Nat.pow_le_pow_right (by omega) he6)
    have h7 : gsm q e ≤ gsm q e * (q - 1) := Nat.le_mul_of_pos_right _ (by omega)
    have h9 : (5 : Nat) ^ 6 < 2 ^ 31 := by decide
    omega
  obtain ⟨m1, m2⟩ := msl_ok w hp.1 he he6 31 (gsm q e) (rst q a p) 1 hk hr (by omega)
  have e1 : mso q a p = msl q p 31 (gsm q e) (rst q a p) 1 := by
    show msl q p 31 ((q ^ (ln q 13 p - 1) - 1) / (q - 1)) (rst q a p) 1 = _
    rw [show ln q 13 p - 1 = e by omega, gsm_div h2]
  rw [e1]
  refine qr_inj w hpm (by omega) m2 (Nat.lt_of_lt_of_le c.2 hqe) ?_
  have hc : prf (fun i => itg (frq q) i (tq (Pn w p) (Pn w a))) e = cst (Pn w p) c := hc
  rw [prf_gsm] at hc
  rw [m1, rst_tq w hp.1.lt13, hc, pn_1 w, pn_fig w, tq_1]
  show 1 * cst (Pn w p) c = cst (Pn w p) c
  generalize cst (Pn w p) c = A
  grind
theorem kq_mul (w : Wd q m d n) (a b : KT q) : letI := kR (wd_q w); (a * b).1 = a.1 * b.1 % q := by
  letI := kR (wd_q w)
  exact mu_fig (wd_q w) a.2 b.2
theorem prf_shl {S : Type} [Lean.Grind.CommRing S] (f : Nat → S) (o N : Nat) : prf (fun i => f (o + (i + 1))) N = prf (fun i => f (o + 1 + i)) N := prf_cg N (fun i _ => by rw [show o + (i + 1) = o + 1 + i by omega])
theorem msm_ok (w : Wd q m d n) {F : Nat → Nat} {a : Nat} (ha : a < q ^ 13) {cs : Nat → KT q} (N : Nat) : ∀ r o x (v : KT q), N ≤ r → Mn q x → (∀ i, i < N → Irn w (F (o + i)) ∧ ln q 13 (F (o + i)) ≤ 7) → (∀ i j, i ≤ j → j < N → F (o + i) ≤ F (o + j)) → Pn w x = pp w F o N → (∀ i, i < N → NmR w (Pn w (F (o + i))) (ln q 13 (F (o + i)) - 1) (Pn w a) (cs (o + i))) → letI := kR (wd_q w); msm q a r x v.1 = (v * prf (fun i => cs (o + i)) N).1 := by
  letI := kR (wd_q w)
  letI := plR (KT q)
  induction N with
  | zero =>
    intro r o x v _ hx _ _ hP _
    have e1 : v * prf (fun i => cs (o + i)) 0 = v := by
      show v * 1 = v
      grind
    rw [e1]
    cases r with
    | zero => rfl
    | succ r =>
      show (if ln q 13 x ≤ 1 then v.1 else _) = v.1
      rw [if_pos (pp_nil w hx hP)]
  | succ N ih =>
    intro r o x v hr hx hF hs1 hP hc
    obtain ⟨r, rfl⟩ : ∃ r1, r = r1 + 1 := ⟨r - 1, by omega⟩
    obtain ⟨l1, l2, l3, l4⟩ := lft_first w hx (fun i hi => (hF i hi).1) (fun i hi => by
      have := hs1 0 i (by omega) hi
      rw [Nat.add_zero] at this
      exact this) hP
    have e1 : msm q a (r + 1) x v.1 = if ln q 13 x ≤ 1 then v.1 else msm q a r (quo q x (lft q x)) (v.1 * mso q a (lft q x) % q) := rfl
    have sh : ∀ i, o + (i + 1) = o + 1 + i := fun i => by omega
    obtain ⟨f1, f2⟩ := hF 0 (by omega)
    have hc0 := hc 0 (by omega)
    rw [Nat.add_zero] at f1 f2 hc0
    have hf2 := f1.2.1
    have hm := mso_nm w f1 (e := ln q 13 (F o) - 1) (by omega) (by omega) ha hc0
    rw [e1, if_neg (by omega), l2, hm, ← kq_mul w]
    rw [ih r (o + 1) (quo q x (F o)) (v * cs o) (by omega) l3 (fun i hi => by
      rw [← sh]
      exact hF (i + 1) (by omega)) (fun i j hij hj => by
      rw [← sh, ← sh]
      exact hs1 (i + 1) (j + 1) (by omega) (by omega)) l4 (fun i hi => by
      rw [← sh]
      exact hc (i + 1) (by omega))]
    rw [prf_front, prf_shl cs o N, Nat.add_zero]
    refine congrArg Subtype.val ?_
    generalize prf (fun i => cs (o + 1 + i)) N = A
    generalize cs o = B
    clear hc hc0 ih hP l4
    grind
theorem nm_pp (w : Wd q m d n) {p : letI := kR (wd_q w); PL (KT q)} {e : Nat} {G : Nat → Nat} {u : Nat → KT q} (M : Nat) : (∀ k, k < M → NmR w p e (Pn w (G k)) (u k)) → letI := kR (wd_q w); NmR w p e (pp w G 0 M) (prf u M) := by
  letI := kR (wd_q w)
  letI := plR (KT q)
  induction M with
  | zero =>
    intro _
    have h1 := nm_cst w p e (1 : KT q)
    have e1 : (1 : KT q) ^ e = 1 := Lean.Grind.Semiring.one_pow e
    rw [e1] at h1
    exact h1
  | succ M ih =>
    intro h
    have h1 := nm_mul w (ih (fun k hk => h k (by omega))) (h M (by omega))
    rw [pp_last, Nat.zero_add]
    exact h1
theorem pp_mnc (w : Wd q m d n) {F : Nat → Nat} (N : Nat) : (∀ i, i < N → Mn q (F i)) → letI := kR (wd_q w); Mnc (pp w F 0 N) (sg (fun i => ln q 13 (F i) - 1) N) := by
  letI := kR (wd_q w)
  letI := plR (KT q)
  induction N with
  | zero => exact fun _ => Mnc.one
  | succ N ih =>
    intro h
    rw [pp_last, Nat.zero_add]
    exact (ih (fun i hi => h i (by omega))).mul (mn_pn w (h N (by omega)))
theorem prf_pws {S : Type} [Lean.Grind.CommRing S] (c : S) (g : Nat → Nat) (N : Nat) : prf (fun i => c ^ g i) N = c ^ sg g N := by
  induction N with
  | zero =>
    show (1 : S) = c ^ 0
    grind
  | succ N ih =>
    have e1 := Lean.Grind.Semiring.pow_add c (sg g N) (g N)
    rw [prf_s, ih]
    exact e1.symm
theorem smp_ok (w : Wd q m d n) (f : KT q) (k : Nat) : ∀ s : KT q, letI := kR (wd_q w); smp q f.1 k s.1 = (s * f ^ k).1 := by
  letI := kR (wd_q w)
  induction k with
  | zero =>
    intro s
    have e : s * f ^ 0 = s := by grind
    rw [e]
    rfl
  | succ k ih =>
    intro s
    show smp q f.1 k (s.1 * f.1 % q) = _
    rw [← kq_mul w, ih]
    refine congrArg Subtype.val ?_
    grind
theorem neg1_par {S : Type} [Lean.Grind.CommRing S] (N : Nat) : (-1 : S) ^ N = if N % 2 = 1 then -1 else 1 := by
  rw [← prf_cst, prf_neg1]
theorem syl_ok (w : Wd q m d n) (N0 : Nat) : ∀ a b (s : KT q), ln q 13 b ≤ N0 → Mn q b → ln q 13 b ≤ 7 → a < q ^ 13 → ∀ (F : Nat → Nat) (N : Nat) (cs : Nat → KT q), (∀ i, i < N → Irn w (F i)) → Pn w b = pp w F 0 N → (∀ i, i < N → NmR w (Pn w (F i)) (ln q 13 (F i) - 1) (Pn w a) (cs i)) → letI := kR (wd_q w); syl q N0 a b s.1 = (s * prf cs N).1 := by
  letI iq := kR (wd_q w)
  letI ipl := plR (KT q)
  have h2 := w.q2
  have hR := q_ne w
  induction N0 with
  | zero =>
    intro a b s hl hb _ _
    have := ln_pos hb.lt13 (hb.pos h2)
    omega
  | succ N0 ih =>
    intro a b s hl hb hb7 ha F N cs hF hP hc
    have hb13 := hb.lt13
    have hbpos := hb.pos h2
    have hdeg := pp_mnc w N (fun i hi => (hF i hi).1)
    rw [← hP] at hdeg
    have hdE := mnc_deg hR hdeg (mn_pn w hb)
    have hge : N ≤ sg (fun i => ln q 13 (F i) - 1) N := by
      obtain ⟨D, d1, d2, -⟩ := pp_deg w (k := 1) (f := F) N 0 (fun i hi => by
        rw [Nat.zero_add]
        exact ⟨(hF i hi).1, (hF i hi).2.1⟩)
      rw [← hP] at d1
      have := mnc_deg hR d1 hdeg
      omega
    have e1 : syl q (N0 + 1) a b s.1 = if ln q 13 b ≤ 1 then s.1 else if rst q a b = 0 then 0 else
      syl q N0 b (mon q (rst q a b)) (smp q (fst q (rst q a b)) (ln q 13 b - 1) (if (ln q 13 b - 1) % 2 = 1 ∧ (ln q 13 (rst q a b) - 1) % 2 = 1 then (q - s.1) % q else s.1)) := rfl
    rw [e1]
    by_cases c1 : ln q 13 b ≤ 1
    · have : N = 0 := by omega
      subst this
      rw [if_pos c1]
      refine congrArg Subtype.val ?_
      show s = s * 1
      clear hc hP
      grind
    · have hFd : ∀ i, i < N → Dv (Pn w (F i)) (Pn w b) := fun i hi => by
        rw [hP]
        have := pcs_dv w (f := F) (i := i) N 0 hi
        rw [Nat.zero_add] at this
        exact this
      rw [if_neg c1]
      by_cases c2 : rst q a b = 0
      · rw [if_pos c2]
        have hN : 1 ≤ N := by
          apply Decidable.byContradiction
          intro z
          have hz : N = 0 := by omega
          subst hz
          have hdE2 : 0 = ln q 13 b - 1 := hdE
          omega
        have hz := nm_0 w (p := Pn w (F 0)) (e := ln q 13 (F 0) - 1) (a := Pn w a) (by have := (hF 0 (by omega)).2.1; omega) ((hFd 0 (by omega)).trans ((rst_0 w ha hb).mp c2))
        have h0 := nm_one w (hF 0 (by omega)).2.2 (hc 0 (by omega)) hz
        rw [prf_in N (i := 0) (by omega) h0]
        have e2 : s * 0 = 0 := by grind
        rw [e2]
        rfl
      · rw [if_neg c2]
        have hR13 := rst_lt (q := q) h2 ha (b := b)
        have hrl := rst_ln w.hq ha hb13 hbpos
        obtain ⟨g1, -, g3, -⟩ := fnd_ok w hR13 (by omega)
        obtain ⟨lr, hlr⟩ : ∃ k, ln q 13 (rst q a b) = k + 1 := ⟨ln q 13 (rst q a b) - 1, by have := ln_pos hR13 (by omega); omega⟩
        have hmt := (mon_top w.hq hR13 hlr).2.2
        have hmM := mon_Mn w.hq hR13 (by omega)
        have hfst := fst_lt h2 (rst q a b)
        have hab := rst_dv w (a := a) hb13
        have hRm : Pn w (rst q a b) = mnm (kt hfst) 0 * Pn w (mon q (rst q a b)) := by
          have e2 : Pn w (mon q (rst q a b)) = mnm (kt (Nat.mod_lt (iv q (fst q (rst q a b))) w.q0)) 0 * Pn w (rst q a b) := by
            have := pn_cmbs w (iv q (fst q (rst q a b))) 0 (rst q a b)
            rw [pn_0 w] at this
            have e3 : mon q (rst q a b) = cmb q (iv q (fst q (rst q a b))) 13 0 (rst q a b) := rfl
            rw [e3, this]
            generalize (mnm (kt (Nat.mod_lt (iv q (fst q (rst q a b))) w.q0)) 0 : PL (KT q)) = A
            generalize Pn w (rst q a b) = B
            clear hc ih hab hP hdeg hFd
            grind
          have e4 : (kt hfst : KT q) * kt (Nat.mod_lt (iv q (fst q (rst q a b))) w.q0) = 1 := Subtype.ext (by
            show mu q q (fst q (rst q a b)) (iv q (fst q (rst q a b)) % q) = 1
            rw [mu_fig (wd_q w) hfst (Nat.mod_lt _ w.q0), Nat.mul_mod_mod]
            exact iv_mul w.hq hfst (by have := fst_pos h2 hR13 (by omega); omega))
          have e5 := mnm_mn (kt hfst : KT q) (kt (Nat.mod_lt (iv q (fst q (rst q a b))) w.q0)) 0 0
          rw [e4] at e5
          have e6 := mnm_one (Pn w (rst q a b))
          rw [e2]
          generalize (mnm (kt (Nat.mod_lt (iv q (fst q (rst q a b))) w.q0)) 0 : PL (KT q)) = A at *
          generalize (mnm (kt hfst) 0 : PL (KT q)) = B at *
          generalize Pn w (rst q a b) = C at *
          have e7 : B * (A * C) = (B * A) * C := by
            clear hc ih hab hP hdeg hFd e2 e4 e5 e6
            grind
          rw [e7, e5]
          exact e6.symm
        generalize fnd q (rst q a b) = fn at *
        obtain ⟨M, G⟩ := fn
        dsimp only at g1 g3
        -- the degrees
        have hGd := pp_mnc w M (fun i hi => (g1 i hi).1)
        rw [g3] at hGd
        have hGE := mnc_deg hR hGd (mn_pn w hmM)
        rw [hmt] at hGE
        have hd13 : ∀ {p : Nat}, Irn w p → ln q 13 p - 1 ≤ 13 := fun {p} _ => by
          have := ln_le q 13 p
          omega
        have hu : ∀ i k, ∃ c, i < N → k < M → NmR w (Pn w (F i)) (ln q 13 (F i) - 1) (Pn w (G k)) c := fun i k => by
          by_cases z : i < N
          · obtain ⟨c, hc⟩ := nm_ex w (hF i z).2.2 (hd13 (hF i z)) (Pn w (G k))
            exact ⟨c, fun _ _ => hc⟩
          · exact ⟨0, fun z1 => absurd z1 z⟩
        have hv : ∀ k i, ∃ c, k < M → i < N → NmR w (Pn w (G k)) (ln q 13 (G k) - 1) (Pn w (F i)) c := fun k i => by
          by_cases z : k < M
          · obtain ⟨c, hc⟩ := nm_ex w (g1 k z).2.2 (hd13 (g1 k z)) (Pn w (F i))
            exact ⟨c, fun _ _ => hc⟩
          · exact ⟨0, fun z1 => absurd z1 z⟩
        obtain ⟨u, hu⟩ : ∃ u : Nat → Nat → KT q, ∀ i k, i < N → k < M → NmR w (Pn w (F i)) (ln q 13 (F i) - 1) (Pn w (G k)) (u i k) := ⟨fun i k => Classical.choose (hu i k), fun i k => Classical.choose_spec (hu i k)⟩
        obtain ⟨v, hv⟩ : ∃ v : Nat → Nat → KT q, ∀ k i, k < M → i < N → NmR w (Pn w (G k)) (ln q 13 (G k) - 1) (Pn w (F i)) (v k i) := ⟨fun k i => Classical.choose (hv k i), fun k i => Classical.choose_spec (hv k i)⟩
        have huv : ∀ i k, i < N → k < M → u i k = (-1) ^ ((ln q 13 (F i) - 1) * (ln q 13 (G k) - 1)) * v k i := fun i k hi hk => nm_rec w (hF i hi).2.2 (g1 k hk).2.2 (hd13 (hF i hi)) (hd13 (g1 k hk)) (hu i k hi hk) (hv k i hk hi)
        have hcs : ∀ i, i < N → cs i = (kt hfst) ^ (ln q 13 (F i) - 1) * ((-1) ^ ((ln q 13 (F i) - 1) * sg (fun k => ln q 13 (G k) - 1) M) * prf (fun k => v k i) M) := fun i hi => by
          have k1 := nm_mod w ((hFd i hi).trans hab) (hc i hi)
          rw [hRm, ← g3] at k1
          have k2 := nm_mul w (nm_cst w (Pn w (F i)) (ln q 13 (F i) - 1) (kt hfst)) (nm_pp w (G := G) (u := u i) M (fun k hk => hu i k hi hk))
          have k3 := nm_one w (hF i hi).2.2 k1 k2
          rw [k3, prf_cg M (fun k hk => huv i k hi hk), prf_mul]
          congr 2
          have e2 : ∀ k, (-1 : KT q) ^ ((ln q 13 (F i) - 1) * (ln q 13 (G k) - 1)) = ((-1) ^ (ln q 13 (F i) - 1)) ^ (ln q 13 (G k) - 1) := fun k => (pow_mulp _ _ _).symm
          rw [prf_cg M (fun k _ => e2 k), prf_pws, pow_mulp]
        have hds : ∀ k, k < M → NmR w (Pn w (G k)) (ln q 13 (G k) - 1) (Pn w b) (prf (fun i => v k i) N) := fun k hk => by
          rw [hP]
          exact nm_pp w (G := F) (u := v k) N (fun i hi => hv k i hk hi)
        -- the sign
        have hsgn : ∃ s0 : KT q, s0.1 = (if (ln q 13 b - 1) % 2 = 1 ∧ (ln q 13 (rst q a b) - 1) % 2 = 1 then (q - s.1) % q else s.1) ∧ s0 = s * (-1) ^ ((ln q 13 b - 1) * (ln q 13 (rst q a b) - 1)) := by
          by_cases c3 : (ln q 13 b - 1) % 2 = 1 ∧ (ln q 13 (rst q a b) - 1) % 2 = 1
          · refine ⟨kt (Nat.mod_lt (q - s.1) w.q0), ?_, ?_⟩
            · rw [if_pos c3]
              rfl
            · rw [neg1_par, if_pos (by rw [Nat.mul_mod, c3.1, c3.2])]
              have e2 : (kt (Nat.mod_lt (q - s.1) w.q0) : KT q) + s = 0 := Subtype.ext (by
                show cmb q 1 13 ((q - s.1) % q) s.1 = 0
                rw [cmb_fig h2 (Nat.mod_lt _ w.q0) s.2, Nat.one_mul, Nat.mod_add_mod, show q - s.1 + s.1 = q by have := s.2; omega, Nat.mod_self])
              generalize (kt (Nat.mod_lt (q - s.1) w.q0) : KT q) = A at *
              clear hc ih hab hP hdeg hFd hcs hds huv hu hv hRm
              grind
          · refine ⟨s, ?_, ?_⟩
            · rw [if_neg c3]
            · have hpar : ¬ (ln q 13 b - 1) * (ln q 13 (rst q a b) - 1) % 2 = 1 := fun z => by
                apply c3
                rw [Nat.mul_mod] at z
                rcases Nat.mod_two_eq_zero_or_one (ln q 13 b - 1) with x | x
                · rw [x, Nat.zero_mul] at z
                  exact absurd z (by decide)
                · rcases Nat.mod_two_eq_zero_or_one (ln q 13 (rst q a b) - 1) with y | y
                  · rw [y, Nat.mul_zero] at z
                    exact absurd z (by decide)
                  · exact ⟨x, y⟩
              rw [neg1_par, if_neg hpar]
              clear hc ih hab hP hdeg hFd hcs hds huv hu hv hRm
              grind
        obtain ⟨s0, s1, s2⟩ := hsgn
        have hsm := smp_ok w (kt hfst) (ln q 13 b - 1) s0
        rw [s1] at hsm
        have hsm2 : smp q (fst q (rst q a b)) (ln q 13 b - 1) (if (ln q 13 b - 1) % 2 = 1 ∧ (ln q 13 (rst q a b) - 1) % 2 = 1 then (q - s.1) % q else s.1) = (s0 * (kt hfst) ^ (ln q 13 b - 1)).1 := hsm
        rw [hsm2, ih b (mon q (rst q a b)) _ (by omega) hmM (by omega) hb13 G M (fun k => prf (fun i => v k i) N) g1 g3.symm hds]
        refine congrArg Subtype.val ?_
        rw [prf_cg N (fun i hi => hcs i hi), prf_mul, prf_mul, prf_pws, hdE, s2, prf_swap (fun i k => v k i)]
        have e3 : prf (fun i => (-1 : KT q) ^ ((ln q 13 (F i) - 1) * sg (fun k => ln q 13 (G k) - 1) M)) N = (-1) ^ ((ln q 13 b - 1) * (ln q 13 (rst q a b) - 1)) := by
          have e2 : ∀ i, (-1 : KT q) ^ ((ln q 13 (F i) - 1) * sg (fun k => ln q 13 (G k) - 1) M) = ((-1) ^ sg (fun k => ln q 13 (G k) - 1) M) ^ (ln q 13 (F i) - 1) := fun i => by rw [pow_mulp, Nat.mul_comm]
          rw [prf_cg N (fun i _ => e2 i), prf_pws, pow_mulp, hdE, hGE, hlr, Nat.add_sub_cancel, Nat.mul_comm]
        rw [e3]
        generalize prf (fun k => prf (fun i => v k i) N) M = X
        generalize (-1 : KT q) ^ ((ln q 13 b - 1) * (ln q 13 (rst q a b) - 1)) = Y
        generalize (kt hfst : KT q) ^ (ln q 13 b - 1) = Z
        exact rg_e5 s Y Z X
end SYM
theorem symOK : SymOK := fun q a b hq ha hb hl2 hl7 => by
  have w := wdq hq
  letI := kR (wd_q w)
  letI := plR (KT q)
  have h2 := w.q2
  obtain ⟨f1, f2, f3, f4⟩ := fnd_ok w hb.lt13 (hb.pos h2)
  have hmon : mon q b = b := by
    obtain ⟨k, k1, k2, k3⟩ := hb
    have e1 : fst q b = 1 := by
      rw [fst_top k1]
      exact k2
    show cmb q (iv q (fst q b)) 13 0 b = _
    rw [e1, iv_one w.hq]
    exact cmb_one h2 k3
  rw [hmon] at f3
  generalize fnd q b = fn at *
  obtain ⟨N, F⟩ := fn
  dsimp only at f1 f2 f3 f4
  have hdeg := pp_deg w (k := 1) (f := F) N 0 (fun i hi => by
    rw [Nat.zero_add]
    exact ⟨(f1 i hi).1, (f1 i hi).2.1⟩)
  obtain ⟨D, d1, d2, d3⟩ := hdeg
  rw [f3] at d1
  have e := mnc_deg (q_ne w) d1 (mn_pn w hb)
  have hln : ∀ i, i < N → ln q 13 (F i) ≤ 7 := fun i hi => by
    have h3 := d3 i hi
    rw [Nat.zero_add] at h3
    omega
  have hcx : ∀ i, ∃ c, i < N → NmR w (Pn w (F i)) (ln q 13 (F i) - 1) (Pn w a) c := fun i => by
    by_cases z : i < N
    · obtain ⟨c, hc⟩ := nm_ex w (f1 i z).2.2 (by have := hln i z; omega) (Pn w a)
      exact ⟨c, fun _ => hc⟩
    · exact ⟨0, fun z1 => absurd z1 z⟩
  obtain ⟨cs, hcs⟩ : ∃ cs : Nat → KT q, ∀ i, i < N → NmR w (Pn w (F i)) (ln q 13 (F i) - 1) (Pn w a) (cs i) := ⟨fun i => Classical.choose (hcx i), fun i => Classical.choose_spec (hcx i)⟩
  have sz : ∀ i, 0 + i = i := Nat.zero_add
  have h1 := syl_ok w 14 a b (1 : KT q) (by omega) hb hl7 ha F N cs f1 f3.symm hcs
  have h3 := msm_ok w (F := F) ha (cs := cs) N 7 0 b (1 : KT q) (by omega) hb (fun i hi => by
    rw [sz]
    exact ⟨f1 i hi, hln i hi⟩) (fun i j hij hj => by
    rw [sz, sz]
    exact f2 i j hij hj) f3.symm (fun i hi => by
    rw [sz]
    exact hcs i hi)
  have e5 : prf (fun i => cs (0 + i)) N = prf cs N := prf_cg N (fun i _ => by rw [sz])
  rw [e5] at h3
  exact h1.trans h3.symm
