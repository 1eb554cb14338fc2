/-! powers of a prime: how their images grow less -/
section GRW
variable {q m d n : Nat}
theorem wup_step (w : Wd q m d n) {g : Nat → Nat} (hg : ∀ k, g k < n) {U : KT n → Prop} {v : KT n} {k t : Nat} {S : TSt} (hT : TSp q n S (Nu (Wup w (vl_Ln w hg) U v k))) (c : ¬ (tS q S (itg (lnm (vl_Ln w hg)) k v).1 t).1 = 0) : TSp q n (tS q S (itg (lnm (vl_Ln w hg)) k v).1 t).2.2 (Nu (Wup w (vl_Ln w hg) U v (k + 1))) := by
  letI iq := kR (wd_q w)
  letI ik := kR w
  letI := plR (KT q)
  have hL := fgm_Lop w (vl_Ln w hg)
  have hA := acp_ok hL
  obtain ⟨f1, f2, f3⟩ := tie_feed w (t := t) hT (itg (lnm (vl_Ln w hg)) k v).2
  refine (f3 c).cg (fun x hx1 => ⟨fun ⟨hx2, u, a, u1, u2, u3⟩ => ?_, fun ⟨s, z, z1, z2, ⟨z3, u, a, u1, u2, u3⟩, z4⟩ => ?_⟩)
  · have hd1 : Dlt (a - mnm (a.1 k) k) k := fun j hj => by
      rw [pl_sub]
      show a.1 j - (if j = k then a.1 k else 0) = 0
      by_cases z : j = k
      · rw [if_pos z, z]
        grind
      · rw [if_neg z, u2 j (by omega)]
        grind
    refine ⟨(a.1 k).1, (u + acp (fgm w) (lnm (vl_Ln w hg)) (a - mnm (a.1 k) k) v).1, (a.1 k).2, (u + acp (fgm w) (lnm (vl_Ln w hg)) (a - mnm (a.1 k) k) v).2, ⟨(u + acp (fgm w) (lnm (vl_Ln w hg)) (a - mnm (a.1 k) k) v).2, u, _, u1, hd1, rfl⟩, ?_⟩
    rw [← k_fgm w (a.1 k)]
    have e : (kt hx2 : KT n) = u + acp (fgm w) (lnm (vl_Ln w hg)) (a - mnm (a.1 k) k) v + fgm w (a.1 k) * itg (lnm (vl_Ln w hg)) k v := by
      rw [u3, acp_sub hL, acp_mn hL]
      generalize fgm w (a.1 k) * itg (lnm (vl_Ln w hg)) k v = A
      generalize acp (fgm w) (lnm (vl_Ln w hg)) a v = B
      grind
    exact congrArg Subtype.val e
  · refine ⟨hx1, u, a + mnm (kt z1 : KT q) k, u1, fun j hj => ?_, Subtype.ext ?_⟩
    · rw [pl_add, u2 j (by omega)]
      show (0 : KT q) + (if j = k then (kt z1 : KT q) else 0) = 0
      rw [if_neg (by omega)]
      grind
    · have e : u + acp (fgm w) (lnm (vl_Ln w hg)) (a + mnm (kt z1 : KT q) k) v = (kt z3 : KT n) + fgm w (kt z1) * itg (lnm (vl_Ln w hg)) k v := by
        rw [u3, hA.1, acp_mn hL]
        generalize fgm w (kt z1 : KT q) * itg (lnm (vl_Ln w hg)) k v = A
        generalize acp (fgm w) (lnm (vl_Ln w hg)) a v = B
        grind
      rw [e, k_fgm w]
      exact z4
/-- v, T v .. below e are free over U: so many more are kept -/
theorem wup_run (w : Wd q m d n) {g : Nat → Nat} (hg : ∀ k, g k < n) {U : KT n → Prop} {v : KT n} {e : Nat} (hm : letI := kR (wd_q w); letI := kR w; ∀ D a, D < e → Mnc a D → ¬ U (acp (fgm w) (lnm (vl_Ln w hg)) a v)) {S : TSt} (hS : Sok q d n 0 S) (hT : TSp q n S (Nu U)) : ∀ k, k ≤ e → ∃ S1, Sok q d n 0 S1 ∧ TSp q n S1 (Nu (Wup w (vl_Ln w hg) U v k)) ∧ nfl S1.1 7 = nfl S.1 7 + k := by
  letI iq := kR (wd_q w)
  letI ik := kR w
  letI := plR (KT q)
  have h2 := w.q2
  have hL := fgm_Lop w (vl_Ln w hg)
  have hA := acp_ok hL
  intro k
  induction k with
  | zero =>
    intro _
    refine ⟨S, hS, hT.cg (fun x hx => ⟨fun ⟨hx1, u, b, u1, u2, u3⟩ => ?_, fun ⟨hx1, u1⟩ => ?_⟩), rfl⟩
    · have hb0 : b = 0 := pl_ext (fun k => u2 k (Nat.zero_le _))
      rw [hb0, ac_0 hA] at u3
      have e : u + 0 = u := by grind
      rw [e] at u3
      refine ⟨hx1, ?_⟩
      rw [u3]
      exact u1
    · refine ⟨hx1, kt hx1, 0, u1, fun _ _ => rfl, ?_⟩
      rw [ac_0 hA]
      generalize (kt hx1 : KT n) = A
      grind
  | succ k ih =>
    intro hk
    obtain ⟨S1, s1, s2, s3⟩ := ih (by omega)
    have hx := (itg (lnm (vl_Ln w hg)) k v).2
    obtain ⟨f1, f2, f3⟩ := tie_feed w (t := 0) s2 hx
    obtain ⟨t1, t2, t3, t4⟩ := tS_ok w s1 hx (t := 0) (by rw [Nat.pow_zero]; omega)
    have c : ¬ (tS q S1 (itg (lnm (vl_Ln w hg)) k v).1 0).1 = 0 := fun z => by
      obtain ⟨hx1, u, a, u1, u2, u3⟩ := f1.mp z
      have u3 : itg (lnm (vl_Ln w hg)) k v = u + acp (fgm w) (lnm (vl_Ln w hg)) a v := u3
      refine hm k (mnm 1 k - a) (by omega) ⟨?_, fun j hj => ?_⟩ ?_
      · rw [pl_sub, u2 k (Nat.le_refl _)]
        show (if k = k then (1 : KT q) else 0) - 0 = 1
        rw [if_pos rfl]
        grind
      · rw [pl_sub, u2 j (by omega)]
        show (if j = k then (1 : KT q) else 0) - 0 = 0
        rw [if_neg (by omega)]
        grind
      · rw [acp_sub hL, acp_mn hL, hL.2.2.1, u3]
        have e : 1 * (u + acp (fgm w) (lnm (vl_Ln w hg)) a v) - acp (fgm w) (lnm (vl_Ln w hg)) a v = u := by
          generalize acp (fgm w) (lnm (vl_Ln w hg)) a v = A
          grind
        rw [e]
        exact u1
    exact ⟨_, t1, wup_step w hg s2 c, by rw [t4 c, s3]; omega⟩
theorem img_sbm (w : Wd q m d n) {g : Nat → Nat} (hg : ∀ k, g k < n) (a : letI := kR (wd_q w); PL (KT q)) : letI := kR (wd_q w); letI := kR w; Sbm (acv w hg) (Img w hg a) := by
  letI iq := kR (wd_q w)
  letI ik := kR w
  letI := plR (KT q)
  have hA := acv_ok w hg
  refine ⟨⟨0, ?_⟩, fun x y ⟨u, hu⟩ ⟨v, hv⟩ => ⟨u + v, ?_⟩, fun b x ⟨u, hu⟩ => ⟨acv w hg b u, ?_⟩⟩
  · have h1 := hA.2.2.2 a 0 0
    have e : (0 : KT n) + 0 = 0 := by grind
    rw [e] at h1
    generalize acv w hg a 0 = A at *
    grind
  · rw [hu, hv, hA.2.2.2]
  · rw [hu, ← hA.2.1, ← hA.2.1]
    have e : b * a = a * b := by grind
    rw [e]
/-- the image of a power is that of the next -/
def Ieq (w : Wd q m d n) {g : Nat → Nat} (hg : ∀ k, g k < n) (p : letI := kR (wd_q w); PL (KT q)) (k : Nat) : Prop := letI := kR (wd_q w); letI := plR (KT q); ∀ y, Img w hg (p ^ k) y → Img w hg (p ^ (k + 1)) y
theorem pow_sp {S : Type} [Lean.Grind.CommRing S] (p : S) (k : Nat) : p ^ (k + 1) = p ^ k * p := by grind
theorem img_dn (w : Wd q m d n) {g : Nat → Nat} (hg : ∀ k, g k < n) {p : letI := kR (wd_q w); PL (KT q)} {k : Nat} {y : KT n} (h : letI := kR (wd_q w); letI := plR (KT q); Img w hg (p ^ (k + 1)) y) : letI := kR (wd_q w); letI := plR (KT q); Img w hg (p ^ k) y := by
  letI iq := kR (wd_q w)
  letI ik := kR w
  letI := plR (KT q)
  obtain ⟨x, hx⟩ := h
  exact ⟨acv w hg p x, by rw [hx, pow_sp, (acv_ok w hg).2.1]⟩
theorem img_up (w : Wd q m d n) {g : Nat → Nat} (hg : ∀ k, g k < n) {p : letI := kR (wd_q w); PL (KT q)} {k : Nat} {y : KT n} (h : letI := kR (wd_q w); letI := plR (KT q); Img w hg (p ^ k) y) : letI := kR (wd_q w); letI := plR (KT q); Img w hg (p ^ (k + 1)) (acv w hg p y) := by
  letI iq := kR (wd_q w)
  letI ik := kR w
  letI := plR (KT q)
  obtain ⟨x, hx⟩ := h
  refine ⟨x, ?_⟩
  rw [hx, pow_sp, ← (acv_ok w hg).2.1]
  have e : p * p ^ k = p ^ k * p := by
    generalize p ^ k = A
    grind
  rw [e]
theorem ieq_s (w : Wd q m d n) {g : Nat → Nat} (hg : ∀ k, g k < n) {p : letI := kR (wd_q w); PL (KT q)} {k : Nat} (h : Ieq w hg p k) : Ieq w hg p (k + 1) := by
  letI iq := kR (wd_q w)
  letI ik := kR w
  letI := plR (KT q)
  rintro y ⟨x, hx⟩
  have h1 : Img w hg (p ^ k) (acv w hg (p ^ k) x) := ⟨x, rfl⟩
  have h3 := img_up w hg (h _ h1)
  have e : acv w hg p (acv w hg (p ^ k) x) = y := by
    rw [hx, pow_sp, ← (acv_ok w hg).2.1]
    have e1 : p * p ^ k = p ^ k * p := by
      generalize p ^ k = A
      grind
    rw [e1]
  rw [e] at h3
  exact h3
theorem ieq_grow (w : Wd q m d n) {g : Nat → Nat} (hg : ∀ k, g k < n) {p : letI := kR (wd_q w); PL (KT q)} {e k : Nat} (hp : letI := kR (wd_q w); Irr p e) (h : ¬ Ieq w hg p k) {S S1 : TSt} (hS1 : Sok q d n 0 S1) (hT : letI := kR (wd_q w); letI := plR (KT q); TSp q n S (Nu (Img w hg (p ^ k)))) (hT1 : letI := kR (wd_q w); letI := plR (KT q); TSp q n S1 (Nu (Img w hg (p ^ (k + 1))))) : nfl S1.1 7 + e ≤ nfl S.1 7 := by
  letI iq := kR (wd_q w)
  letI ik := kR w
  letI := plR (KT q)
  have hA := acv_ok w hg
  have hU := img_sbm w hg (p ^ (k + 1))
  obtain ⟨x0, hx0⟩ := Classical.not_forall.mp h
  obtain ⟨hx1, hx2⟩ : Img w hg (p ^ k) x0 ∧ ¬ Img w hg (p ^ (k + 1)) x0 := ⟨Classical.byContradiction (fun z => hx0 (fun h => absurd h z)), fun z => hx0 (fun _ => z)⟩
  obtain ⟨S2, s1, s2, s3⟩ := wup_run w hg (v := x0) (e := e) (fun D a hD ha hu => by
    obtain ⟨b, c, hbc⟩ := bez (q_ivs w) (a := p) (b := a) hp.1 (fun f K hf h3 h5 => by
      rcases hp.2.2 f K hf h3 with z | z
      · exact z
      · have := mnc_dvle (q_ne w) hf ha h5
        omega)
    apply hx2
    have hpx := hU.2.2 b _ (img_up w hg hx1)
    have hax := hU.2.2 c _ hu
    have h5 := hU.2.1 _ _ hpx hax
    have e1 : acv w hg b (acv w hg p x0) + acv w hg c (acp (fgm w) (lnm (vl_Ln w hg)) a x0) = x0 := by
      have e2 : acp (fgm w) (lnm (vl_Ln w hg)) a x0 = acv w hg a x0 := rfl
      rw [e2, ← hA.2.1, ← hA.2.1, ← hA.1, hbc, hA.2.2.1]
    rw [e1] at h5
    exact h5) hS1 hT1 e (Nat.le_refl _)
  have hle := s2.le w hT (fun y hy ⟨hy1, u, a, u1, u2, u3⟩ => by
    refine ⟨hy1, ?_⟩
    rw [u3]
    have hU0 := img_sbm w hg (p ^ k)
    exact hU0.2.1 _ _ (img_dn w hg u1) (hU0.2.2 a _ hx1))
  omega
theorem ieq_same (w : Wd q m d n) {g : Nat → Nat} (hg : ∀ k, g k < n) {p : letI := kR (wd_q w); PL (KT q)} {k : Nat} (h : Ieq w hg p k) {S S1 : TSt} (hT : letI := kR (wd_q w); letI := plR (KT q); TSp q n S (Nu (Img w hg (p ^ k)))) (hT1 : letI := kR (wd_q w); letI := plR (KT q); TSp q n S1 (Nu (Img w hg (p ^ (k + 1))))) : nfl S1.1 7 = nfl S.1 7 := by
  have h1 := hT.le w hT1 (fun y _ ⟨hy, h3⟩ => ⟨hy, h _ h3⟩)
  have h3 := hT1.le w hT (fun y _ ⟨hy, h3⟩ => ⟨hy, img_dn w hg h3⟩)
  omega
theorem chn_ex {R M : Type} [Lean.Grind.CommRing R] [Lean.Grind.CommRing M] (hI : Ivs R) {ac : PL R → M → M} (h : Acts R M ac) (hT : Tor ac) (l : List M) : ∀ U : M → Prop, Sbm ac U → ∃ P, Chn ac U l P := by
  letI := plR R
  induction l with
  | nil => exact fun U _ => ⟨1, rfl⟩
  | cons v l ih =>
    intro U hU
    obtain ⟨t, ht⟩ := gen_ex hI h hT hU v
    obtain ⟨P, hP⟩ := ih _ (Adj.sbm h hU v)
    exact ⟨t * P, t, P, ht, hP, rfl⟩
theorem spl_mono {R M : Type} [Lean.Grind.CommRing R] [Lean.Grind.CommRing M] {ac : PL R → M → M} (l : List M) : ∀ U V : M → Prop, (∀ x, U x → V x) → ∀ x, Spl ac U l x → Spl ac V l x := by
  induction l with
  | nil => exact fun U V h => h
  | cons v l ih => exact fun U V h => ih _ _ (fun x ⟨u, a, h1, h3⟩ => ⟨u, a, h u h1, h3⟩)
/-- a divisor of p^(k+1), not of p^k -/
theorem pow_dvd {R : Type} [Lean.Grind.CommRing R] (hR : (1 : R) ≠ 0) (hI : Ivs R) {p t : PL R} {e N k : Nat} (hp : Irr p e) (ht : Mnc t N) (h : letI := plR R; Dv t (p ^ (k + 1))) (h1 : letI := plR R; ¬ Dv t (p ^ k)) : letI := plR R; t = p ^ (k + 1) := by
  letI := plR R
  have hpm : ∀ j, Mnc (p ^ j) (j * e) := fun j => by
    induction j with
    | zero =>
      have e1 : p ^ 0 = 1 := by grind
      rw [e1, Nat.zero_mul]
      exact Mnc.one
    | succ j ih =>
      rw [pow_sp, Nat.add_mul, Nat.one_mul]
      exact ih.mul hp.1
  have hdp : ∀ (r : PL R) (N j : Nat), Irr r N → Dv r (p ^ j) → r = p := fun r N j hr => by
    induction j with
    | zero =>
      intro hd
      have e1 : p ^ 0 = 1 := by grind
      rw [e1] at hd
      exact absurd hd (irr_ne1 hR hr)
    | succ j ih =>
      intro hd
      rw [pow_sp] at hd
      rcases irr_prm hR hI hr hd with z | z
      · exact ih z
      · exact irr_eq hR hr hp z
  obtain ⟨s, hs⟩ := h
  obtain ⟨q1, q2⟩ := mnc_quo hR ht (hpm (k + 1)) hs
  by_cases c : (k + 1) * e - N = 0
  · rw [c] at q2
    rw [hs, mnc_1 q2]
    grind
  · exfalso
    obtain ⟨r, K, hr, hd⟩ := irr_ex hR _ _ q2 (by omega)
    have e1 := hdp r K (k + 1) hr (by rw [hs]; exact Dv.mulr hd t)
    subst e1
    obtain ⟨x, hx⟩ := hd
    apply h1
    refine ⟨x, mnc_can hp.1 ?_⟩
    rw [← pow_sp, hs, hx]
    generalize r ^ k = A
    grind
theorem ieq_dv (w : Wd q m d n) {g : Nat → Nat} (hg : ∀ k, g k < n) {p : letI := kR (wd_q w); PL (KT q)} {e k : Nat} (hp : letI := kR (wd_q w); Irr p e) (h : ¬ Ieq w hg p k) : letI := kR (wd_q w); letI := plR (KT q); Dv (p ^ (k + 1)) (Pn w (pts q m d g)) := by
  letI iq := kR (wd_q w)
  letI ik := kR w
  letI := plR (KT q)
  have h2 := w.q2
  have hA := acv_ok w hg
  have hI := q_ivs w
  have hR := q_ne w
  have hf := vl_Ln w hg
  have hT : Tor (acv w hg) := q_tor w hf
  have hUk := img_sbm w hg (p ^ k)
  obtain ⟨x0, hx0⟩ := Classical.not_forall.mp h
  obtain ⟨hx1, hx2⟩ : Img w hg (p ^ k) x0 ∧ ¬ Img w hg (p ^ (k + 1)) x0 := ⟨Classical.byContradiction (fun z => hx0 (fun h => absurd h z)), fun z => hx0 (fun _ => z)⟩
  have a0 : ∀ a, acv w hg a 0 = 0 := fun a => by
    have h1 := hA.2.2.2 a 0 0
    have e : (0 : KT n) + 0 = 0 := by grind
    rw [e] at h1
    generalize acv w hg a 0 = A at *
    grind
  -- something of the image is sent to nothing
  have hker : ∃ y, Img w hg (p ^ k) y ∧ y ≠ 0 ∧ acv w hg p y = 0 := by
    apply Classical.byContradiction
    intro hno
    have inj : ∀ y, Img w hg (p ^ k) y → acv w hg p y = 0 → y = 0 := fun y hy hz => Classical.byContradiction (fun z => hno ⟨y, hy, z, hz⟩)
    have hin : ∀ i, Img w hg (p ^ k) (itg (acv w hg p) i x0) := fun i => by
      induction i with
      | zero => exact hx1
      | succ i ih =>
        rw [itg_s]
        exact hUk.2.2 p _ ih
    have hne : ∀ i j, itg (acv w hg p) i x0 = itg (acv w hg p) (i + (j + 1)) x0 → False := fun i => by
      induction i with
      | zero =>
        intro j hj
        have hj : x0 = itg (acv w hg p) (0 + (j + 1)) x0 := hj
        rw [Nat.zero_add, itg_s] at hj
        apply hx2
        rw [hj]
        exact img_up w hg (hin j)
      | succ i ih =>
        intro j hj
        refine ih j ?_
        rw [show i + 1 + (j + 1) = i + (j + 1) + 1 by omega, itg_s, itg_s] at hj
        have hsub := hUk.sub hA (hin i) (hin (i + (j + 1)))
        have h5 := inj _ hsub (by
          have e : itg (acv w hg p) i x0 - itg (acv w hg p) (i + (j + 1)) x0 = itg (acv w hg p) i x0 + acv w hg (-1) (itg (acv w hg p) (i + (j + 1)) x0) := by
            rw [ac_neg hA, hA.2.2.1]
            generalize itg (acv w hg p) i x0 = A
            generalize itg (acv w hg p) (i + (j + 1)) x0 = B
            grind
          rw [e, hA.2.2.2, ← hA.2.1]
          have e1 : p * -1 = -1 * p := by grind
          rw [e1, hA.2.1, ← hj, ac_neg hA, hA.2.2.1]
          generalize acv w hg p (itg (acv w hg p) i x0) = A
          grind)
        generalize itg (acv w hg p) i x0 = A at *
        generalize itg (acv w hg p) (i + (j + 1)) x0 = B at *
        grind
    have hpg := pigeon n (n + 1) (fun i => (itg (acv w hg p) i x0).1) (fun i _ => (itg (acv w hg p) i x0).2) (fun i j _ _ hij => by
      have hij : itg (acv w hg p) i x0 = itg (acv w hg p) j x0 := Subtype.ext hij
      rcases Nat.lt_trichotomy i j with z | z | z
      · refine (hne i (j - i - 1) ?_).elim
        rw [show i + (j - i - 1 + 1) = j by omega]
        exact hij
      · exact z
      · refine (hne j (i - j - 1) ?_).elim
        rw [show j + (i - j - 1 + 1) = i by omega]
        exact hij.symm)
    omega
  obtain ⟨y, ⟨v, hv⟩, hy1, hy2⟩ := hker
  have hZ : Sbm (acv w hg) (fun x : KT n => x = 0) := ⟨rfl, fun x y hx hy => by
    have hx : x = 0 := hx
    have hy : y = 0 := hy
    show x + y = 0
    rw [hx, hy]
    grind, fun a x hx => by
    have hx : x = 0 := hx
    show acv w hg a x = 0
    rw [hx]
    exact a0 a⟩
  obtain ⟨t, ht⟩ := gen_ex hI hA hT hZ v
  have ht1 := (ht.2 (p ^ (k + 1))).mp (by
    rw [pow_sp, show p ^ k * p = p * p ^ k by
      generalize p ^ k = A
      grind, hA.2.1, ← hv]
    exact hy2)
  have ht3 : ¬ Dv t (p ^ k) := fun z => by
    apply hy1
    rw [hv]
    exact (ht.2 (p ^ k)).mpr z
  obtain ⟨N, hN⟩ := ht.1
  have hte := pow_dvd hR hI hp hN ht1 ht3
  obtain ⟨l3, c3, c4, c5⟩ := pto_chn w hg d 0 1 tS0 [] 0 rfl (Sok0 q d n 0) ((TSp_0 w).cg (fun x hx => ⟨fun ⟨hx1, h1⟩ => congrArg Subtype.val h1, fun h1 => ⟨hx, Subtype.ext h1⟩⟩)) (by
    show 1 < q ^ (0 + 1)
    rw [Nat.pow_one]
    omega) (by
    show dg q 1 0 = 1
    rw [dg_0, Nat.mod_eq_of_lt (by omega)]) (by
    rw [pn_1 w]
    exact rfl) (fun i hi => absurd hi (by omega))
  have hall : ∀ x, Spl (acv w hg) (fun x => x = 0) l3 x := all_of_pw w hf (spl_sbm hA _ _ hZ) c5
  obtain ⟨P, hP⟩ := chn_ex hI hA hT l3 _ (Adj.sbm hA hZ v)
  have h7 : Chn (acv w hg) (fun x => x = 0) (v :: l3) (t * P) := ⟨t, P, ht, hP, rfl⟩
  have h9 : pto q m d g d 0 1 tS0 = pts q m d g := rfl
  rw [h9] at c3
  have h8 := chn_all hR hI hA hT hZ c3 h7 hall (fun x => spl_mono l3 _ _ (fun x hx => ⟨0, 0, rfl, by
    have hx : x = 0 := hx
    rw [hx, ac_0 hA]
    grind⟩) x (hall x))
  rw [h8, hte]
  exact Dv.self_l _ _
end GRW
