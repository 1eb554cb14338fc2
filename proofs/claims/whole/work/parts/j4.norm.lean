/-! the great power's determinant is the norm; its trace -/
def prf {S : Type} [Lean.Grind.CommRing S] (f : Nat → S) : Nat → S
  | 0 => 1
  | N + 1 => prf f N * f N
theorem prf_s {S : Type} [Lean.Grind.CommRing S] (f : Nat → S) (N : Nat) : prf f (N + 1) = prf f N * f N := rfl
theorem prf_front {S : Type} [Lean.Grind.CommRing S] (N : Nat) : ∀ f : Nat → S, prf f (N + 1) = f 0 * prf (fun i => f (i + 1)) N := by
  induction N with
  | zero =>
    intro f
    show 1 * f 0 = f 0 * 1
    grind
  | succ N ih =>
    intro f
    rw [prf_s, ih, prf_s]
    grind
theorem prf_cg {S : Type} [Lean.Grind.CommRing S] {f g : Nat → S} (N : Nat) : (∀ i, i < N → f i = g i) → prf f N = prf g N := by
  induction N with
  | zero => exact fun _ => rfl
  | succ N ih =>
    intro h
    rw [prf_s, prf_s, ih (fun i hi => h i (by omega)), h N (by omega)]
theorem prf_mul {S : Type} [Lean.Grind.CommRing S] (f g : Nat → S) (N : Nat) : prf (fun i => f i * g i) N = prf f N * prf g N := by
  induction N with
  | zero =>
    show (1 : S) = 1 * 1
    grind
  | succ N ih =>
    rw [prf_s, prf_s, prf_s, ih]
    generalize prf f N = A
    generalize prf g N = B
    grind
theorem prf_back {S : Type} [Lean.Grind.CommRing S] (h : Nat → S) (M : Nat) : prf (fun j => h (M - j)) M = prf (fun i => h (i + 1)) M := by
  induction M with
  | zero => rfl
  | succ M ih =>
    rw [prf_front, prf_s]
    have e : prf (fun i => h (M + 1 - (i + 1))) M = prf (fun j => h (M - j)) M := prf_cg M (fun i _ => by rw [show M + 1 - (i + 1) = M - i by omega])
    rw [e, ih, Nat.sub_zero]
    generalize prf (fun i => h (i + 1)) M = A
    grind
theorem per_mul {S : Type} {h : Nat → S} {d : Nat} (hh : ∀ i, h (i + d) = h i) (r c : Nat) : h (r + d * c) = h r := by
  induction c with
  | zero => rfl
  | succ c ih => rw [Nat.mul_succ, ← Nat.add_assoc, hh, ih]
theorem prf_rev {S : Type} [Lean.Grind.CommRing S] {h : Nat → S} {d : Nat} (hd : 1 ≤ d) (hh : ∀ i, h (i + d) = h i) : prf (fun j => h ((d - 1) * j)) d = prf h d := by
  obtain ⟨M, rfl⟩ : ∃ M, d = M + 1 := ⟨d - 1, by omega⟩
  rw [prf_front, prf_front, Nat.mul_zero, ← prf_back]
  congr 1
  refine prf_cg M (fun i hi => ?_)
  have e : (M + 1 - 1) * (i + 1) = (M - i) + (M + 1) * i := by
    rw [Nat.add_sub_cancel, Nat.mul_add, Nat.mul_one, Nat.add_mul, Nat.one_mul]
    omega
  rw [e, per_mul hh]
theorem prf_shift {S : Type} [Lean.Grind.CommRing S] {h : Nat → S} {d : Nat} (hd : 1 ≤ d) (hh : ∀ i, h (i + d) = h i) : prf (fun i => h (i + 1)) d = prf h d := by
  obtain ⟨M, rfl⟩ : ∃ M, d = M + 1 := ⟨d - 1, by omega⟩
  have e := hh 0
  rw [Nat.zero_add] at e
  rw [prf_s, prf_front, e]
  generalize prf (fun i => h (i + 1)) M = A
  grind
theorem prf_neg1 {S : Type} [Lean.Grind.CommRing S] (N : Nat) : prf (fun _ => (-1 : S)) N = if N % 2 = 1 then -1 else 1 := by
  induction N with
  | zero => rfl
  | succ N ih =>
    rw [prf_s, ih]
    by_cases c : N % 2 = 1
    · rw [if_pos c, if_neg (by omega)]
      grind
    · rw [if_neg c, if_pos (by omega)]
      grind
theorem rcW_prf {R : Type} [Lean.Grind.CommRing R] (c0 i2 : Nat → R) (j : Nat) : letI := plR R; rcW c0 i2 j = mnm (lpr i2 j) 0 * prf (fun j => mnm 1 1 - mnm (c0 j) 0) j := by
  letI := plR R
  induction j with
  | zero =>
    show (1 : PL R) = mnm 1 0 * 1
    rw [mnm_one]
  | succ j ih =>
    have e : (mnm (lpr i2 (j + 1)) 0 : PL R) = mnm (-(i2 j)) 0 * mnm (lpr i2 j) 0 := by
      rw [mnm_mn]
      rfl
    rw [rcW_s, ih, prf_s, e]
    generalize (mnm (-(i2 j)) 0 : PL R) = A
    generalize (mnm (lpr i2 j) 0 : PL R) = B
    generalize prf (fun j => (mnm 1 1 - mnm (c0 j) 0 : PL R)) j = C
    generalize (mnm 1 1 - mnm (c0 j) 0 : PL R) = E
    clear ih e
    grind
theorem lpr_prf {R : Type} [Lean.Grind.CommRing R] (i2 : Nat → R) (j : Nat) : lpr i2 j = prf (fun j => -(i2 j)) j := by
  induction j with
  | zero => rfl
  | succ j ih =>
    rw [prf_s, ← ih]
    show -(i2 j) * lpr i2 j = lpr i2 j * -(i2 j)
    grind
section NRM
variable {q m d n : Nat}
/-- the product over the orbit, as a polynomial -/
def fwp (hp : Pw q m d n) (x : KT n) (e : Nat) : letI := kR hp.1; PL (KT n) := letI := kR hp.1; letI := plR (KT n); prf (fun i => mnm 1 1 - mnm (itg (frq q) i x) 0) e
theorem fwp_cfr (hp : Pw q m d n) {g : Nat} (hg : g < n) (e : Nat) : ∀ k, letI := kR hp.1; ((fwp hp (kt hg) e).1 k).1 = cfr q m g e k := by
  have w := hp.1
  letI ik := kR hp.1
  letI := plR (KT n)
  have h2 := w.q2
  induction e with
  | zero =>
    intro k
    show (if k = 0 then (1 : KT n) else 0).1 = if k = 0 then 1 else 0
    split <;> rfl
  | succ e ih =>
    intro k
    have e1 : fwp hp (kt hg) (e + 1) = (mnm 1 1 - mnm (itg (frq q) e (kt hg)) 0) * fwp hp (kt hg) e := by
      show fwp hp (kt hg) e * (mnm 1 1 - mnm (itg (frq q) e (kt hg)) 0) = _
      generalize fwp hp (kt hg) e = A
      generalize (mnm 1 1 - mnm (itg (frq q) e (kt hg)) 0 : PL (KT n)) = B
      grind
    have e2 : (mnm 1 1 - mnm (itg (frq q) e (kt hg)) 0) * fwp hp (kt hg) e = mnm 1 1 * fwp hp (kt hg) e - mnm (itg (frq q) e (kt hg)) 0 * fwp hp (kt hg) e := by
      generalize fwp hp (kt hg) e = A
      generalize (mnm 1 1 : PL (KT n)) = B
      generalize (mnm (itg (frq q) e (kt hg)) 0 : PL (KT n)) = C
      grind
    have hv : (itg (frq q) e (kt hg)).1 = itr (fun v => tby q v m) e g := fri_val hp.1 e (kt hg)
    have e3 : cfr q m g (e + 1) k = if k = 0 then cmb q (q - 1) 13 0 (mu q m (cfr q m g e 0) (itr (fun v => tby q v m) e g)) else cmb q (q - 1) 13 (cfr q m g e (k - 1)) (mu q m (cfr q m g e k) (itr (fun v => tby q v m) e g)) := rfl
    rw [e1, e2, pl_sub, mnm_mul, mnm_mul, if_pos (Nat.zero_le _), Nat.sub_zero, e3]
    have hcm : ∀ a b : KT n, (a - b * (fwp hp (kt hg) e).1 k).1 = cmb q (q - 1) 13 a.1 (mu q m ((fwp hp (kt hg) e).1 k).1 b.1) := fun a b => by
      rw [k_sub1 w]
      have e4 : b * (fwp hp (kt hg) e).1 k = (fwp hp (kt hg) e).1 k * b := by
        generalize (fwp hp (kt hg) e).1 k = A
        grind
      rw [e4]
      rfl
    rw [hcm, ih k, hv]
    by_cases c : k = 0
    · subst c
      rw [if_neg (by omega), if_pos rfl]
      rfl
    · rw [if_pos (by omega), if_neg c]
      have e5 : (1 : KT n) * (fwp hp (kt hg) e).1 (k - 1) = (fwp hp (kt hg) e).1 (k - 1) := by
        generalize (fwp hp (kt hg) e).1 (k - 1) = A
        grind
      rw [e5, ih (k - 1)]
theorem fwp_dlt (hp : Pw q m d n) (x : KT n) (e : Nat) : letI := kR hp.1; Dlt (fwp hp x e) (e + 1) := by
  letI ik := kR hp.1
  letI := plR (KT n)
  induction e with
  | zero => exact (Mnc.one (R := KT n)).2
  | succ e ih =>
    have e1 : fwp hp x (e + 1) = (mnm 1 1 - mnm (itg (frq q) e x) 0) * fwp hp x e := by
      show fwp hp x e * (mnm 1 1 - mnm (itg (frq q) e x) 0) = _
      generalize fwp hp x e = A
      generalize (mnm 1 1 - mnm (itg (frq q) e x) 0 : PL (KT n)) = B
      grind
    rw [e1]
    exact lin_dlt _ ih
/-- the characteristic, over the rests -/
theorem mch_fwp (hp : Pw q m d n) {g : Nat} (hg : g < n) : letI := kR (wd_q hp.1); letI := kR hp.1; pmap (fgm_hom hp.1) (Pn hp.1 (mch q m d g)) = fwp hp (kt hg) (orb q m d g) := by
  have w := hp.1
  letI iq := kR (wd_q hp.1)
  letI ik := kR hp.1
  have h2 := w.q2
  have hd7 := w.d7
  obtain ⟨o1, o2, o3, o4⟩ := orb_is hp hg
  have hfig := cfr_fig hp hg
  have hdl := fwp_dlt hp (kt hg) (orb q m d g)
  -- the number with these figures
  obtain ⟨t, t1, t2⟩ := pn_surj hp.1 (orb q m d g + 1) ⟨fun k => kt (hfig k), orb q m d g + 1, fun k hk => Subtype.ext (by
    have e := fwp_cfr hp hg (orb q m d g) k
    rw [hdl k hk] at e
    exact e.symm)⟩ (by omega) (fun k hk => Subtype.ext (by
    have e := fwp_cfr hp hg (orb q m d g) k
    rw [hdl k hk] at e
    exact e.symm))
  have hdt : ∀ k, k < 13 → dg q t k = cfr q m g (orb q m d g) k := fun k hk => by
    rw [← pn_at hp.1 t hk, t2]
    rfl
  have e1 : mch q m d g = t := by
    have e : mch q m d g = sg (fun k => cfr q m g (orb q m d g) k * q ^ k) (orb q m d g + 1) := rfl
    rw [e, ← sg_ext (f := fun k => dg q t k * q ^ k) (fun i hi => by rw [hdt i (by omega)]), dg_all, Nat.mod_eq_of_lt t1]
  rw [e1, t2]
  exact pl_ext (fun k => Subtype.ext (fwp_cfr hp hg (orb q m d g) k).symm)
/-- orbit after orbit -/
theorem fwp_orb (hp : Pw q m d n) {x : KT n} {o : Nat} (ho : letI := kR hp.1; itg (frq q) o x = x) (r : Nat) : letI := kR hp.1; letI := plR (KT n); fwp hp x (o * r) = fwp hp x o ^ r := by
  letI ik := kR hp.1
  letI := plR (KT n)
  have hper : ∀ c i, itg (frq q) (i + o * c) x = itg (frq q) i x := fun c => by
    induction c with
    | zero => exact fun i => rfl
    | succ c ih =>
      intro i
      rw [Nat.mul_succ, ← Nat.add_assoc, itg_add, ho, ih]
  have hadd : ∀ s, s ≤ o → ∀ r, fwp hp x (o * r + s) = fwp hp x (o * r) * fwp hp x s := fun s => by
    induction s with
    | zero =>
      intro _ r
      show fwp hp x (o * r) = fwp hp x (o * r) * 1
      generalize fwp hp x (o * r) = A
      grind
    | succ s ih =>
      intro hs1 r
      have e1 : fwp hp x (o * r + (s + 1)) = fwp hp x (o * r + s) * (mnm 1 1 - mnm (itg (frq q) (o * r + s) x) 0) := rfl
      have e2 : fwp hp x (s + 1) = fwp hp x s * (mnm 1 1 - mnm (itg (frq q) s x) 0) := rfl
      rw [e1, e2, ih (by omega) r, Nat.add_comm (o * r) s, hper]
      generalize fwp hp x (o * r) = A
      generalize fwp hp x s = B
      generalize (mnm 1 1 - mnm (itg (frq q) s x) 0 : PL (KT n)) = C
      clear ih e1 e2 hper
      grind
  induction r with
  | zero =>
    show (1 : PL (KT n)) = fwp hp x o ^ 0
    generalize fwp hp x o = A
    grind
  | succ r ih => rw [Nat.mul_succ, hadd o (Nat.le_refl _) r, ih, ← pow_sp]
theorem orb_dvd (hp : Pw q m d n) {g : Nat} (hg : g < n) : orb q m d g * (d / orb q m d g) = d := by
  letI ik := kR hp.1
  obtain ⟨o1, o2, o3, o4⟩ := orb_is hp hg
  have h1 := Nat.div_add_mod d (orb q m d g)
  apply Classical.byContradiction
  intro z
  have hr : d % orb q m d g < orb q m d g := Nat.mod_lt _ (by omega)
  have ho : itg (frq q) (orb q m d g) (kt hg) = (kt hg : KT n) := Subtype.ext ((fri_val hp.1 _ (kt hg)).trans o3)
  have hper : ∀ c i, itg (frq q) (i + orb q m d g * c) (kt hg : KT n) = itg (frq q) i (kt hg) := fun c => by
    induction c with
    | zero => exact fun i => rfl
    | succ c ih =>
      intro i
      rw [Nat.mul_succ, ← Nat.add_assoc, itg_add, ho, ih]
  have h3 := hper (d / orb q m d g) (d % orb q m d g)
  rw [show d % orb q m d g + orb q m d g * (d / orb q m d g) = d by omega, fri_d hp] at h3
  refine o4 (d % orb q m d g) (by omega) hr ?_
  have h5 := congrArg Subtype.val h3
  rw [fri_val hp.1] at h5
  exact h5.symm
theorem gul_prf (hp : Pw q m d n) {g : Nat} (hg : g < n) (r : Nat) : letI := kR hp.1; gul q m d g r 0 1 = (prf (fun j => itg (frq q) j (kt hg : KT n)) r).1 := by
  letI ik := kR hp.1
  have hn := hp.1.n2
  induction r with
  | zero => rfl
  | succ r ih =>
    have e : (prf (fun j => itg (frq q) j (kt hg : KT n)) (r + 1)).1 = mu q m (prf (fun j => itg (frq q) j (kt hg : KT n)) r).1 (itg (frq q) r (kt hg)).1 := rfl
    rw [gul_snoc hp hg r 0 1 (by omega), e, ← ih, Nat.zero_add, tu_itr hp hg, fri_val hp.1]
    rfl
/-- what leads the determinant -/
theorem lpr_gu (hp : Pw q m d n) {g2 : Nat} (hg : g2 < n) (h1 : 1 ≤ g2) {ig : KT n} (hig : letI := kR hp.1; ig * kt hg = 1) : letI := kR hp.1; ∃ h : gu q m d n g2 < q, lpr (fun j => gam hp (j + 2) ig) d = fgm hp.1 (kt h) := by
  have w := hp.1
  letI iq := kR (wd_q hp.1)
  letI ik := kR hp.1
  have h2 := w.q2
  have hd1 : 1 ≤ d := w.2.2.2.2.1
  have hqn := q_le_n w
  have hU := uniOK q m d n g2 hp h1 hg
  have hgp := gul_pos hp h1 hg d 0 1 (Nat.le_refl _) (by have := w.n2; omega)
  have hgf := gun_fig hp h1 hg hU
  have hiv := iv_lt w.hq hU
  have hguq : gun q m d n g2 < q := by
    rw [hgf]
    exact hiv
  have hper : ∀ (x : KT n) i, itg (frq q) (i + d) x = itg (frq q) i x := fun x i => by
    have := fri_mulp hp x i 1
    rw [Nat.mul_one] at this
    exact this
  -- the norm, in two orders
  have hN : prf (fun j => gam hp (j + 2) (kt hg : KT n)) d = prf (fun j => itg (frq q) j (kt hg : KT n)) d := by
    have e1 : ∀ j, gam hp (j + 2) (kt hg : KT n) = itg (frq q) ((d - 1) * j) (itg (frq q) ((d - 1) * 2) (kt hg)) := fun j => by
      show itg (frq q) ((d - 1) * (j + 2)) (kt hg) = _
      rw [Nat.mul_add, itg_add]
    rw [prf_cg d (fun j _ => e1 j), prf_rev (h := fun i => itg (frq q) i (itg (frq q) ((d - 1) * 2) (kt hg : KT n))) hd1 (hper _)]
    have e2 : ∀ k, prf (fun i => itg (frq q) i (itg (frq q) k (kt hg : KT n))) d = prf (fun i => itg (frq q) i (kt hg : KT n)) d := fun k => by
      induction k with
      | zero => rfl
      | succ k ih =>
        rw [← ih, itg_s]
        exact prf_shift (h := fun i => itg (frq q) i (itg (frq q) k (kt hg : KT n))) hd1 (hper _)
    exact e2 _
  have hgi : ∀ j, -(gam hp (j + 2) ig) * gam hp (j + 2) (kt hg : KT n) = -1 := fun j => by
    have e : gam hp (j + 2) ig * gam hp (j + 2) (kt hg : KT n) = 1 := by
      show itg (frq q) _ ig * itg (frq q) _ (kt hg) = 1
      rw [← fri_mul, hig]
      have e := fgm_fri hp.1 1 ((d - 1) * (j + 2))
      rw [(fgm_hom hp.1).2.2] at e
      exact e
    generalize gam hp (j + 2) ig = A at *
    generalize gam hp (j + 2) (kt hg : KT n) = B at *
    clear hN
    grind
  have hmul : lpr (fun j => gam hp (j + 2) ig) d * prf (fun j => itg (frq q) j (kt hg : KT n)) d = prf (fun _ => (-1 : KT n)) d := by
    rw [lpr_prf, ← hN, ← prf_mul]
    exact prf_cg d (fun j _ => hgi j)
  rw [prf_neg1] at hmul
  have hnu : prf (fun j => itg (frq q) j (kt hg : KT n)) d = fgm hp.1 (kt hU) := Subtype.ext (gul_prf hp hg d).symm
  have hinv : fgm hp.1 (kt hU) * fgm hp.1 (kt hguq) = 1 := Subtype.ext (by
    show mu q m (gul q m d g2 d 0 1) (gun q m d n g2) = 1
    rw [hgf, mu_fig w hU hiv]
    exact iv_mul w.hq hU (by omega))
  rw [hnu] at hmul
  have hres : lpr (fun j => gam hp (j + 2) ig) d = (if d % 2 = 1 then -1 else 1) * fgm hp.1 (kt hguq) := by
    rw [← hmul]
    generalize lpr (fun j => gam hp (j + 2) ig) d = A at *
    generalize fgm hp.1 (kt hU) = B at *
    generalize fgm hp.1 (kt hguq) = C at *
    clear hmul hgi hN
    grind
  rw [hres]
  have eg : gu q m d n g2 = if d % 2 = 1 then (q - gun q m d n g2) % q else gun q m d n g2 := rfl
  by_cases c : d % 2 = 1
  · rw [if_pos c] at eg
    have hlt : gu q m d n g2 < q := by
      rw [eg]
      exact Nat.mod_lt _ w.q0
    refine ⟨hlt, ?_⟩
    rw [if_pos c]
    have e1 : (kt hlt : KT q) + kt hguq = 0 := Subtype.ext (by
      show cmb q 1 13 (gu q m d n g2) (gun q m d n g2) = 0
      rw [eg, cmb_fig h2 (Nat.mod_lt _ w.q0) hguq, Nat.one_mul, Nat.mod_add_mod, show q - gun q m d n g2 + gun q m d n g2 = q by omega, Nat.mod_self])
    have e2 : (kt hlt : KT q) = -(kt hguq) := by
      generalize (kt hlt : KT q) = A at *
      generalize (kt hguq : KT q) = B at *
      clear hres hmul hgi hN hinv hnu
      grind
    rw [e2, hom_neg (fgm_hom hp.1)]
    generalize fgm hp.1 (kt hguq) = C
    grind
  · rw [if_neg c] at eg
    have hlt : gu q m d n g2 < q := by
      rw [eg]
      exact hguq
    refine ⟨hlt, ?_⟩
    rw [if_neg c]
    have e2 : (kt hlt : KT q) = kt hguq := Subtype.ext eg
    rw [e2]
    generalize fgm hp.1 (kt hguq) = C
    grind
theorem gnl_pn (w : Wd q m d n) {c e : Nat} (hc : c < q ^ 13) (he : ln q 13 c = e + 1) : ∀ r p, p < q ^ 13 → ln q 13 p + r * e ≤ 13 → gnl q c r p < q ^ 13 ∧ letI := kR (wd_q w); letI := plR (KT q); Pn w (gnl q c r p) = Pn w p * Pn w c ^ r := by
  letI iq := kR (wd_q w)
  letI := plR (KT q)
  have h2 := w.q2
  intro r
  induction r with
  | zero =>
    intro p hp _
    refine ⟨hp, ?_⟩
    show Pn w p = Pn w p * Pn w c ^ 0
    generalize Pn w p = A
    generalize Pn w c = B
    grind
  | succ r ih =>
    intro p hp hl
    have er : (r + 1) * e = r * e + e := by rw [Nat.add_mul, Nat.one_mul]
    have hc1 := ln_lt hc
    rw [he] at hc1
    have h1 := prd_lt h2 (ln_lt hp) hc1 (by omega) (by omega)
    have h3 := ln_le_lt (m := 13) h2 h1
    obtain ⟨a1, a2⟩ := ih (prd q p c) (prd_lt13 h2 hp hc (by omega)) (by omega)
    refine ⟨a1, ?_⟩
    show Pn w (gnl q c r (prd q p c)) = _
    rw [a2, pn_mul w hp hc (by omega)]
    generalize Pn w p = A
    generalize Pn w c = B
    grind
end NRM
