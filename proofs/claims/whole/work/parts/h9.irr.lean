/-! over the figures: what is not to be divided, and q-th powers -/
section IRF
variable {q m d n : Nat}
theorem fq_pow (w : Wd q m d n) (a : KT q) : letI := kR (wd_q w); a ^ q = a := by
  letI := kR (wd_q w)
  refine Subtype.ext ((k_tby (wd_q w) a).trans ?_)
  have key : ∀ q : Nat, (q = 2 ∨ q = 3 ∨ q = 5) → ∀ a, a < q → tby q a q = a := by
    intro q hq
    rcases hq with rfl | rfl | rfl <;> decide
  exact key q w.hq a.1 a.2
theorem fq_chq (w : Wd q m d n) : letI := kR (wd_q w); Chq (KT q) q := ⟨w.hq, k_q0 (wd_q w)⟩
/-- a constant -/
def cst {R : Type} [Lean.Grind.CommRing R] (g : PL R) (c : R) : QRg g := tq g (mnm c 0)
theorem cst_hom {R : Type} [Lean.Grind.CommRing R] (g : PL R) : letI := qrR g; Hom (cst g) := by
  letI := plR R
  letI := qrR g
  refine ⟨fun a b => ?_, fun a b => ?_, rfl⟩
  · have e : (mnm (a + b) 0 : PL R) = mnm a 0 + mnm b 0 := pl_ext (fun k => by
      rw [pl_add]
      show (if k = 0 then a + b else 0) = (if k = 0 then a else 0) + (if k = 0 then b else 0)
      split
      · rfl
      · grind)
    show tq g (mnm (a + b) 0) = tq g (mnm a 0) + tq g (mnm b 0)
    rw [e, tq_add]
  · show tq g (mnm (a * b) 0) = tq g (mnm a 0) * tq g (mnm b 0)
    rw [← tq_mul, mnm_mn]
theorem mnm_pw {R : Type} [Lean.Grind.CommRing R] (c : R) (k : Nat) : letI := plR R; (mnm c 0 : PL R) ^ k = mnm (c ^ k) 0 := by
  letI := plR R
  induction k with
  | zero =>
    have e : (mnm c 0 : PL R) ^ 0 = 1 := by grind
    have e1 : c ^ 0 = 1 := by grind
    rw [e, e1]
    rfl
  | succ k ih =>
    have e : (mnm c 0 : PL R) ^ (k + 1) = mnm c 0 ^ k * mnm c 0 := by
      generalize (mnm c 0 : PL R) = A
      grind
    have e1 : c ^ (k + 1) = c ^ k * c := by grind
    rw [e, e1, ih, mnm_mn]
/-- without its first -/
def shf {R : Type} [Lean.Grind.CommRing R] (f : PL R) : PL R := ⟨fun i => f.1 (i + 1), by
  obtain ⟨N, hN⟩ := f.2
  exact ⟨N, fun k hk => hN (k + 1) (by omega)⟩⟩
theorem shf_dlt {R : Type} [Lean.Grind.CommRing R] {f : PL R} {N : Nat} (h : Dlt f (N + 1)) : Dlt (shf f) N := fun k hk => h (k + 1) (by omega)
theorem pl_dec {R : Type} [Lean.Grind.CommRing R] (f : PL R) : letI := plR R; f = mnm (f.1 0) 0 + mnm 1 1 * shf f := pl_ext (fun k => by
  rw [pl_add, mnm_mul]
  show f.1 k = (if k = 0 then f.1 0 else 0) + (if 1 ≤ k then 1 * f.1 (k - 1 + 1) else 0)
  by_cases c : k = 0
  · rw [if_pos c, if_neg (by omega), c]
    grind
  · rw [if_neg c, if_pos (by omega), Nat.sub_add_cancel (by omega)]
    grind)
/-- what holds of constants and of t times what it holds of -/
theorem pl_ind {R : Type} [Lean.Grind.CommRing R] {P : PL R → Prop} (h0 : letI := plR R; P 0) (h1 : letI := plR R; ∀ c f, P f → P (mnm c 0 + mnm 1 1 * f)) (f : PL R) : P f := by
  have key : ∀ N f, Dlt f N → P f := fun N => by
    induction N with
    | zero =>
      intro f hf
      rw [show f = (letI := plR R; 0) from pl_ext (fun k => hf k (Nat.zero_le _))]
      exact h0
    | succ N ih =>
      intro f hf
      rw [pl_dec f]
      exact h1 _ _ (ih _ (shf_dlt hf))
  obtain ⟨N, hN⟩ := Dlt.ex f
  exact key N f hN
theorem cst_frq (w : Wd q m d n) (g : letI := kR (wd_q w); PL (KT q)) (c : KT q) : letI := kR (wd_q w); letI := qrR g; frq q (cst g c) = cst g c := by
  letI := kR (wd_q w)
  letI := plR (KT q)
  letI := qrR g
  show tq g (mnm c 0) ^ q = tq g (mnm c 0)
  rw [← tq_pow, mnm_pw, fq_pow w]
theorem fix_all (w : Wd q m d n) {g : letI := kR (wd_q w); PL (KT q)} {k : Nat} (h : letI := kR (wd_q w); letI := qrR g; itg (frq q) k (tq g (mnm 1 1)) = tq g (mnm 1 1)) (y : letI := kR (wd_q w); QRg g) : letI := kR (wd_q w); letI := qrR g; itg (frq q) k y = y := by
  letI := kR (wd_q w)
  letI := plR (KT q)
  letI := qrR g
  have hch := qr_chq (fq_chq w) g
  have hc : ∀ k c, itg (frq q) k (cst g c) = cst g c := fun k c => by
    induction k with
    | zero => rfl
    | succ k ih =>
      show itg (frq q) k (frq q (cst g c)) = _
      rw [cst_frq w, ih]
  obtain ⟨f, rfl⟩ := tq_rep y
  refine pl_ind (P := fun f => itg (frq q) k (tq g f) = tq g f) ?_ (fun c f ih => ?_) f
  · rw [tq_0, fri_0 hch]
  · have e : tq g (mnm c 0 + mnm 1 1 * f) = cst g c + tq g (mnm 1 1) * tq g f := rfl
    rw [e, fri_add hch, fri_mul, hc, h, ih]
theorem evf_t (w : Wd q m d n) (g f : letI := kR (wd_q w); PL (KT q)) : letI := kR (wd_q w); letI := qrR g; evf (cst g) (tq g (mnm 1 1)) f = tq g f := by
  letI := kR (wd_q w)
  letI := plR (KT q)
  letI := qrR g
  have hh := cst_hom g
  refine pl_ind (P := fun f => evf (cst g) (tq g (mnm 1 1)) f = tq g f) (evf_0 hh _) (fun c f ih => ?_) f
  rw [evf_add hh, evf_mul hh, evf_mn hh, evf_mn hh, ih, tq_add, tq_mul, hh.2.2]
  have e : cst g c = tq g (mnm c 0) := rfl
  rw [← e]
  generalize cst g c = A
  generalize tq g f = B
  generalize tq g (mnm 1 1) = C
  grind
theorem evf_frq (w : Wd q m d n) (g f : letI := kR (wd_q w); PL (KT q)) (y : letI := kR (wd_q w); QRg g) : letI := kR (wd_q w); letI := qrR g; evf (cst g) (frq q y) f = frq q (evf (cst g) y f) := by
  letI := kR (wd_q w)
  letI := plR (KT q)
  letI := qrR g
  have hh := cst_hom g
  have hch := qr_chq (fq_chq w) g
  refine pl_ind (P := fun f => evf (cst g) (frq q y) f = frq q (evf (cst g) y f)) ?_ (fun c f ih => ?_) f
  · rw [evf_0 hh, evf_0 hh]
    exact (fri_0 hch 1).symm
  · have e : ∀ y : QRg g, cst g c * y ^ 0 = cst g c := fun y => by
      generalize cst g c = A
      grind
    have e1 : ∀ y : QRg g, 1 * y ^ 1 = y := fun y => by grind
    rw [evf_add hh, evf_mul hh, evf_mn hh, evf_mn hh, ih, evf_add hh, evf_mul hh, evf_mn hh, evf_mn hh, hh.2.2, e, e, e1, e1, frq_add hch, frq_mul, cst_frq w]
theorem qr_nz {R : Type} [Lean.Grind.CommRing R] (hR : (1 : R) ≠ 0) (hI : Ivs R) {p : PL R} {N : Nat} (hp : Irr p N) : letI := qrR p; ∀ a b : QRg p, a * b = 0 → a = 0 ∨ b = 0 := by
  letI := plR R
  letI := qrR p
  intro a b h
  obtain ⟨x, rfl⟩ := tq_rep a
  obtain ⟨y, rfl⟩ := tq_rep b
  rw [← tq_mul, tq_dv] at h
  rw [tq_dv, tq_dv]
  exact irr_prm hR hI hp h
theorem nz_pow {S : Type} [Lean.Grind.CommRing S] (h1 : (1 : S) ≠ 0) (nz : ∀ a b : S, a * b = 0 → a = 0 ∨ b = 0) (x : S) (k : Nat) : x ^ k = 0 → x = 0 := by
  induction k with
  | zero =>
    intro h
    have e : x ^ 0 = 1 := by grind
    exact absurd (e.symm.trans h) h1
  | succ k ih =>
    intro h
    have e : x ^ (k + 1) = x ^ k * x := by grind
    rw [e] at h
    rcases nz _ _ h with z | z
    · exact ih z
    · exact z
theorem fri_inj {S : Type} [Lean.Grind.CommRing S] (hch : Chq S q) (h1 : (1 : S) ≠ 0) (nz : ∀ a b : S, a * b = 0 → a = 0 ∨ b = 0) {x y : S} {k : Nat} (h : itg (frq q) k x = itg (frq q) k y) : x = y := by
  have h3 := fri_sub hch k x y
  rw [h] at h3
  have h5 : itg (frq q) k (x - y) = 0 := by
    rw [h3]
    generalize itg (frq q) k y = A
    grind
  rw [fri_pow] at h5
  have := nz_pow h1 nz _ _ h5
  grind
theorem pn_fig (w : Wd q m d n) (c : KT q) : letI := kR (wd_q w); Pn w c.1 = mnm c 0 := by
  letI := kR (wd_q w)
  have h2 := w.q2
  refine pl_ext (fun k => ?_)
  show _ = if k = 0 then c else 0
  by_cases c1 : k < 13
  · refine Subtype.ext ?_
    rw [pn_at w _ c1]
    by_cases c2 : k = 0
    · rw [if_pos c2, c2, dg_0, Nat.mod_eq_of_lt c.2]
    · rw [if_neg c2, dg_big (m := 1) (by rw [Nat.pow_one]; exact c.2) (by omega) h2]
      rfl
  · rw [pn_hi w _ (by omega), if_neg (by omega)]
theorem pn_surj (w : Wd q m d n) (N : Nat) : ∀ f : (letI := kR (wd_q w); PL (KT q)), N ≤ 13 → (letI := kR (wd_q w); Dlt f N) → ∃ a, a < q ^ N ∧ Pn w a = f := by
  letI := kR (wd_q w)
  letI := plR (KT q)
  have h2 := w.q2
  induction N with
  | zero =>
    intro f _ hf
    refine ⟨0, by rw [Nat.pow_zero]; omega, ?_⟩
    rw [pn_0 w]
    exact (pl_ext (fun k => hf k (Nat.zero_le _))).symm
  | succ N ih =>
    intro f hN hf
    obtain ⟨a, a1, a2⟩ := ih (shf f) (by omega) (shf_dlt hf)
    have h3 : a * q < q ^ (N + 1) := by
      rw [Nat.pow_succ]
      exact Nat.mul_lt_mul_of_pos_right a1 (by omega)
    have h4 : (f.1 0).1 < q ^ (N + 1) := by
      have h6 := (f.1 0).2
      have h5 : q ^ 1 ≤ q ^ (N + 1) := Nat.pow_le_pow_right (by omega) (by omega)
      rw [Nat.pow_one] at h5
      omega
    refine ⟨cmb q 1 13 (a * q) (f.1 0).1, cmb_small h2 h3 h4, ?_⟩
    rw [pn_add w, pn_shift w (Nat.lt_of_lt_of_le a1 (Nat.pow_le_pow_right (by omega) (by omega))), a2, pn_fig w]
    have e := pl_dec f
    generalize (mnm (f.1 0) 0 : PL (KT q)) = A at *
    generalize (mnm 1 1 * shf f : PL (KT q)) = B at *
    rw [e]
    grind
theorem qr_num (w : Wd q m d n) {g : letI := kR (wd_q w); PL (KT q)} {N : Nat} (hg : letI := kR (wd_q w); Mnc g N) (hN : N ≤ 13) (x : letI := kR (wd_q w); QRg g) : letI := kR (wd_q w); ∃ v, v < q ^ N ∧ tq g (Pn w v) = x := by
  letI := kR (wd_q w)
  letI := plR (KT q)
  obtain ⟨f, rfl⟩ := tq_rep x
  obtain ⟨M, hM⟩ := Dlt.ex f
  obtain ⟨b, r, e1, e2⟩ := pl_div hg M f hM
  obtain ⟨a, a1, a2⟩ := pn_surj w N r hN e2
  refine ⟨a, a1, ?_⟩
  rw [a2, tq_eq, e1]
  exact ⟨-b, by grind⟩
theorem qr_inj (w : Wd q m d n) {g : letI := kR (wd_q w); PL (KT q)} {N : Nat} (hg : letI := kR (wd_q w); Mnc g N) (hN : N ≤ 13) {u v : Nat} (hu : u < q ^ N) (hv : v < q ^ N) (h : letI := kR (wd_q w); tq g (Pn w u) = tq g (Pn w v)) : u = v := by
  letI := kR (wd_q w)
  letI := plR (KT q)
  have h2 := w.q2
  rw [tq_eq] at h
  have h3 := dv_small hg ((pn_dlt w hu).sub (pn_dlt w hv)) h
  have up : ∀ z, z < q ^ N → z < q ^ 13 := fun z hz => Nat.lt_of_lt_of_le hz (Nat.pow_le_pow_right (by omega) hN)
  refine pn_inj w (up u hu) (up v hv) ?_
  generalize Pn w u = A at *
  generalize Pn w v = B at *
  grind
/-- t by what is not to be divided, of degree e: its e-th q-th power is itself, none before -/
theorem irr_fix (w : Wd q m d n) {p : letI := kR (wd_q w); PL (KT q)} {e : Nat} (hp : letI := kR (wd_q w); Irr p e) (he : e ≤ 13) : letI := kR (wd_q w); letI := qrR p; itg (frq q) e (tq p (mnm 1 1)) = tq p (mnm 1 1) ∧ ∀ k, 1 ≤ k → itg (frq q) k (tq p (mnm 1 1)) = tq p (mnm 1 1) → e ≤ k := by
  letI := kR (wd_q w)
  letI := plR (KT q)
  letI := qrR p
  have h2 := w.q2
  have hR := q_ne w
  have hI := q_ivs w
  have hh := cst_hom p
  have hch := qr_chq (fq_chq w) p
  have nz := qr_nz hR hI hp
  have h1 : (1 : QRg p) ≠ 0 := fun z => irr_ne1 hR hp (tq_dv.mp z)
  have hgt : ∀ k, 1 ≤ k → itg (frq q) k (tq p (mnm 1 1)) = tq p (mnm 1 1) → e ≤ k := fun k hk hf => by
    apply Decidable.byContradiction
    intro c
    have hlt : q ^ k + 1 ≤ q ^ e := Nat.pow_lt_pow_right (by omega) (by omega)
    have hqk : 1 < q ^ k := by
      have : q ^ 1 ≤ q ^ k := Nat.pow_le_pow_right (by omega) hk
      rw [Nat.pow_one] at this
      omega
    have hd : Dlt (mnm 1 (q ^ k) - mnm 1 1 : PL (KT q)) (q ^ k + 1) := fun i hi => by
      rw [pl_sub]
      show (if i = q ^ k then (1 : KT q) else 0) - (if i = 1 then 1 else 0) = 0
      rw [if_neg (by omega), if_neg (by omega)]
      grind
    have := rts nz hh hd (fun i => tq p (Pn w i)) (fun i _ => by
      rw [evf_sub hh, evf_mn hh, evf_mn hh, ← fri_pow, fix_all w hf]
      generalize tq p (Pn w i) = A
      grind) (fun i j hi hj hij => qr_inj w hp.1 he (by omega) (by omega) hij) (q ^ k) (by omega)
    have e1 : (mnm 1 (q ^ k) - mnm 1 1 : PL (KT q)).1 (q ^ k) = 1 := by
      rw [pl_sub]
      show (if q ^ k = q ^ k then (1 : KT q) else 0) - (if q ^ k = 1 then 1 else 0) = 1
      rw [if_pos rfl, if_neg (by omega)]
      grind
    rw [e1, hh.2.2] at this
    exact h1 this
  have hex : ∃ i j, i < j ∧ itg (frq q) i (tq p (mnm 1 1)) = itg (frq q) j (tq p (mnm 1 1)) := by
    apply Classical.byContradiction
    intro c
    have hc : ∀ i, ∃ v, v < q ^ e ∧ tq p (Pn w v) = itg (frq q) i (tq p (mnm 1 1)) := fun i => qr_num w hp.1 he _
    have hpg := pigeon (q ^ e) (q ^ e + 1) (fun i => Classical.choose (hc i)) (fun i _ => (Classical.choose_spec (hc i)).1) (fun i j _ _ hij => by
      have e1 := (Classical.choose_spec (hc i)).2
      have e2 := (Classical.choose_spec (hc j)).2
      have hij : Classical.choose (hc i) = Classical.choose (hc j) := hij
      rw [hij, e2] at e1
      rcases Nat.lt_trichotomy i j with z | z | z
      · exact absurd ⟨i, j, z, e1.symm⟩ c
      · exact z
      · exact absurd ⟨j, i, z, e1⟩ c)
    omega
  obtain ⟨i, j, hij, heq⟩ := hex
  have hper : itg (frq q) (j - i - 1 + 1) (tq p (mnm 1 1)) = tq p (mnm 1 1) := by
    rw [show j - i - 1 + 1 = j - i by omega]
    refine fri_inj hch h1 nz (k := i) ?_
    rw [← itg_add, show i + (j - i) = j by omega]
    exact heq.symm
  obtain ⟨k, -, k2, k3⟩ := least (p := fun k => itg (frq q) (k + 1) (tq p (mnm 1 1)) = tq p (mnm 1 1)) hper
  have hle := hgt (k + 1) (by omega) k2
  refine ⟨?_, hgt⟩
  have hge : k + 1 ≤ e := by
    apply Decidable.byContradiction
    intro c
    have hroot : ∀ i, evf (cst p) (itg (frq q) i (tq p (mnm 1 1))) p = 0 := fun i => by
      induction i with
      | zero =>
        show evf (cst p) (tq p (mnm 1 1)) p = 0
        rw [evf_t w, tq_dv]
        exact Dv.refl p
      | succ i ih =>
        rw [itg_s, evf_frq w, ih]
        exact fri_0 hch 1
    have := rts nz hh (N := e + 1) hp.1.2 (fun i => itg (frq q) i (tq p (mnm 1 1))) (fun i _ => hroot i) (fun a b ha hb hab => by
      have key : ∀ a b, a < b → b < e + 1 → itg (frq q) a (tq p (mnm 1 1)) ≠ itg (frq q) b (tq p (mnm 1 1)) := fun a b hab hb z => by
        have h5 : itg (frq q) (b - a - 1 + 1) (tq p (mnm 1 1)) = tq p (mnm 1 1) := by
          rw [show b - a - 1 + 1 = b - a by omega]
          refine fri_inj hch h1 nz (k := a) ?_
          rw [← itg_add, show a + (b - a) = b by omega]
          exact z.symm
        exact k3 (b - a - 1) (by omega) h5
      rcases Nat.lt_trichotomy a b with z | z | z
      · exact absurd hab (key a b z hb)
      · exact z
      · exact absurd hab.symm (key b a z ha)) e (by omega)
    rw [hp.1.1, hh.2.2] at this
    exact h1 this
  have : k + 1 = e := by omega
  rw [← this]
  exact k2
end IRF
