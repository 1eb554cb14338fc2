/-! reciprocity -/
theorem Hom.comp {R S T : Type} [Lean.Grind.CommRing R] [Lean.Grind.CommRing S] [Lean.Grind.CommRing T] {φ : R → S} {ψ : S → T} (h : Hom φ) (h1 : Hom ψ) : Hom (fun x => ψ (φ x)) := ⟨fun a b => by
  show ψ (φ (a + b)) = ψ (φ a) + ψ (φ b)
  rw [h.1, h1.1], fun a b => by
  show ψ (φ (a * b)) = ψ (φ a) * ψ (φ b)
  rw [h.2.1, h1.2.1], by
  show ψ (φ 1) = 1
  rw [h.2.2, h1.2.2]⟩
theorem evf_tg {R : Type} [Lean.Grind.CommRing R] (g f : PL R) : letI := qrR g; evf (cst g) (tq g (mnm 1 1)) f = tq g f := by
  letI := plR R
  letI := qrR g
  have hh := cst_hom g
  refine pl_ind (P := fun f => evf (cst g) (tq g (mnm 1 1)) f = tq g f) (evf_0 hh _) (fun c f ih => ?_) f
  rw [evf_add hh, evf_mul hh, evf_mn hh, evf_mn hh, ih, tq_add, tq_mul, hh.2.2]
  have e : cst g c = tq g (mnm c 0) := rfl
  rw [← e]
  generalize cst g c = A
  generalize tq g f = B
  generalize tq g (mnm 1 1) = C
  clear ih hh
  grind
theorem evf_map {R S T : Type} [Lean.Grind.CommRing R] [Lean.Grind.CommRing S] [Lean.Grind.CommRing T] {φ : R → S} {ψ : S → T} (h : Hom φ) (h1 : Hom ψ) (y : T) (f : PL R) : evf ψ y (pmap h f) = evf (fun x => ψ (φ x)) y f := by
  obtain ⟨N, hN⟩ := Dlt.ex f
  have hN1 : Dlt (pmap h f) N := fun k hk => (congrArg φ (hN k hk)).trans (hom_0 h)
  rw [evf_is h1 y hN1, evf_is (h.comp h1) y hN]
  have key : ∀ N (g : Nat → R) x, acn ψ (fun u => y * u) N (fun k => φ (g k)) x = acn (fun x => ψ (φ x)) (fun u => y * u) N g x := fun N => by
    induction N with
    | zero => exact fun _ _ => rfl
    | succ N ih =>
      intro g x
      rw [acn_s, acn_s, ih (fun i => g (i + 1))]
  exact key N f.1 1
theorem hom_evf {R S T : Type} [Lean.Grind.CommRing R] [Lean.Grind.CommRing S] [Lean.Grind.CommRing T] {φ : R → S} {ψ : S → T} (h : Hom φ) (h1 : Hom ψ) (y : S) (f : PL R) : ψ (evf φ y f) = evf (fun x => ψ (φ x)) (ψ y) f := by
  letI := plR R
  have hc := h.comp h1
  refine pl_ind (P := fun f => ψ (evf φ y f) = evf (fun x => ψ (φ x)) (ψ y) f) ?_ (fun c f ih => ?_) f
  · rw [evf_0 h, evf_0 hc, hom_0 h1]
  · rw [evf_add h, evf_mul h, evf_mn h, evf_mn h, evf_add hc, evf_mul hc, evf_mn hc, evf_mn hc, h1.1, h1.2.1, h1.2.1, h1.2.1, hom_pow h1, hom_pow h1, ih]
theorem evf_lin {R S : Type} [Lean.Grind.CommRing R] [Lean.Grind.CommRing S] {φ : R → S} (h : Hom φ) (y : S) (a : R) : letI := plR R; evf φ y (mnm 1 1 - mnm a 0) = y - φ a := by
  rw [evf_sub h, evf_mn h, evf_mn h, h.2.2]
  generalize φ a = A
  grind
theorem evf_prf {R S : Type} [Lean.Grind.CommRing R] [Lean.Grind.CommRing S] {φ : R → S} (h : Hom φ) (y : S) (f : Nat → PL R) (N : Nat) : letI := plR R; evf φ y (prf f N) = prf (fun i => evf φ y (f i)) N := by
  letI := plR R
  induction N with
  | zero => exact evf_1 h y
  | succ N ih => rw [prf_s, prf_s, evf_mul h, ih]
theorem prf_map {S T : Type} [Lean.Grind.CommRing S] [Lean.Grind.CommRing T] {ψ : S → T} (h : Hom ψ) (f : Nat → S) (N : Nat) : ψ (prf f N) = prf (fun i => ψ (f i)) N := by
  induction N with
  | zero => exact h.2.2
  | succ N ih => rw [prf_s, prf_s, h.2.1, ih]
theorem prf_lin {S : Type} [Lean.Grind.CommRing S] (rs : Nat → S) (N : Nat) : letI := plR S; Mnc (prf (fun i => (mnm 1 1 - mnm (rs i) 0 : PL S)) N) N := by
  letI := plR S
  induction N with
  | zero => exact Mnc.one
  | succ N ih =>
    rw [prf_s]
    refine ih.mul (M := 1) ⟨?_, fun k hk => ?_⟩
    · rw [pl_sub]
      show (if 1 = 1 then (1 : S) else 0) - (if 1 = 0 then rs N else 0) = 1
      rw [if_pos rfl, if_neg (by omega)]
      grind
    · rw [pl_sub]
      show (if k = 1 then (1 : S) else 0) - (if k = 0 then rs N else 0) = 0
      rw [if_neg (by omega), if_neg (by omega)]
      grind
theorem prf_in {S : Type} [Lean.Grind.CommRing S] {f : Nat → S} {i : Nat} (N : Nat) (hi : i < N) (h : f i = 0) : prf f N = 0 := by
  induction N with
  | zero => exact absurd hi (Nat.not_lt_zero _)
  | succ N ih =>
    rw [prf_s]
    by_cases c : i = N
    · rw [← c, h]
      grind
    · rw [ih (by omega)]
      grind
/-- with as many roots as the degree: the product over the roots, wherever it is carried -/
theorem spl_roots {R S T : Type} [Lean.Grind.CommRing R] [Lean.Grind.CommRing S] [Lean.Grind.CommRing T] (nz : ∀ a b : S, a * b = 0 → a = 0 ∨ b = 0) {φ : R → S} (h : Hom φ) {ψ : S → T} (h1 : Hom ψ) {p : PL R} {e : Nat} (hp : Mnc p e) {rs : Nat → S} (hr : ∀ i, i < e → evf φ (rs i) p = 0) (hd : ∀ i j, i < e → j < e → rs i = rs j → i = j) (y : T) : evf (fun x => ψ (φ x)) y p = prf (fun i => y - ψ (rs i)) e := by
  letI := plR R
  letI := plR S
  have hid : Hom (fun x : S => x) := ⟨fun _ _ => rfl, fun _ _ => rfl, rfl⟩
  have hpm : Mnc (pmap h p) e := ⟨(congrArg φ hp.1).trans h.2.2, fun k hk => (congrArg φ (hp.2 k hk)).trans (hom_0 h)⟩
  have hL := prf_lin rs e
  have hD : Dlt (pmap h p - prf (fun i => (mnm 1 1 - mnm (rs i) 0 : PL S)) e) e := fun k hk => by
    rw [pl_sub]
    by_cases c : k = e
    · rw [c, hpm.1, hL.1]
      grind
    · rw [hpm.2 k (by omega), hL.2 k (by omega)]
      grind
  have hz := rts nz hid hD rs (fun i hi => by
    rw [evf_sub hid, evf_map h hid, hr i hi, evf_prf hid, prf_in e hi (by
      rw [evf_lin hid]
      grind)]
    grind) hd
  have heq : pmap h p = prf (fun i => (mnm 1 1 - mnm (rs i) 0 : PL S)) e := pl_ext (fun k => by
    have h5 : (pmap h p - prf (fun i => (mnm 1 1 - mnm (rs i) 0 : PL S)) e).1 k = 0 := by
      by_cases c : k < e
      · exact hz k c
      · exact hD k (by omega)
    rw [pl_sub] at h5
    generalize (pmap h p).1 k = A at *
    generalize (prf (fun i => (mnm 1 1 - mnm (rs i) 0 : PL S)) e).1 k = B at *
    clear hz hD hpm hL
    grind)
  rw [← evf_map h h1, heq, evf_prf h1]
  exact prf_cg e (fun i _ => evf_lin h1 y (rs i))
/-- from the rests by g to where g is nothing -/
noncomputable def lfq {R T : Type} [Lean.Grind.CommRing R] [Lean.Grind.CommRing T] {ι : R → T} (h : Hom ι) {y : T} {g : PL R} (hy : evf ι y g = 0) : QRg g → T := Quotient.lift (s := qSet g) (fun f => evf ι y f) (fun a b hab => by
  letI := plR R
  obtain ⟨c, hc⟩ := hab
  have e : a = c * g + b := by grind
  show evf ι y a = evf ι y b
  rw [e, evf_add h, evf_mul h, hy]
  generalize evf ι y c = A
  generalize evf ι y b = B
  grind)
theorem lfq_hom {R T : Type} [Lean.Grind.CommRing R] [Lean.Grind.CommRing T] {ι : R → T} (h : Hom ι) {y : T} {g : PL R} (hy : evf ι y g = 0) : letI := qrR g; Hom (lfq h hy) := by
  letI := plR R
  letI := qrR g
  refine ⟨fun a b => ?_, fun a b => ?_, evf_1 h y⟩
  · obtain ⟨x, rfl⟩ := tq_rep a
    obtain ⟨z, rfl⟩ := tq_rep b
    exact evf_add h y x z
  · obtain ⟨x, rfl⟩ := tq_rep a
    obtain ⟨z, rfl⟩ := tq_rep b
    exact evf_mul h y x z
theorem lfq_at {R T : Type} [Lean.Grind.CommRing R] [Lean.Grind.CommRing T] {ι : R → T} (h : Hom ι) {y : T} {g : PL R} (hy : evf ι y g = 0) (f : PL R) : lfq h hy (tq g f) = evf ι y f := rfl
theorem prf_swap {S : Type} [Lean.Grind.CommRing S] (f : Nat → Nat → S) (N M : Nat) : prf (fun i => prf (fun j => f i j) M) N = prf (fun j => prf (fun i => f i j) N) M := by
  induction N with
  | zero =>
    have h : ∀ M, prf (fun _ : Nat => (1 : S)) M = 1 := fun M => by
      induction M with
      | zero => rfl
      | succ M ih =>
        rw [prf_s, ih]
        grind
    exact (h M).symm
  | succ N ih =>
    rw [prf_s, ih, ← prf_mul]
    exact prf_cg M (fun j _ => rfl)
theorem prf_cst {S : Type} [Lean.Grind.CommRing S] (c : S) (N : Nat) : prf (fun _ => c) N = c ^ N := by
  induction N with
  | zero =>
    show (1 : S) = c ^ 0
    grind
  | succ N ih => rw [prf_s, ih, ← pow_sp]
/-- signs turned -/
theorem prf_turn {S : Type} [Lean.Grind.CommRing S] (x y : Nat → S) (N M : Nat) : prf (fun i => prf (fun j => x i - y j) M) N = (-1) ^ (N * M) * prf (fun j => prf (fun i => y j - x i) N) M := by
  have e1 : ∀ i j, x i - y j = -1 * (y j - x i) := fun i j => by grind
  have e2 : ∀ i, prf (fun j => x i - y j) M = (-1) ^ M * prf (fun j => y j - x i) M := fun i => by
    rw [prf_cg M (fun j _ => e1 i j), prf_mul, prf_cst]
  rw [prf_cg N (fun i _ => e2 i), prf_mul, prf_cst, prf_swap, pow_mulp, Nat.mul_comm]
theorem cst_inj {R : Type} [Lean.Grind.CommRing R] {g : PL R} {N : Nat} (hg : Mnc g N) (hN : 1 ≤ N) {a b : R} (h : cst g a = cst g b) : a = b := by
  letI := plR R
  have h3 := tq_eq.mp h
  have hd : Dlt (mnm a 0 - mnm b 0 : PL R) N := fun k hk => by
    rw [pl_sub]
    show (if k = 0 then a else 0) - (if k = 0 then b else 0) = 0
    rw [if_neg (by omega), if_neg (by omega)]
    grind
  have h5 := dv_small hg hd h3
  have h6 : (mnm a 0 - mnm b 0 : PL R).1 0 = 0 := by
    rw [h5]
    rfl
  rw [pl_sub] at h6
  have h7 : a - b = 0 := h6
  grind
section RCP
variable {q m d n : Nat}
/-- c is the norm of a by p -/
def NmR (w : Wd q m d n) (p : letI := kR (wd_q w); PL (KT q)) (e : Nat) (a : letI := kR (wd_q w); PL (KT q)) (c : KT q) : Prop := letI := kR (wd_q w); letI := qrR p; prf (fun i => itg (frq q) i (tq p a)) e = cst p c
theorem nm_ex (w : Wd q m d n) {p : letI := kR (wd_q w); PL (KT q)} {e : Nat} (hp : letI := kR (wd_q w); Irr p e) (he : e ≤ 13) (a : letI := kR (wd_q w); PL (KT q)) : ∃ c, NmR w p e a c := by
  letI := kR (wd_q w)
  letI := plR (KT q)
  letI := qrR p
  have hch := qr_chq (fq_chq w) p
  have hfix := (irr_fix w hp he).1
  refine frq_cst w hp _ ?_
  have hfm : ∀ N, frq q (prf (fun i => itg (frq q) i (tq p a)) N) = prf (fun i => itg (frq q) (i + 1) (tq p a)) N := fun N => by
    induction N with
    | zero =>
      have e1 := cst_frq w p 1
      exact e1
    | succ N ih => rw [prf_s, frq_mul, ih, prf_s, itg_s]
  rw [hfm]
  have h1 : prf (fun i => itg (frq q) i (tq p a)) (e + 1) = prf (fun i => itg (frq q) i (tq p a)) e * itg (frq q) e (tq p a) := rfl
  have hfa : itg (frq q) e (tq p a) = tq p a := fix_all w hfix _
  obtain ⟨f, rfl⟩ : ∃ f, e = f + 1 := ⟨e - 1, by have := hp.2.1; omega⟩
  rw [prf_s, prf_front, hfa]
  show prf (fun i => itg (frq q) (i + 1) (tq p a)) f * tq p a = tq p a * prf (fun i => itg (frq q) (i + 1) (tq p a)) f
  generalize prf (fun i => itg (frq q) (i + 1) (tq p a)) f = A
  generalize tq p a = B
  clear hfm h1 hfa hfix hch
  grind
theorem nm_one (w : Wd q m d n) {p : letI := kR (wd_q w); PL (KT q)} {e : Nat} (hp : letI := kR (wd_q w); Irr p e) {a : letI := kR (wd_q w); PL (KT q)} {c c1 : KT q} (h : NmR w p e a c) (h1 : NmR w p e a c1) : c = c1 := by
  letI := kR (wd_q w)
  letI := qrR p
  exact cst_inj hp.1 hp.2.1 (h.symm.trans h1)
theorem nm_mul (w : Wd q m d n) {p : letI := kR (wd_q w); PL (KT q)} {e : Nat} {a b : letI := kR (wd_q w); PL (KT q)} {c c1 : KT q} (h : NmR w p e a c) (h1 : NmR w p e b c1) : letI := kR (wd_q w); letI := plR (KT q); NmR w p e (a * b) (c * c1) := by
  letI := kR (wd_q w)
  letI := plR (KT q)
  letI := qrR p
  show prf (fun i => itg (frq q) i (tq p (a * b))) e = cst p (c * c1)
  have e1 : ∀ i, itg (frq q) i (tq p (a * b)) = itg (frq q) i (tq p a) * itg (frq q) i (tq p b) := fun i => by rw [tq_mul, fri_mul]
  have h : prf (fun i => itg (frq q) i (tq p a)) e = cst p c := h
  have h1 : prf (fun i => itg (frq q) i (tq p b)) e = cst p c1 := h1
  rw [prf_cg e (fun i _ => e1 i), prf_mul, h, h1, (cst_hom p).2.1]
theorem nm_cst (w : Wd q m d n) (p : letI := kR (wd_q w); PL (KT q)) (e : Nat) (c : KT q) : letI := kR (wd_q w); NmR w p e (mnm c 0) (c ^ e) := by
  letI := kR (wd_q w)
  letI := plR (KT q)
  letI := qrR p
  show prf (fun i => itg (frq q) i (tq p (mnm c 0))) e = cst p (c ^ e)
  have e1 : ∀ i, itg (frq q) i (tq p (mnm c 0)) = cst p c := fun i => by
    induction i with
    | zero => rfl
    | succ i ih =>
      rw [itg_s, ih]
      exact cst_frq w p c
  rw [prf_cg e (fun i _ => e1 i), prf_cst, hom_pow (cst_hom p)]
theorem nm_mod (w : Wd q m d n) {p : letI := kR (wd_q w); PL (KT q)} {e : Nat} {a b : letI := kR (wd_q w); PL (KT q)} {c : KT q} (hd : letI := kR (wd_q w); letI := plR (KT q); Dv p (a - b)) (h : NmR w p e a c) : NmR w p e b c := by
  letI := kR (wd_q w)
  letI := plR (KT q)
  letI := qrR p
  show prf (fun i => itg (frq q) i (tq p b)) e = cst p c
  rw [← tq_eq.mpr hd]
  exact h
theorem nm_0 (w : Wd q m d n) {p : letI := kR (wd_q w); PL (KT q)} {e : Nat} (he : 1 ≤ e) {a : letI := kR (wd_q w); PL (KT q)} (hd : letI := kR (wd_q w); Dv p a) : letI := kR (wd_q w); NmR w p e a 0 := by
  letI := kR (wd_q w)
  letI := plR (KT q)
  letI := qrR p
  show prf (fun i => itg (frq q) i (tq p a)) e = cst p 0
  have e1 : cst p (0 : KT q) = 0 := hom_0 (cst_hom p)
  rw [e1]
  exact prf_in (i := 0) e (by omega) (tq_dv.mpr hd)
/-- two primes -/
theorem nm_rec (w : Wd q m d n) {p r : letI := kR (wd_q w); PL (KT q)} {e f : Nat} (hp : letI := kR (wd_q w); Irr p e) (hr : letI := kR (wd_q w); Irr r f) (he : e ≤ 13) (hf : f ≤ 13) {c c1 : KT q} (h : NmR w p e r c) (h1 : NmR w r f p c1) : letI := kR (wd_q w); c = (-1) ^ (e * f) * c1 := by
  letI iq := kR (wd_q w)
  letI ipl := plR (KT q)
  letI ip := qrR p
  letI ir := qrR r
  have hR := q_ne w
  have hI := q_ivs w
  have hcp := cst_hom p
  have hcr := cst_hom r
  -- over the rests by p, by r
  letI iplp := plR (QRg p)
  letI iB := qrR (pmap hcp r)
  have hβ : Hom (cst (pmap hcp r)) := cst_hom _
  have hι : Hom (fun x => cst (pmap hcp r) (cst p x)) := hcp.comp hβ
  have hη : evf (fun x => cst (pmap hcp r) (cst p x)) (tq (pmap hcp r) (mnm 1 1)) r = 0 := by
    rw [← evf_map hcp hβ, evf_tg, tq_dv]
    exact Dv.refl _
  have hψ := lfq_hom hι hη
  have hψc : ∀ x, lfq hι hη (cst r x) = cst (pmap hcp r) (cst p x) := fun x => by
    have e1 : cst r x = tq r (mnm x 0) := rfl
    rw [e1, lfq_at, evf_mn hι]
    generalize cst (pmap hcp r) (cst p x) = A
    generalize (tq (pmap hcp r) (mnm 1 1)) = B
    grind
  have roots : ∀ {p : PL (KT q)} {e : Nat}, Irr p e → e ≤ 13 → letI := qrR p; (∀ i, evf (cst p) (itg (frq q) i (tq p (mnm 1 1))) p = 0) ∧ (∀ i j, i < e → j < e → itg (frq q) i (tq p (mnm 1 1)) = itg (frq q) j (tq p (mnm 1 1)) → i = j) ∧ ∀ i (a : PL (KT q)), itg (frq q) i (tq p a) = evf (cst p) (itg (frq q) i (tq p (mnm 1 1))) a := fun {p e} hp he => by
    letI := qrR p
    have hch := qr_chq (fq_chq w) p
    have nz := qr_nz hR hI hp
    have h1 : (1 : QRg p) ≠ 0 := fun z => irr_ne1 hR hp (tq_dv.mp z)
    have hev : ∀ i (a : PL (KT q)), itg (frq q) i (tq p a) = evf (cst p) (itg (frq q) i (tq p (mnm 1 1))) a := fun i a => by
      induction i with
      | zero => exact (evf_t w p a).symm
      | succ i ih => rw [itg_s, ih, ← evf_frq w, itg_s]
    have hlt : ∀ i j, i < j → j < e → itg (frq q) i (tq p (mnm 1 1)) ≠ itg (frq q) j (tq p (mnm 1 1)) := fun i j hij hj z => by
      have h5 : itg (frq q) (j - i) (tq p (mnm 1 1)) = tq p (mnm 1 1) := by
        refine fri_inj hch h1 nz (k := i) ?_
        rw [← itg_add, show i + (j - i) = j by omega]
        exact z.symm
      have := (irr_fix w hp he).2 (j - i) (by omega) h5
      omega
    refine ⟨fun i => ?_, fun i j hi hj hij => ?_, hev⟩
    · rw [← hev]
      have e1 : tq p p = 0 := tq_dv.mpr (Dv.refl p)
      rw [e1, fri_0 hch]
    · rcases Nat.lt_trichotomy i j with z | z | z
      · exact absurd hij (hlt i j z hj)
      · exact z
      · exact absurd hij.symm (hlt j i z hi)
  obtain ⟨p1, p2, p3⟩ := roots hp he
  obtain ⟨r1, r2, r3⟩ := roots hr hf
  have h : prf (fun i => itg (frq q) i (tq p r)) e = cst p c := h
  have h1 : prf (fun i => itg (frq q) i (tq r p)) f = cst r c1 := h1
  -- carried to one ring
  have k1 : cst (pmap hcp r) (cst p c) = prf (fun i => prf (fun j => cst (pmap hcp r) (itg (frq q) i (tq p (mnm 1 1))) - lfq hι hη (itg (frq q) j (tq r (mnm 1 1)))) f) e := by
    rw [← h, prf_map hβ]
    refine prf_cg e (fun i _ => ?_)
    rw [p3 i r, hom_evf hcp hβ]
    have hs := spl_roots (qr_nz hR hI hr) hcr hψ hr.1 (fun i _ => r1 i) r2 (cst (pmap hcp r) (itg (frq q) i (tq p (mnm 1 1))))
    have ef : (fun x => lfq hι hη (cst r x)) = fun x => cst (pmap hcp r) (cst p x) := funext hψc
    rw [ef] at hs
    exact hs
  have k2 : cst (pmap hcp r) (cst p c1) = prf (fun j => prf (fun i => lfq hι hη (itg (frq q) j (tq r (mnm 1 1))) - cst (pmap hcp r) (itg (frq q) i (tq p (mnm 1 1)))) e) f := by
    rw [← hψc, ← h1, prf_map hψ]
    refine prf_cg f (fun j _ => ?_)
    rw [r3 j p, hom_evf hcr hψ]
    have hs := spl_roots (qr_nz hR hI hp) hcp hβ hp.1 (fun i _ => p1 i) p2 (lfq hι hη (itg (frq q) j (tq r (mnm 1 1))))
    have ef : (fun x => lfq hι hη (cst r x)) = fun x => cst (pmap hcp r) (cst p x) := funext hψc
    rw [ef]
    exact hs
  rw [prf_turn, ← k2] at k1
  have hsg : ∀ N : Nat, cst (pmap hcp r) (cst p ((-1 : KT q) ^ N)) = (-1) ^ N := fun N => by
    rw [hom_pow hcp, hom_pow hβ, hom_neg hcp, hcp.2.2, hom_neg hβ, hβ.2.2]
  rw [← hsg, ← hβ.2.1, ← hcp.2.1] at k1
  have hrm : Mnc (pmap hcp r) f := ⟨(congrArg (cst p) hr.1.1).trans hcp.2.2, fun k hk => (congrArg (cst p) (hr.1.2 k hk)).trans (hom_0 hcp)⟩
  exact cst_inj hp.1 hp.2.1 (cst_inj hrm hr.2.1 k1)
end RCP
