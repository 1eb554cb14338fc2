/-! the rests over themselves: rows of q-th powers -/
section KKX
variable {q m d n : Nat}
theorem k_chq (w : Wd q m d n) : letI := kR w; Chq (KT n) q := ⟨w.hq, k_q0 w⟩
theorem k_ne (w : Wd q m d n) : letI := kR w; (1 : KT n) ≠ 0 := fun z => by
  have : (1 : Nat) = 0 := congrArg Subtype.val z
  omega
theorem k_ivs (hp : Pw q m d n) : letI := kR hp.1; Ivs (KT n) := by
  have w := hp.1
  letI := kR hp.1
  intro a ha
  have hn := w.n2
  obtain ⟨i, hi, hi1⟩ := php n (fun i => mu q m i a.1) (fun i _ => mu_lt w a.2) (fun i j hi hj e => by
    have e : mu q m i a.1 = mu q m j a.1 := e
    have e1 : (kt hi : KT n) * a = kt hj * a := Subtype.ext e
    have e2 : ((kt hi : KT n) - kt hj) * a = 0 := by
      generalize (kt hi : KT n) = A at *
      generalize (kt hj : KT n) = B at *
      grind
    rcases k_nzd hp _ _ e2 with z | z
    · have e3 : (kt hi : KT n) = kt hj := by
        generalize (kt hi : KT n) = A at *
        generalize (kt hj : KT n) = B at *
        grind
      exact congrArg Subtype.val e3
    · exact absurd z ha) 1 (by omega)
  exact ⟨kt hi, Subtype.ext hi1⟩
theorem fri_val (w : Wd q m d n) (k : Nat) : ∀ x : KT n, letI := kR w; (itg (frq q) k x).1 = itr (fun v => tby q v m) k x.1 := by
  letI := kR w
  induction k with
  | zero => exact fun x => rfl
  | succ k ih =>
    intro x
    have e1 : itg (frq q) (k + 1) x = itg (frq q) k (frq q x) := rfl
    have e2 : (frq q x).1 = tby q x.1 m := k_tby w x
    rw [e1, ih, e2]
    rfl
theorem fri_d (hp : Pw q m d n) (x : KT n) : letI := kR hp.1; itg (frq q) d x = x := Subtype.ext ((fri_val hp.1 d x).trans (itr_d hp x.2))
theorem fri_mulp (hp : Pw q m d n) (x : KT n) (a c : Nat) : letI := kR hp.1; itg (frq q) (a + d * c) x = itg (frq q) a x := by
  letI := kR hp.1
  induction c with
  | zero => rfl
  | succ c ih => rw [Nat.mul_succ, ← Nat.add_assoc, itg_add, fri_d hp, ih]
theorem fgm_hom (w : Wd q m d n) : letI := kR (wd_q w); letI := kR w; Hom (fgm w) := by
  letI := kR (wd_q w)
  letI := kR w
  have wq := wd_q w
  refine ⟨fun a b => Subtype.ext rfl, fun a b => Subtype.ext ?_, Subtype.ext rfl⟩
  show mu q q a.1 b.1 = mu q m a.1 b.1
  rw [mu_fig wq a.2 b.2, mu_fig w a.2 b.2]
theorem hom_pow {R S : Type} [Lean.Grind.CommRing R] [Lean.Grind.CommRing S] {φ : R → S} (h : Hom φ) (x : R) (k : Nat) : φ (x ^ k) = φ x ^ k := by
  induction k with
  | zero =>
    have e : x ^ 0 = 1 := by grind
    have e1 : φ x ^ 0 = 1 := by
      generalize φ x = A
      grind
    rw [e, e1, h.2.2]
  | succ k ih => rw [pow_sp, h.2.1, ih, ← pow_sp]
theorem fgm_frq (w : Wd q m d n) (s : KT q) : letI := kR w; frq q (fgm w s) = fgm w s := by
  letI := kR (wd_q w)
  letI := kR w
  show fgm w s ^ q = fgm w s
  rw [← hom_pow (fgm_hom w), fq_pow w]
theorem fgm_fri (w : Wd q m d n) (s : KT q) (k : Nat) : letI := kR w; itg (frq q) k (fgm w s) = fgm w s := by
  letI := kR w
  induction k with
  | zero => rfl
  | succ k ih =>
    show itg (frq q) k (frq q (fgm w s)) = _
    rw [fgm_frq w, ih]
theorem frq_fig (hp : Pw q m d n) {x : KT n} (h : letI := kR hp.1; frq q x = x) : ∃ s : KT q, x = fgm hp.1 s := by
  letI := kR hp.1
  have h1 : tby q x.1 m = x.1 := by
    have e := congrArg Subtype.val h
    have e2 : (frq q x).1 = tby q x.1 m := k_tby hp.1 x
    rw [e2] at e
    exact e
  exact ⟨kt (k_fig hp x.2 h1), rfl⟩
/-- sums carried over -/
theorem lnc_map {R M R1 M1 : Type} [Lean.Grind.CommRing R] [Lean.Grind.CommRing M] [Lean.Grind.CommRing R1] [Lean.Grind.CommRing M1] {φ : R → M} {ψ : R1 → M1} {F : M → M1} {f : R → R1} (h0 : F 0 = 0) (h1 : ∀ x y, F (x + y) = F x + F y) (h3 : ∀ c x, F (φ c * x) = ψ (f c) * F x) (c : Nat → R) (b : Nat → M) (k : Nat) : F (lnc φ c b k) = lnc ψ (fun i => f (c i)) (fun i => F (b i)) k := by
  induction k with
  | zero => exact h0
  | succ k ih =>
    show F (lnc φ c b k + φ (c k) * b k) = lnc ψ (fun i => f (c i)) (fun i => F (b i)) k + ψ (f (c k)) * F (b k)
    rw [h1, ih, h3]
theorem lnc_sub {R M : Type} [Lean.Grind.CommRing R] [Lean.Grind.CommRing M] {φ : R → M} (h : Hom φ) (a c : Nat → R) (b : Nat → M) (k : Nat) : lnc φ (fun i => a i - c i) b k = lnc φ a b k - lnc φ c b k := by
  induction k with
  | zero =>
    show (0 : M) = 0 - 0
    grind
  | succ k ih =>
    have e : φ (a k - c k) = φ (a k) - φ (c k) := by
      have e1 : a k - c k = a k + -(c k) := by grind
      rw [e1, h.1, hom_neg h]
      grind
    show lnc φ (fun i => a i - c i) b k + φ (a k - c k) * b k = lnc φ a b k + φ (a k) * b k - (lnc φ c b k + φ (c k) * b k)
    rw [ih, e]
    generalize lnc φ a b k = A
    generalize lnc φ c b k = B
    grind
theorem lnc_sc {R M : Type} [Lean.Grind.CommRing R] [Lean.Grind.CommRing M] {φ : R → M} (h : Hom φ) (s : R) (c : Nat → R) (b : Nat → M) (k : Nat) : lnc φ (fun i => s * c i) b k = φ s * lnc φ c b k := by
  induction k with
  | zero =>
    show (0 : M) = φ s * 0
    grind
  | succ k ih =>
    show lnc φ (fun i => s * c i) b k + φ (s * c k) * b k = φ s * (lnc φ c b k + φ (c k) * b k)
    rw [ih, h.2.1]
    generalize lnc φ c b k = A
    grind
theorem lnc_cg {R M : Type} [Lean.Grind.CommRing R] [Lean.Grind.CommRing M] {φ : R → M} {a c : Nat → R} {b : Nat → M} (k : Nat) : (∀ i, i < k → a i = c i) → lnc φ a b k = lnc φ c b k := by
  induction k with
  | zero => exact fun _ => rfl
  | succ k ih =>
    intro h
    show lnc φ a b k + φ (a k) * b k = lnc φ c b k + φ (c k) * b k
    rw [ih (fun i hi => h i (by omega)), h k (by omega)]
theorem pqC_hom {S : Type} [Lean.Grind.CommRing S] (d : Nat) : letI := pqR d S; Hom (pqC : S → PQ d S) := ⟨fun _ _ => rfl, fun _ _ => rfl, rfl⟩
/-- x, x^q, .. -/
def iot (hp : Pw q m d n) (x : KT n) : PQ d (KT n) := letI := kR hp.1; ⟨fun k => itg (frq q) k x, fun i => by
  have := fri_mulp hp x i 1
  rw [Nat.mul_one] at this
  exact this⟩
/-- each to the power of q -/
def pqS (hp : Pw q m d n) (y : PQ d (KT n)) : PQ d (KT n) := letI := kR hp.1; ⟨fun k => frq q (y.1 k), fun i => congrArg (frq q) (pqp y i)⟩
/-- from the second on -/
def pqT {S : Type} {d : Nat} (y : PQ d S) : PQ d S := ⟨fun k => y.1 (k + 1), fun i => by
  show y.1 (i + d + 1) = y.1 (i + 1)
  rw [show i + d + 1 = i + 1 + d by omega]
  exact pqp y (i + 1)⟩
theorem iot_ST (hp : Pw q m d n) (x : KT n) : pqS hp (iot hp x) = pqT (iot hp x) := by
  letI := kR hp.1
  exact Subtype.ext (funext fun k => (itg_s (frq q) k x).symm)
theorem pqT_inj {S : Type} [Lean.Grind.CommRing S] {d : Nat} (hd : 1 ≤ d) {y : PQ d S} (h : letI := pqR d S; pqT y = 0) : letI := pqR d S; y = 0 := by
  letI := pqR d S
  refine Subtype.ext (funext fun k => ?_)
  have h1 : (pqT y).1 (k + d - 1) = 0 := by
    rw [h]
    rfl
  have h3 : y.1 (k + d - 1 + 1) = 0 := h1
  rw [show k + d - 1 + 1 = k + d by omega] at h3
  exact (pqp y k).symm.trans h3
/-- what is free over the figures is free in rows -/
theorem iot_free (hp : Pw q m d n) {b : Nat → KT n} {D : Nat} (hb : letI := kR (wd_q hp.1); letI := kR hp.1; ∀ j, j < D → ∀ s, SPn (fgm hp.1) b j (fgm hp.1 s * b j) → s = 0) (j : Nat) : j ≤ D → letI := kR hp.1; letI := pqR d (KT n); ∀ c : Nat → KT n, lnc pqC c (fun i => iot hp (b i)) j = 0 → ∀ i, i < j → c i = 0 := by
  have w := hp.1
  letI iq := kR (wd_q hp.1)
  letI ik := kR hp.1
  letI ix := pqR d (KT n)
  have hd1 : 1 ≤ d := w.2.2.2.2.1
  have hC := pqC_hom (S := KT n) d
  have hch := k_chq hp.1
  induction j with
  | zero => exact fun _ c _ i hi => absurd hi (Nat.not_lt_zero _)
  | succ j ih =>
    intro hj c hc i hi
    have hc1 : lnc pqC c (fun i => iot hp (b i)) j + pqC (c j) * iot hp (b j) = 0 := hc
    by_cases c0 : c j = 0
    · by_cases z : i = j
      · rw [z, c0]
      · refine ih (by omega) c ?_ i (by omega)
        rw [c0] at hc1
        have e : (pqC (0 : KT n) : PQ d (KT n)) = 0 := rfl
        rw [e] at hc1
        generalize lnc pqC c (fun i => iot hp (b i)) j = A at *
        generalize iot hp (b j) = B at *
        grind
    · exfalso
      obtain ⟨v, hv⟩ := k_ivs hp _ c0
      -- b j by those before
      have he : lnc pqC (fun i => -v * c i) (fun i => iot hp (b i)) j = iot hp (b j) := by
        rw [lnc_sc hC, hom_neg hC]
        have e1 : (pqC v : PQ d (KT n)) * pqC (c j) = 1 := by
          rw [← hC.2.1, hv]
          rfl
        generalize lnc pqC c (fun i => iot hp (b i)) j = A at *
        generalize iot hp (b j) = B at *
        generalize (pqC v : PQ d (KT n)) = V at *
        generalize (pqC (c j) : PQ d (KT n)) = C at *
        clear hc ih hb
        grind
      have hS : ∀ a : Nat → KT n, pqS hp (lnc pqC a (fun i => iot hp (b i)) j) = lnc pqC (fun i => frq q (a i)) (fun i => pqS hp (iot hp (b i))) j := fun a => lnc_map (φ := pqC) (ψ := pqC) (F := pqS hp) (f := frq q) (Subtype.ext (funext fun k => fri_0 hch 1)) (fun x y => Subtype.ext (funext fun k => frq_add hch _ _)) (fun x y => Subtype.ext (funext fun k => frq_mul q _ _)) a _ j
      have hT : ∀ a : Nat → KT n, pqT (lnc pqC a (fun i => iot hp (b i)) j) = lnc pqC a (fun i => pqT (iot hp (b i))) j := fun a => lnc_map (φ := pqC) (ψ := pqC) (F := pqT) (f := fun x => x) rfl (fun x y => rfl) (fun x y => rfl) a _ j
      have hST : (fun i => pqS hp (iot hp (b i))) = fun i => pqT (iot hp (b i)) := funext fun i => iot_ST hp (b i)
      have h1 := hS (fun i => -v * c i)
      rw [he, iot_ST, hST, ← he, hT] at h1
      have h3 : pqT (lnc pqC (fun i => frq q (-v * c i) - (-v * c i)) (fun i => iot hp (b i)) j) = 0 := by
        rw [hT, lnc_sub hC, ← h1]
        generalize lnc pqC (fun i => -v * c i) (fun i => pqT (iot hp (b i))) j = A
        grind
      have h5 := ih (by omega) _ (pqT_inj hd1 h3)
      have h7 : ∀ i, i < j → ∃ s : KT q, -v * c i = fgm hp.1 s := fun i hi => frq_fig hp (by
        have := h5 i hi
        generalize frq q (-v * c i) = A at *
        generalize -v * c i = B at *
        grind)
      have hev : lnc (fun x => x) (fun i => -v * c i) b j = b j := by
        have e1 := lnc_map (R := KT n) (M := PQ d (KT n)) (R1 := KT n) (M1 := KT n) (φ := pqC) (ψ := fun x => x) (F := fun y => y.1 0) (f := fun x => x) rfl (fun x y => rfl) (fun x y => rfl) (fun i => -v * c i) (fun i => iot hp (b i)) j
        rw [he] at e1
        exact e1.symm
      have hL : Lop (fgm hp.1) (fun x : KT n => x) := ⟨(fgm_hom hp.1).1, (fgm_hom hp.1).2.1, (fgm_hom hp.1).2.2, fun _ _ => rfl, fun _ _ => rfl⟩
      have hsp : SPn (fgm hp.1) b j (fgm hp.1 1 * b j) := by
        have e1 : fgm hp.1 (1 : KT q) * b j = b j := by
          rw [(fgm_hom hp.1).2.2]
          generalize b j = A
          grind
        rw [e1, ← hev]
        have e3 : ∀ k, k ≤ j → SPn (fgm hp.1) b j (lnc (fun x => x) (fun i => -v * c i) b k) := fun k => by
          induction k with
          | zero => exact fun _ => SPn.zero hL j
          | succ k ih2 =>
            intro hk
            obtain ⟨s, hs⟩ := h7 k (by omega)
            refine SPn.add hL (ih2 (by omega)) ?_
            show SPn (fgm hp.1) b j (-v * c k * b k)
            rw [hs]
            exact SPn.sc hL s (SPn.self hL (by omega))
        exact e3 j (Nat.le_refl _)
      exact q_ne hp.1 (hb j (by omega) 1 hsp)
end KKX
