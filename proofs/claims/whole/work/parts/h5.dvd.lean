/-! polynomials over a field: what divides -/
/-- a divides b -/
def Dv {R : Type} [Lean.Grind.CommRing R] (a b : PL R) : Prop := letI := plR R; ∃ c, b = c * a
theorem Dv.refl {R : Type} [Lean.Grind.CommRing R] (a : PL R) : Dv a a := by
  letI := plR R
  exact ⟨1, by grind⟩
theorem Dv.trans {R : Type} [Lean.Grind.CommRing R] {a b c : PL R} (h : Dv a b) (h1 : Dv b c) : Dv a c := by
  letI := plR R
  obtain ⟨x, hx⟩ := h
  obtain ⟨y, hy⟩ := h1
  exact ⟨y * x, by grind⟩
theorem Dv.add {R : Type} [Lean.Grind.CommRing R] {a b c : PL R} (h : Dv a b) (h1 : Dv a c) : letI := plR R; Dv a (b + c) := by
  letI := plR R
  obtain ⟨x, hx⟩ := h
  obtain ⟨y, hy⟩ := h1
  exact ⟨x + y, by grind⟩
theorem Dv.sub {R : Type} [Lean.Grind.CommRing R] {a b c : PL R} (h : Dv a b) (h1 : Dv a c) : letI := plR R; Dv a (b - c) := by
  letI := plR R
  obtain ⟨x, hx⟩ := h
  obtain ⟨y, hy⟩ := h1
  exact ⟨x - y, by grind⟩
theorem Dv.mul {R : Type} [Lean.Grind.CommRing R] {a b : PL R} (h : Dv a b) (c : PL R) : letI := plR R; Dv a (c * b) := by
  letI := plR R
  obtain ⟨x, hx⟩ := h
  exact ⟨c * x, by grind⟩
theorem Dv.mulr {R : Type} [Lean.Grind.CommRing R] {a b : PL R} (h : Dv a b) (c : PL R) : letI := plR R; Dv a (b * c) := by
  letI := plR R
  obtain ⟨x, hx⟩ := h
  exact ⟨c * x, by grind⟩
theorem Dv.zero {R : Type} [Lean.Grind.CommRing R] (a : PL R) : letI := plR R; Dv a 0 := by
  letI := plR R
  exact ⟨0, by grind⟩
theorem Dv.self_l {R : Type} [Lean.Grind.CommRing R] (a c : PL R) : letI := plR R; Dv a (a * c) := by
  letI := plR R
  exact ⟨c, by grind⟩
theorem Dv.self_r {R : Type} [Lean.Grind.CommRing R] (a c : PL R) : letI := plR R; Dv a (c * a) := by
  letI := plR R
  exact ⟨c, rfl⟩
/-- the other factor of a monic one -/
theorem mnc_quo {R : Type} [Lean.Grind.CommRing R] (hR : (1 : R) ≠ 0) {a b x : PL R} {A B : Nat} (ha : Mnc a A) (hb : Mnc b B) (h : letI := plR R; b = x * a) : A ≤ B ∧ Mnc x (B - A) := by
  letI := plR R
  have hx : x ≠ 0 := fun z => mnc_ne hR hb (by rw [h, z]; grind)
  obtain ⟨j, j1, j2⟩ := pl_top x hx
  have h3 : (x * a).1 (j + A) = x.1 j * a.1 A := cvq_lead j x.1 a.1 (fun i hi => j2 i (by omega)) (fun i hi => ha.2 i (by omega))
  rw [← h, ha.1] at h3
  have hm := j2.mul ha.2
  rw [← h] at hm
  have e : j + A = B := by
    rcases Nat.lt_trichotomy (j + A) B with z | z | z
    · have := hm B (by omega)
      rw [hb.1] at this
      exact absurd this hR
    · exact z
    · rw [hb.2 (j + A) (by omega)] at h3
      exact absurd (by grind : x.1 j = 0) j1
  rw [e, hb.1] at h3
  have e2 : B - A = j := by omega
  refine ⟨by omega, ?_⟩
  rw [e2]
  exact ⟨by grind, j2⟩
theorem mnc_dvle {R : Type} [Lean.Grind.CommRing R] (hR : (1 : R) ≠ 0) {a b : PL R} {A B : Nat} (ha : Mnc a A) (hb : Mnc b B) (h : Dv a b) : A ≤ B := by
  obtain ⟨x, hx⟩ := h
  exact (mnc_quo hR ha hb hx).1
theorem mnc_1 {R : Type} [Lean.Grind.CommRing R] {a : PL R} (ha : Mnc a 0) : letI := plR R; a = 1 := pl_ext (fun k => by
  rw [pl_one]
  by_cases c : k = 0
  · rw [if_pos c, c]
    exact ha.1
  · rw [if_neg c]
    exact ha.2 k (by omega))
theorem mnc_dveq {R : Type} [Lean.Grind.CommRing R] (hR : (1 : R) ≠ 0) {a b : PL R} {A : Nat} (ha : Mnc a A) (hb : Mnc b A) (h : Dv a b) : a = b := by
  letI := plR R
  obtain ⟨x, hx⟩ := h
  have := (mnc_quo hR ha hb hx).2
  rw [Nat.sub_self] at this
  rw [hx, mnc_1 this]
  grind
theorem mnc_deg {R : Type} [Lean.Grind.CommRing R] (hR : (1 : R) ≠ 0) {a : PL R} {A B : Nat} (ha : Mnc a A) (hb : Mnc a B) : A = B := by
  rcases Nat.lt_trichotomy A B with z | z | z
  · have := ha.2 B (by omega)
    rw [hb.1] at this
    exact absurd this hR
  · exact z
  · have := hb.2 A (by omega)
    rw [ha.1] at this
    exact absurd this hR
theorem dv_small {R : Type} [Lean.Grind.CommRing R] {a b : PL R} {A : Nat} (ha : Mnc a A) (hb : Dlt b A) (h : Dv a b) : letI := plR R; b = 0 := by
  letI := plR R
  obtain ⟨x, hx⟩ := h
  apply Classical.byContradiction
  intro c
  have hx0 : x ≠ 0 := fun z => c (by rw [hx, z]; grind)
  obtain ⟨j, j1, j2⟩ := pl_top x hx0
  have h3 : (x * a).1 (j + A) = x.1 j * a.1 A := cvq_lead j x.1 a.1 (fun i hi => j2 i (by omega)) (fun i hi => ha.2 i (by omega))
  rw [← hx, ha.1, hb (j + A) (by omega)] at h3
  apply j1
  grind
/-- what is closed and holds a monic is made by one -/
theorem idl_gen {R : Type} [Lean.Grind.CommRing R] (hI : Ivs R) {I : PL R → Prop} (h0 : letI := plR R; I 0) (h1 : letI := plR R; ∀ a b, I a → I b → I (a + b)) (h2 : letI := plR R; ∀ c a, I a → I (c * a)) {f : PL R} {N : Nat} (hf : Mnc f N) (hf1 : I f) : ∃ t K, Mnc t K ∧ I t ∧ ∀ a, I a → Dv t a := by
  letI := plR R
  have hA : Acts R (PL R) (fun a x => a * x) := by
    refine ⟨fun a b x => ?_, fun a b x => ?_, fun x => ?_, fun a x y => ?_⟩
    · show (a + b) * x = a * x + b * x
      grind
    · show (a * b) * x = a * (b * x)
      grind
    · show 1 * x = x
      grind
    · show a * (x + y) = a * x + a * y
      grind
  have e : ∀ a : PL R, a * 1 = a := fun a => by grind
  obtain ⟨t, ⟨K, hK⟩, ht⟩ := gen_of hI hA (U := I) ⟨h0, h1, h2⟩ (v := 1) N f hf (by
    show I (f * 1)
    rw [e]
    exact hf1)
  have ht2 : ∀ a, I a ↔ ∃ c, a = c * t := fun a => by
    have := ht a
    dsimp only at this
    rw [e] at this
    exact this
  exact ⟨t, K, hK, (ht2 t).mpr ⟨1, by grind⟩, fun a ha => (ht2 a).mp ha⟩
/-- not to be divided -/
def Irr {R : Type} [Lean.Grind.CommRing R] (p : PL R) (N : Nat) : Prop := Mnc p N ∧ 1 ≤ N ∧ ∀ a K, Mnc a K → Dv a p → K = 0 ∨ K = N
theorem irr_prm {R : Type} [Lean.Grind.CommRing R] (hR : (1 : R) ≠ 0) (hI : Ivs R) {p a b : PL R} {N : Nat} (hp : Irr p N) (h : letI := plR R; Dv p (a * b)) : Dv p a ∨ Dv p b := by
  letI := plR R
  obtain ⟨t, K, t1, t2, t3⟩ := idl_gen hI (I := fun x => Dv p (x * b)) (by
    have e : (0 : PL R) * b = 0 := by grind
    show Dv p (0 * b)
    rw [e]
    exact Dv.zero p) (fun x y hx hy => by
    have e : (x + y) * b = x * b + y * b := by grind
    show Dv p ((x + y) * b)
    rw [e]
    exact Dv.add hx hy) (fun c x hx => by
    have e : (c * x) * b = c * (x * b) := by grind
    show Dv p ((c * x) * b)
    rw [e]
    exact Dv.mul hx c) hp.1 (Dv.self_l p b)
  rcases hp.2.2 t K t1 (t3 p (Dv.self_l p b)) with z | z
  · subst z
    right
    have t2 : Dv p (t * b) := t2
    rw [mnc_1 t1] at t2
    have e : (1 : PL R) * b = b := by grind
    rw [e] at t2
    exact t2
  · subst z
    left
    rw [← mnc_dveq hR t1 hp.1 (t3 p (Dv.self_l p b))]
    exact t3 a h
/-- each monic has one that is not to be divided -/
theorem irr_ex {R : Type} [Lean.Grind.CommRing R] (hR : (1 : R) ≠ 0) (N : Nat) : ∀ a : PL R, Mnc a N → 1 ≤ N → ∃ p K, Irr p K ∧ Dv p a := by
  induction N using Nat.strongRecOn with
  | ind N ih =>
    intro a ha hN
    by_cases c : ∃ b K, Mnc b K ∧ Dv b a ∧ K ≠ 0 ∧ K ≠ N
    · obtain ⟨b, K, c1, c2, c3, c4⟩ := c
      have := mnc_dvle hR c1 ha c2
      obtain ⟨p, M, p1, p2⟩ := ih K (by omega) b c1 (by omega)
      exact ⟨p, M, p1, p2.trans c2⟩
    · refine ⟨a, N, ⟨ha, hN, fun b K hb hd => ?_⟩, Dv.refl a⟩
      apply Classical.byContradiction
      intro z
      exact c ⟨b, K, hb, hd, fun z1 => z (Or.inl z1), fun z1 => z (Or.inr z1)⟩
theorem irr_ne1 {R : Type} [Lean.Grind.CommRing R] (hR : (1 : R) ≠ 0) {p : PL R} {N : Nat} (hp : Irr p N) : letI := plR R; ¬ Dv p 1 := fun h => by
  have := mnc_dvle hR hp.1 (Mnc.one (R := R)) h
  have := hp.2.1
  omega
theorem irr_eq {R : Type} [Lean.Grind.CommRing R] (hR : (1 : R) ≠ 0) {p r : PL R} {N M : Nat} (hp : Irr p N) (hr : Irr r M) (h : Dv p r) : p = r := by
  rcases hr.2.2 p N hp.1 h with z | z
  · have := hp.2.1
    omega
  · subst z
    exact mnc_dveq hR hp.1 hr.1 h
/-- two monics: 1 is made of them, or something divides both -/
theorem bez {R : Type} [Lean.Grind.CommRing R] (hI : Ivs R) {a b : PL R} {N : Nat} (ha : Mnc a N) (h : ∀ d K, Mnc d K → Dv d a → Dv d b → K = 0) : letI := plR R; ∃ x y, x * a + y * b = 1 := by
  letI := plR R
  obtain ⟨t, K, t1, t2, t3⟩ := idl_gen hI (I := fun z => ∃ x y, x * a + y * b = z) ⟨0, 0, by grind⟩ (fun u v ⟨x, y, h1⟩ ⟨x1, y1, h3⟩ => ⟨x + x1, y + y1, by grind⟩) (fun c u ⟨x, y, h1⟩ => ⟨c * x, c * y, by grind⟩) ha ⟨1, 0, by grind⟩
  have z := h t K t1 (t3 a ⟨1, 0, by grind⟩) (t3 b ⟨0, 1, by grind⟩)
  subst z
  obtain ⟨x, y, hxy⟩ := t2
  exact ⟨x, y, by rw [hxy, mnc_1 t1]⟩
