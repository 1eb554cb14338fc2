/-! modules over polynomials: what one more vector needs -/
/-- a domain -/
def Dmn (R : Type) [Lean.Grind.CommRing R] : Prop := (∀ a b : R, a * b = 0 → a = 0 ∨ b = 0) ∧ (1 : R) ≠ 0
theorem pl_top {R : Type} [Lean.Grind.CommRing R] (f : PL R) (h : letI := plR R; f ≠ 0) : ∃ j, f.1 j ≠ 0 ∧ Dlt f (j + 1) := by
  obtain ⟨N, hN⟩ := f.2
  have key : ∀ N, Dlt f N → ∃ j, f.1 j ≠ 0 ∧ Dlt f (j + 1) := fun N => by
    induction N with
    | zero =>
      intro h0
      exact absurd (pl_ext (fun k => h0 k (Nat.zero_le _))) h
    | succ N ih =>
      intro h0
      by_cases c : f.1 N = 0
      · exact ih (fun k hk => by
          by_cases c1 : k = N
          · rw [c1]
            exact c
          · exact h0 k (by omega))
      · exact ⟨N, c, h0⟩
  exact key N hN
theorem mnc_ne {R : Type} [Lean.Grind.CommRing R] (hR : (1 : R) ≠ 0) {f : PL R} {N : Nat} (h : Mnc f N) : letI := plR R; f ≠ 0 := fun z => by
  have := h.1
  rw [z] at this
  exact hR this.symm
/-- monics that divide each other are one -/
theorem mnc_dvd {R : Type} [Lean.Grind.CommRing R] (hR : (1 : R) ≠ 0) {a b x y : PL R} {A B : Nat} (ha : Mnc a A) (hb : Mnc b B) (h1 : letI := plR R; b = x * a) (h2 : letI := plR R; a = y * b) : a = b := by
  letI := plR R
  have le : ∀ {a b x : PL R} {A B : Nat}, Mnc a A → Mnc b B → b = x * a → ∃ j, j + A ≤ B ∧ x.1 j ≠ 0 ∧ Dlt x (j + 1) := fun {a b x A B} ha hb h => by
    have hx : x ≠ 0 := fun z => mnc_ne hR hb (by rw [h, z]; grind)
    obtain ⟨j, j1, j2⟩ := pl_top x hx
    refine ⟨j, ?_, j1, j2⟩
    apply Decidable.byContradiction
    intro z
    have h3 : (x * a).1 (j + A) = x.1 j * a.1 A := cvq_lead j x.1 a.1 (fun i hi => j2 i (by omega)) (fun i hi => ha.2 i (by omega))
    rw [← h, hb.2 (j + A) (by omega), ha.1] at h3
    apply j1
    grind
  obtain ⟨j, j1, j2, j3⟩ := le ha hb h1
  obtain ⟨k, k1, -, -⟩ := le hb ha h2
  have hj : j = 0 := by omega
  have hAB : A = B := by omega
  subst hj hAB
  have hx : x = mnm (x.1 0) 0 := pl_ext (fun i => by
    by_cases c : i = 0
    · rw [c]
      rfl
    · show x.1 i = if i = 0 then x.1 0 else 0
      rw [j3 i (by omega), if_neg c])
  have h5 : b.1 A = x.1 0 * a.1 A := by
    have e := mnm_mul (x.1 0) a 0 A
    rw [← hx, ← h1, if_pos (Nat.zero_le _), Nat.sub_zero] at e
    exact e
  rw [hb.1, ha.1] at h5
  have h6 : x.1 0 = 1 := by grind
  have h7 : x = 1 := by
    rw [hx, h6]
    rfl
  rw [h1, h7]
  grind
/-- polynomials act on an additive group -/
def Acts (R M : Type) [Lean.Grind.CommRing R] [Lean.Grind.CommRing M] (ac : PL R → M → M) : Prop := letI := plR R
  (∀ a b x, ac (a + b) x = ac a x + ac b x) ∧ (∀ a b x, ac (a * b) x = ac a (ac b x)) ∧ (∀ x, ac 1 x = x) ∧ ∀ a x y, ac a (x + y) = ac a x + ac a y
def Sbm {R M : Type} [Lean.Grind.CommRing R] [Lean.Grind.CommRing M] (ac : PL R → M → M) (U : M → Prop) : Prop := U 0 ∧ (∀ x y, U x → U y → U (x + y)) ∧ ∀ a x, U x → U (ac a x)
/-- U with v -/
def Adj {R M : Type} [Lean.Grind.CommRing R] [Lean.Grind.CommRing M] (ac : PL R → M → M) (U : M → Prop) (v : M) : M → Prop := fun x => ∃ u a, U u ∧ x = u + ac a v
/-- t: the monic that makes what takes v to U -/
def Gen {R M : Type} [Lean.Grind.CommRing R] [Lean.Grind.CommRing M] (ac : PL R → M → M) (U : M → Prop) (v : M) (t : PL R) : Prop := letI := plR R
  (∃ N, Mnc t N) ∧ ∀ a, U (ac a v) ↔ ∃ c, a = c * t
theorem ac_0 {R M : Type} [Lean.Grind.CommRing R] [Lean.Grind.CommRing M] {ac : PL R → M → M} (h : Acts R M ac) (x : M) : letI := plR R; ac 0 x = 0 := by
  letI := plR R
  have h1 := h.1 0 0 x
  have e : (0 : PL R) + 0 = 0 := by grind
  rw [e] at h1
  grind
theorem ac_neg {R M : Type} [Lean.Grind.CommRing R] [Lean.Grind.CommRing M] {ac : PL R → M → M} (h : Acts R M ac) (a : PL R) (x : M) : letI := plR R; ac (-a) x = -(ac a x) := by
  letI := plR R
  have h1 := h.1 (-a) a x
  have e : (-a) + a = 0 := by grind
  rw [e, ac_0 h] at h1
  grind
theorem Sbm.neg {R M : Type} [Lean.Grind.CommRing R] [Lean.Grind.CommRing M] {ac : PL R → M → M} (h : Acts R M ac) {U : M → Prop} (hU : Sbm ac U) {x : M} (hx : U x) : U (-x) := by
  letI := plR R
  have h1 := hU.2.2 (-1) x hx
  rw [ac_neg h, h.2.2.1] at h1
  exact h1
theorem Sbm.sub {R M : Type} [Lean.Grind.CommRing R] [Lean.Grind.CommRing M] {ac : PL R → M → M} (h : Acts R M ac) {U : M → Prop} (hU : Sbm ac U) {x y : M} (hx : U x) (hy : U y) : U (x - y) := by
  have h1 := hU.2.1 x (-y) hx (hU.neg h hy)
  have e : x + -y = x - y := by grind
  rw [e] at h1
  exact h1
theorem Adj.sbm {R M : Type} [Lean.Grind.CommRing R] [Lean.Grind.CommRing M] {ac : PL R → M → M} (h : Acts R M ac) {U : M → Prop} (hU : Sbm ac U) (v : M) : Sbm ac (Adj ac U v) := by
  letI := plR R
  refine ⟨⟨0, 0, hU.1, by rw [ac_0 h]; grind⟩, fun x y ⟨u, a, h1, h2⟩ ⟨u1, a1, h3, h4⟩ => ⟨u + u1, a + a1, hU.2.1 u u1 h1 h3, ?_⟩, fun b x ⟨u, a, h1, h2⟩ => ⟨ac b u, b * a, hU.2.2 b u h1, ?_⟩⟩
  · rw [h2, h4, h.1]
    grind
  · rw [h2, h.2.2.2, h.2.1]
/-- two vectors, in either order -/
theorem gen_swap {R M : Type} [Lean.Grind.CommRing R] [Lean.Grind.CommRing M] (hR : (1 : R) ≠ 0) {ac : PL R → M → M} (h : Acts R M ac) {U : M → Prop} (hU : Sbm ac U) {v w : M} {t s t1 s1 : PL R} (ht : Gen ac U v t) (hs : Gen ac (Adj ac U v) w s) (ht1 : Gen ac U w t1) (hs1 : Gen ac (Adj ac U w) v s1) : letI := plR R; t * s = t1 * s1 := by
  letI := plR R
  -- what one order makes, the other divides
  have half : ∀ {v w : M} {t s t1 s1 : PL R}, Gen ac U v t → Gen ac (Adj ac U v) w s → Gen ac U w t1 → Gen ac (Adj ac U w) v s1 → ∃ x, t1 * s1 = x * (t * s) := fun {v w t s t1 s1} ht hs ht1 hs1 => by
    -- al v + s w in U
    obtain ⟨u0, a0, b1, b2⟩ := (hs.2 s).mpr ⟨1, by grind⟩
    -- s1 v + be w in U
    obtain ⟨u1, a1, b3, b4⟩ := (hs1.2 s1).mpr ⟨1, by grind⟩
    have hU0 : U (ac s w - ac a0 v) := by
      have e : ac s w - ac a0 v = u0 := by rw [b2]; grind
      rw [e]
      exact b1
    have hU1 : U (ac s1 v - ac a1 w) := by
      have e : ac s1 v - ac a1 w = u1 := by rw [b4]; grind
      rw [e]
      exact b3
    have hUt : U (ac t1 w) := (ht1.2 t1).mpr ⟨1, by grind⟩
    obtain ⟨c, hc⟩ := (hs.2 t1).mp ⟨ac t1 w, 0, hUt, by rw [ac_0 h]; grind⟩
    have h1 : U (ac (c * a0) v) := by
      have h5 := hU.sub h hUt (hU.2.2 c _ hU0)
      have e : ac t1 w - ac c (ac s w - ac a0 v) = ac (c * a0) v := by
        have e1 : ac s w - ac a0 v = ac s w + ac (-a0) v := by rw [ac_neg h]; grind
        rw [e1, h.2.2.2, ← h.2.1, ← h.2.1, ← hc]
        have e2 : c * -a0 = -(c * a0) := by grind
        rw [e2, ac_neg h]
        grind
      rw [e] at h5
      exact h5
    obtain ⟨e1, he1⟩ := (ht.2 _).mp h1
    obtain ⟨c2, hc2⟩ := (hs.2 a1).mp ⟨-(ac s1 v - ac a1 w), s1, hU.neg h hU1, by grind⟩
    have h3 : U (ac (s1 - c2 * a0) v) := by
      have h5 := hU.2.1 _ _ hU1 (hU.2.2 c2 _ hU0)
      have e : (ac s1 v - ac a1 w) + ac c2 (ac s w - ac a0 v) = ac (s1 - c2 * a0) v := by
        have e1 : ac s w - ac a0 v = ac s w + ac (-a0) v := by rw [ac_neg h]; grind
        have e3 : s1 - c2 * a0 = s1 + -(c2 * a0) := by grind
        rw [e1, h.2.2.2, ← h.2.1, ← h.2.1, ← hc2, e3, h.1, ac_neg h]
        have e2 : c2 * -a0 = -(c2 * a0) := by grind
        rw [e2, ac_neg h]
        grind
      rw [e] at h5
      exact h5
    obtain ⟨e2, he2⟩ := (ht.2 _).mp h3
    refine ⟨c2 * e1 + c * e2, ?_⟩
    grind
  obtain ⟨x, hx⟩ := half ht hs ht1 hs1
  obtain ⟨y, hy⟩ := half ht1 hs1 ht hs
  obtain ⟨⟨N1, n1⟩, -⟩ := ht
  obtain ⟨⟨N2, n2⟩, -⟩ := hs
  obtain ⟨⟨N3, n3⟩, -⟩ := ht1
  obtain ⟨⟨N4, n4⟩, -⟩ := hs1
  exact mnc_dvd hR (n1.mul n2) (n3.mul n4) hx hy
