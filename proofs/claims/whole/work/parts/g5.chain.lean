/-! vectors one after another -/
def Chn {R M : Type} [Lean.Grind.CommRing R] [Lean.Grind.CommRing M] (ac : PL R → M → M) : (M → Prop) → List M → PL R → Prop
  | _, [], P => letI := plR R; P = 1
  | U, v :: l, P => letI := plR R; ∃ t P1, Gen ac U v t ∧ Chn ac (Adj ac U v) l P1 ∧ P = t * P1
def Spl {R M : Type} [Lean.Grind.CommRing R] [Lean.Grind.CommRing M] (ac : PL R → M → M) : (M → Prop) → List M → M → Prop
  | U, [] => U
  | U, v :: l => Spl ac (Adj ac U v) l
/-- each vector is sent to 0 by a monic -/
def Tor {R M : Type} [Lean.Grind.CommRing R] [Lean.Grind.CommRing M] (ac : PL R → M → M) : Prop := ∀ v, ∃ f N, Mnc f N ∧ ac f v = 0
def Ivs (R : Type) [Lean.Grind.CommRing R] : Prop := ∀ a : R, a ≠ 0 → ∃ b, b * a = 1
theorem gen_one {R M : Type} [Lean.Grind.CommRing R] [Lean.Grind.CommRing M] (hR : (1 : R) ≠ 0) {ac : PL R → M → M} {U : M → Prop} {v : M} {t s : PL R} (ht : Gen ac U v t) (hs : Gen ac U v s) : t = s := by
  letI := plR R
  obtain ⟨c, hc⟩ := (hs.2 t).mp ((ht.2 t).mpr ⟨1, by grind⟩)
  obtain ⟨e, he⟩ := (ht.2 s).mp ((hs.2 s).mpr ⟨1, by grind⟩)
  obtain ⟨⟨N1, n1⟩, -⟩ := ht
  obtain ⟨⟨N2, n2⟩, -⟩ := hs
  exact mnc_dvd hR n1 n2 he hc
theorem chn_one {R M : Type} [Lean.Grind.CommRing R] [Lean.Grind.CommRing M] (hR : (1 : R) ≠ 0) {ac : PL R → M → M} : ∀ (l : List M) (U : M → Prop) (P Q : PL R), Chn ac U l P → Chn ac U l Q → P = Q := by
  intro l
  induction l with
  | nil => exact fun U P Q h h1 => Eq.trans h (Eq.symm h1)
  | cons v l ih =>
    intro U P Q h h1
    obtain ⟨t, P1, a1, a2, a3⟩ := h
    obtain ⟨s, Q1, b1, b2, b3⟩ := h1
    rw [a3, b3, gen_one hR a1 b1, ih _ _ _ a2 b2]
theorem adj_swap {R M : Type} [Lean.Grind.CommRing R] [Lean.Grind.CommRing M] {ac : PL R → M → M} (U : M → Prop) (v w : M) : Adj ac (Adj ac U v) w = Adj ac (Adj ac U w) v := by
  have half : ∀ v w x, Adj ac (Adj ac U v) w x → Adj ac (Adj ac U w) v x := fun v w x => by
    rintro ⟨u, a, ⟨u1, a1, h1, h2⟩, h3⟩
    refine ⟨u1 + ac a w, a1, ⟨u1, a, h1, rfl⟩, ?_⟩
    rw [h3, h2]
    grind
  funext x
  exact propext ⟨half v w x, half w v x⟩
theorem adj_in {R M : Type} [Lean.Grind.CommRing R] [Lean.Grind.CommRing M] {ac : PL R → M → M} (h : Acts R M ac) {U : M → Prop} (hU : Sbm ac U) {v : M} (hv : U v) : Adj ac U v = U := by
  letI := plR R
  funext x
  refine propext ⟨fun ⟨u, a, h1, h2⟩ => ?_, fun hx => ⟨x, 0, hx, by rw [ac_0 h]; grind⟩⟩
  rw [h2]
  exact hU.2.1 _ _ h1 (hU.2.2 a v hv)
/-- the least monic that sends v to U -/
theorem gen_min {R M : Type} [Lean.Grind.CommRing R] [Lean.Grind.CommRing M] (hI : Ivs R) {ac : PL R → M → M} (h : Acts R M ac) {U : M → Prop} (hU : Sbm ac U) {v : M} {f : PL R} {N : Nat} (hf : Mnc f N) (hu : U (ac f v)) (hm : ∀ K g, K < N → Mnc g K → ¬ U (ac g v)) : Gen ac U v f := by
  letI := plR R
  refine ⟨⟨N, hf⟩, fun a => ⟨fun ha => ?_, fun ⟨b, hb⟩ => ?_⟩⟩
  · obtain ⟨M0, hM0⟩ := Dlt.ex a
    obtain ⟨b, r, e1, e2⟩ := pl_div hf M0 a hM0
    refine ⟨b, ?_⟩
    have hr : U (ac r v) := by
      have h5 := hU.sub h ha (hU.2.2 b _ hu)
      have e : ac a v - ac b (ac f v) = ac r v := by
        rw [e1, h.1, h.2.1]
        grind
      rw [e] at h5
      exact h5
    by_cases z : r = 0
    · rw [e1, z]
      grind
    · exfalso
      obtain ⟨j, j1, j2⟩ := pl_top r z
      obtain ⟨i, hi⟩ := hI _ j1
      refine hm j (mnm i 0 * r) ?_ ⟨?_, fun k hk => ?_⟩ ?_
      · apply Decidable.byContradiction
        intro z1
        exact j1 (e2 j (by omega))
      · rw [mnm_mul, if_pos (Nat.zero_le _), Nat.sub_zero, hi]
      · rw [mnm_mul, if_pos (Nat.zero_le _), Nat.sub_zero, j2 k hk]
        grind
      · rw [h.2.1]
        exact hU.2.2 _ _ hr
  · rw [hb, h.2.1]
    exact hU.2.2 _ _ hu
theorem gen_of {R M : Type} [Lean.Grind.CommRing R] [Lean.Grind.CommRing M] (hI : Ivs R) {ac : PL R → M → M} (h : Acts R M ac) {U : M → Prop} (hU : Sbm ac U) {v : M} (N : Nat) : ∀ f, Mnc f N → U (ac f v) → ∃ t, Gen ac U v t := by
  induction N using Nat.strongRecOn with
  | ind N ih =>
    intro f hf hu
    by_cases c : ∃ K g, K < N ∧ Mnc g K ∧ U (ac g v)
    · obtain ⟨K, g, c1, c2, c3⟩ := c
      exact ih K c1 g c2 c3
    · exact ⟨f, gen_min hI h hU hf hu (fun K g k1 k2 k3 => c ⟨K, g, k1, k2, k3⟩)⟩
theorem gen_ex {R M : Type} [Lean.Grind.CommRing R] [Lean.Grind.CommRing M] (hI : Ivs R) {ac : PL R → M → M} (h : Acts R M ac) (hT : Tor ac) {U : M → Prop} (hU : Sbm ac U) (v : M) : ∃ t, Gen ac U v t := by
  obtain ⟨f, N, hf, hz⟩ := hT v
  exact gen_of hI h hU N f hf (by rw [hz]; exact hU.1)
theorem chn_perm {R M : Type} [Lean.Grind.CommRing R] [Lean.Grind.CommRing M] (hR : (1 : R) ≠ 0) (hI : Ivs R) {ac : PL R → M → M} (h : Acts R M ac) (hT : Tor ac) {l1 l2 : List M} (hp : l1.Perm l2) : ∀ (U : M → Prop) (P : PL R), Sbm ac U → Chn ac U l1 P → Chn ac U l2 P := by
  letI := plR R
  induction hp with
  | nil => exact fun U P _ h => h
  | cons v _ ih =>
    rintro U P hU ⟨t, P1, a1, a2, a3⟩
    exact ⟨t, P1, a1, ih _ _ (Adj.sbm h hU v) a2, a3⟩
  | swap v w l =>
    rintro U P hU ⟨t, P1, a1, ⟨s, P2, b1, b2, b3⟩, a3⟩
    obtain ⟨t1, ht1⟩ := gen_ex hI h hT hU v
    obtain ⟨s1, hs1⟩ := gen_ex hI h hT (Adj.sbm h hU v) w
    refine ⟨t1, s1 * P2, ht1, ⟨s1, P2, hs1, ?_, rfl⟩, ?_⟩
    · rw [adj_swap]
      exact b2
    · have := gen_swap hR h hU a1 b1 ht1 hs1
      rw [a3, b3]
      have e : t * (s * P2) = (t * s) * P2 := by grind
      rw [e, this]
      grind
  | trans _ _ ih1 ih2 => exact fun U P hU h => ih2 U P hU (ih1 U P hU h)
theorem chn_app {R M : Type} [Lean.Grind.CommRing R] [Lean.Grind.CommRing M] {ac : PL R → M → M} : ∀ (l1 l2 : List M) (U : M → Prop) (P Q : PL R), Chn ac U l1 P → Chn ac (Spl ac U l1) l2 Q → letI := plR R; Chn ac U (l1 ++ l2) (P * Q) := by
  letI := plR R
  intro l1 l2
  induction l1 with
  | nil =>
    intro U P Q h h1
    have h : P = 1 := h
    have e : P * Q = Q := by rw [h]; grind
    rw [e]
    exact h1
  | cons v l ih =>
    rintro U P Q ⟨t, P1, a1, a2, a3⟩ h1
    refine ⟨t, P1 * Q, a1, ih _ _ _ a2 h1, ?_⟩
    rw [a3]
    grind
theorem spl_app {R M : Type} [Lean.Grind.CommRing R] [Lean.Grind.CommRing M] {ac : PL R → M → M} (l1 l2 : List M) : ∀ (U : M → Prop), Spl ac U (l1 ++ l2) = Spl ac (Spl ac U l1) l2 := by
  induction l1 with
  | nil => exact fun U => rfl
  | cons v l ih => exact fun U => ih _
theorem chn_in {R M : Type} [Lean.Grind.CommRing R] [Lean.Grind.CommRing M] {ac : PL R → M → M} (h : Acts R M ac) {U : M → Prop} (hU : Sbm ac U) (l : List M) : (∀ v, U v) → letI := plR R; Chn ac U l 1 := by
  letI := plR R
  intro ha
  induction l with
  | nil => exact rfl
  | cons v l ih =>
    refine ⟨1, 1, ⟨⟨0, Mnc.one⟩, fun a => ⟨fun _ => ⟨a, by grind⟩, fun _ => ha _⟩⟩, ?_, by grind⟩
    rw [adj_in h hU (ha v)]
    exact ih
theorem spl_sbm {R M : Type} [Lean.Grind.CommRing R] [Lean.Grind.CommRing M] {ac : PL R → M → M} (h : Acts R M ac) (l : List M) : ∀ U : M → Prop, Sbm ac U → Sbm ac (Spl ac U l) := by
  induction l with
  | nil => exact fun U hU => hU
  | cons v l ih => exact fun U hU => ih _ (Adj.sbm h hU v)
/-- two lists that reach all -/
theorem chn_all {R M : Type} [Lean.Grind.CommRing R] [Lean.Grind.CommRing M] (hR : (1 : R) ≠ 0) (hI : Ivs R) {ac : PL R → M → M} (h : Acts R M ac) (hT : Tor ac) {l1 l2 : List M} {U : M → Prop} (hU : Sbm ac U) {P Q : PL R} (h1 : Chn ac U l1 P) (h2 : Chn ac U l2 Q) (a1 : ∀ x, Spl ac U l1 x) (a2 : ∀ x, Spl ac U l2 x) : P = Q := by
  letI := plR R
  have c1 := chn_app l1 l2 U P 1 h1 (chn_in h (spl_sbm h l1 U hU) l2 a1)
  have c2 := chn_app l2 l1 U Q 1 h2 (chn_in h (spl_sbm h l2 U hU) l1 a2)
  have c3 := chn_one hR _ _ _ _ (chn_perm hR hI h hT List.perm_append_comm U _ hU c1) c2
  grind
