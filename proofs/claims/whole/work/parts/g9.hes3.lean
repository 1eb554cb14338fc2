/-! a basis of steps: all blocks -/
theorem least {p : Nat → Prop} {k : Nat} (h : p k) : ∃ r, r ≤ k ∧ p r ∧ ∀ i, i < r → ¬ p i := by
  induction k using Nat.strongRecOn with
  | ind k ih =>
    by_cases c : ∃ i, i < k ∧ p i
    · obtain ⟨i, c1, c2⟩ := c
      obtain ⟨r, r1, r2, r3⟩ := ih i c1 c2
      exact ⟨r, by omega, r2, r3⟩
    · exact ⟨k, Nat.le_refl _, h, fun i hi hp => c ⟨i, hi, hp⟩⟩
theorem ivs_dmn {R : Type} [Lean.Grind.CommRing R] (hI : Ivs R) {a b : R} (ha : a ≠ 0) (hb : b ≠ 0) : a * b ≠ 0 := fun z => by
  obtain ⟨i, hi⟩ := hI a ha
  apply hb
  have e : b = i * (a * b) := by grind
  rw [e, z]
  grind
theorem cbs_ne {R : Type} [Lean.Grind.CommRing R] (hR : (1 : R) ≠ 0) (hI : Ivs R) {H : Nat → Nat → R} {s : Nat} (r : Nat) : (∀ i, i < r → H (s + i + 1) (s + i) ≠ 0) → cbs H s r ≠ 0 := by
  induction r with
  | zero => exact fun _ => hR
  | succ r ih => exact fun hi => ivs_dmn hI (ih (fun i h => hi i (by omega))) (hi r (by omega))
theorem blk_gen {R M : Type} [Lean.Grind.CommRing R] [Lean.Grind.CommRing M] (hR : (1 : R) ≠ 0) (hI : Ivs R) {φ : R → M} {T : M → M} (h : Lop φ T) {b : Nat → M} {H : Nat → Nat → R} {d : Nat} (hB : HBs φ T b H d) {F : Nat → PL R} (hF : Fhs H F d) {s r : Nat} (hS : StpH H s) (hr : s + r + 1 ≤ d) (h0 : H (s + r + 1) (s + r) = 0) (hn : ∀ i, i < r → H (s + i + 1) (s + i) ≠ 0) : letI := plR R; ∃ G, F (s + r + 1) = F s * G ∧ Gen (acp φ T) (SPn φ b s) (b s) G ∧ Adj (acp φ T) (SPn φ b s) (b s) = SPn φ b (s + r + 1) := by
  letI := plR R
  have hA := acp_ok h
  have hU := sp_sbm h hB (s := s) (by omega) hS
  have hS1 : StpH H (s + r + 1) := fun k hk => by
    have : k = s + r := by omega
    rw [this]
    exact h0
  have hU1 := sp_sbm h hB (s := s + r + 1) (by omega) hS1
  have hall := hes_blk h hB hF hS (r + 1) (by omega)
  have hcb : ∀ i, i ≤ r → cbs H s i ≠ 0 := fun i hi => cbs_ne hR hI i (fun j hj => hn j (by omega))
  obtain ⟨G, g1, g2, g3⟩ := hall (r + 1) (Nat.le_refl _)
  refine ⟨G, g2, gen_min hI hA hU g1 ?_ (fun D f hD hf hu => ?_), ?_⟩
  · have e : acp φ T G (b s) - φ (cbs H s (r + 1)) * b (s + (r + 1)) = acp φ T G (b s) := by
      have e1 : cbs H s (r + 1) = 0 := by
        show cbs H s r * H (s + r + 1) (s + r) = 0
        rw [h0]
        grind
      rw [e1, h.p0]
      generalize acp φ T G (b s) = A
      grind
    rw [e] at g3
    exact g3
  · obtain ⟨E, e1, e2, e3⟩ := hall D (by omega)
    have hdl : Dlt (f - E) D := fun k hk => by
      rw [pl_sub]
      by_cases c : k = D
      · rw [c, hf.1, e1.1]
        grind
      · rw [hf.2 k (by omega), e1.2 k (by omega)]
        grind
    have h5 : SPn φ b (s + D) (acp φ T (f - E) (b s)) := by
      rw [acp_is h hdl]
      exact acn_sp h hB D s _ _ (by omega) (SPn.self h (by omega))
    rw [acp_sub h] at h5
    have h6 := SPn.sub h (SPn.le h (show s ≤ s + D by omega) hu) (SPn.add h h5 (SPn.le h (show s ≤ s + D by omega) e3))
    have e : acp φ T f (b s) - (acp φ T f (b s) - acp φ T E (b s) + (acp φ T E (b s) - φ (cbs H s D) * b (s + D))) = φ (cbs H s D) * b (s + D) := by
      generalize acp φ T f (b s) = A
      generalize acp φ T E (b s) = B
      grind
    rw [e] at h6
    exact hcb D (by omega) (hB.2.2 (s + D) (by omega) _ h6)
  · have hAd := Adj.sbm hA hU (b s)
    have hin : ∀ x, SPn φ b s x → Adj (acp φ T) (SPn φ b s) (b s) x := fun x hx => ⟨x, 0, hx, by rw [ac_0 hA]; grind⟩
    have hv : Adj (acp φ T) (SPn φ b s) (b s) (b s) := ⟨0, 1, SPn.zero h s, by rw [hA.2.2.1]; grind⟩
    have sc : ∀ (c : R) x, Adj (acp φ T) (SPn φ b s) (b s) x → Adj (acp φ T) (SPn φ b s) (b s) (φ c * x) := fun c x hx => by
      have := hAd.2.2 (mnm c 0) x hx
      rw [acp_mn h] at this
      exact this
    have hb : ∀ j, j ≤ r → Adj (acp φ T) (SPn φ b s) (b s) (b (s + j)) := fun j hj => by
      obtain ⟨E, e1, e2, e3⟩ := hall j (by omega)
      obtain ⟨i, hi⟩ := hI _ (hcb j hj)
      have h5 := sc i _ (hAd.sub hA (hAd.2.2 E _ hv) (hin _ e3))
      have e5 : φ i * φ (cbs H s j) = 1 := by rw [← h.2.1, hi, h.2.2.1]
      have e : φ i * (acp φ T E (b s) - (acp φ T E (b s) - φ (cbs H s j) * b (s + j))) = b (s + j) := by
        generalize acp φ T E (b s) = A
        grind
      rw [e] at h5
      exact h5
    funext x
    refine propext ⟨fun ⟨u, a, u1, u2⟩ => ?_, fun hx => ?_⟩
    · rw [u2]
      exact SPn.add h (SPn.le h (by omega) u1) (hU1.2.2 a _ (SPn.self h (by omega)))
    · have key : ∀ j, j ≤ r + 1 → ∀ x, SPn φ b (s + j) x → Adj (acp φ T) (SPn φ b s) (b s) x := fun j => by
        induction j with
        | zero => exact fun _ x hx => hin x hx
        | succ j ih =>
          rintro hj x ⟨c, hc⟩
          have hc : SPn φ b (s + j) (x - φ c * b (s + j)) := hc
          have h5 := hAd.2.1 _ _ (ih (by omega) _ hc) (sc c _ (hb j (by omega)))
          have e : x - φ c * b (s + j) + φ c * b (s + j) = x := by grind
          rw [e] at h5
          exact h5
      exact key (r + 1) (Nat.le_refl _) x hx
/-- the polynomial of a basis of steps is its chain's -/
theorem hes_chn {R M : Type} [Lean.Grind.CommRing R] [Lean.Grind.CommRing M] (hR : (1 : R) ≠ 0) (hI : Ivs R) {φ : R → M} {T : M → M} (h : Lop φ T) {b : Nat → M} {H : Nat → Nat → R} {d : Nat} (hB : HBs φ T b H d) {F : Nat → PL R} (hF : Fhs H F d) : ∃ l, Chn (acp φ T) (SPn φ b 0) l (F d) ∧ Spl (acp φ T) (SPn φ b 0) l = SPn φ b d := by
  letI := plR R
  have key : ∀ (k s : Nat) (l : List M), k + s = d → StpH H s → Chn (acp φ T) (SPn φ b 0) l (F s) → Spl (acp φ T) (SPn φ b 0) l = SPn φ b s → ∃ l, Chn (acp φ T) (SPn φ b 0) l (F d) ∧ Spl (acp φ T) (SPn φ b 0) l = SPn φ b d := by
    intro k
    induction k using Nat.strongRecOn with
    | ind k ih =>
      intro s l hk hS hc hl
      by_cases c : k = 0
      · have : s = d := by omega
        subst this
        exact ⟨l, hc, hl⟩
      · obtain ⟨r, r1, r2, r3⟩ := least (p := fun r => H (s + r + 1) (s + r) = 0) (k := k - 1) (hB.2.1 (s + (k - 1)) (by omega))
        obtain ⟨G, g1, g2, g3⟩ := blk_gen hR hI h hB hF hS (show s + r + 1 ≤ d by omega) r2 r3
        refine ih (k - (r + 1)) (by omega) (s + r + 1) (l ++ [b s]) (by omega) (fun j hj => ?_) ?_ ?_
        · have : j = s + r := by omega
          rw [this]
          exact r2
        · rw [g1]
          refine chn_app l [b s] _ _ _ hc ⟨G, 1, ?_, rfl, by grind⟩
          rw [hl]
          exact g2
        · rw [spl_app, hl]
          exact g3
  refine key d 0 [] rfl (fun k hk => absurd hk (by omega)) ?_ rfl
  rw [hF.1]
  exact rfl
