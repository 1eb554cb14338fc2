/-! a basis of steps: one block -/
/-- the product of the steps -/
def cbs {R : Type} [Lean.Grind.CommRing R] (H : Nat → Nat → R) (s : Nat) : Nat → R
  | 0 => 1
  | r + 1 => cbs H s r * H (s + r + 1) (s + r)
theorem acp_mn0 {R M : Type} [Lean.Grind.CommRing R] [Lean.Grind.CommRing M] {φ : R → M} {T : M → M} (h : Lop φ T) (c : R) (f : PL R) (x : M) : letI := plR R; acp φ T (mnm c 0 * f) x = φ c * acp φ T f x := by
  rw [(acp_ok h).2.1, acp_mn h]
  rfl
theorem acp_mn1 {R M : Type} [Lean.Grind.CommRing R] [Lean.Grind.CommRing M] {φ : R → M} {T : M → M} (h : Lop φ T) (f : PL R) (x : M) : letI := plR R; acp φ T (mnm 1 1 * f) x = T (acp φ T f x) := by
  rw [(acp_ok h).2.1, acp_mn h, h.2.2.1]
  show 1 * T (acp φ T f x) = _
  generalize T (acp φ T f x) = A
  grind
theorem acp_sub {R M : Type} [Lean.Grind.CommRing R] [Lean.Grind.CommRing M] {φ : R → M} {T : M → M} (h : Lop φ T) (f g : PL R) (x : M) : letI := plR R; acp φ T (f - g) x = acp φ T f x - acp φ T g x := by
  letI := plR R
  have e : f - g = f + -g := by grind
  rw [e, (acp_ok h).1, ac_neg (acp_ok h)]
  generalize acp φ T f x = A
  generalize acp φ T g x = B
  grind
theorem Mnc.sub {R : Type} [Lean.Grind.CommRing R] {f g : PL R} {N : Nat} (h : Mnc f N) (hg : Dlt g N) : letI := plR R; Mnc (f - g) N := by
  refine ⟨?_, h.2.sub (hg.mono (by omega))⟩
  rw [pl_sub, h.1, hg N (Nat.le_refl _)]
  grind
theorem Dlt.sc {R : Type} [Lean.Grind.CommRing R] {f : PL R} {N : Nat} (h : Dlt f N) (c : R) : letI := plR R; Dlt (mnm c 0 * f) N := fun k hk => by
  rw [mnm_mul, if_pos (Nat.zero_le _), Nat.sub_zero, h k hk]
  grind
/-- what the terms of a step come to -/
theorem hip_in {R M : Type} [Lean.Grind.CommRing R] [Lean.Grind.CommRing M] {φ : R → M} {T : M → M} (h : Lop φ T) {b : Nat → M} {H : Nat → Nat → R} {s r : Nat} {F : Nat → PL R} (hS : StpH H s) {A : M} (hG : ∀ j, j ≤ r → letI := plR R; ∃ G, Mnc G j ∧ F (s + j) = F s * G ∧ SPn φ b s (acp φ T G (b s) - φ (cbs H s j) * b (s + j))) (N : Nat) (j : Nat) : ∀ (c : R) (V : PL R), j ≤ r → c * cbs H s j = cbs H s r → Mnc V (r + 1) → SPn φ b s (acp φ T V (b s) - φ (cbs H s r) * (A + lnc φ (fun i => H i N) b (s + j))) → letI := plR R; ∃ W, hip H F N (s + j) c (F s * V) = F s * W ∧ Mnc W (r + 1) ∧ SPn φ b s (acp φ T W (b s) - φ (cbs H s r) * A) := by
  letI := plR R
  induction j with
  | zero =>
    intro c V _ hc hV hu
    refine ⟨V, ?_, hV, ?_⟩
    · cases s with
      | zero => exact rfl
      | succ k =>
        have e0 : H (k + 1) k = 0 := hS k rfl
        have e : c * H (k + 1) k = 0 := by
          rw [e0]
          grind
        have e2 : c * H (k + 1) k * H k N = 0 := by
          rw [e]
          grind
        show hip H F N (k + 1) c (F (k + 1) * V) = F (k + 1) * V
        rw [hip_s, hip_0 k _ _ e, e2, mnm_0]
        grind
    · have h3 := SPn.add h hu (SPn.sc h (cbs H s r) (lnc_sp h (fun i => H i N) (b := b) (s + 0)))
      have e : acp φ T V (b s) - φ (cbs H s r) * (A + lnc φ (fun i => H i N) b (s + 0)) + φ (cbs H s r) * lnc φ (fun i => H i N) b (s + 0) = acp φ T V (b s) - φ (cbs H s r) * A := by
        generalize lnc φ (fun i => H i N) b (s + 0) = L
        grind
      rw [e] at h3
      exact h3
  | succ j ih =>
    intro c V hj hc hV hu
    obtain ⟨G, g1, g2, g3⟩ := hG j (by omega)
    have hcb : cbs H s (j + 1) = cbs H s j * H (s + j + 1) (s + j) := rfl
    rw [hcb] at hc
    have hc1 : c * H (s + j + 1) (s + j) * cbs H s j = cbs H s r := by grind
    have e1 : F s * V - mnm (c * H (s + j + 1) (s + j) * H (s + j) N) 0 * F (s + j) = F s * (V - mnm (c * H (s + j + 1) (s + j) * H (s + j) N) 0 * G) := by
      rw [g2]
      grind
    have e0 : hip H F N (s + (j + 1)) c (F s * V) = hip H F N (s + j) (c * H (s + j + 1) (s + j)) (F s * V - mnm (c * H (s + j + 1) (s + j) * H (s + j) N) 0 * F (s + j)) := rfl
    rw [e0, e1]
    refine ih _ _ (by omega) hc1 (hV.sub ((g1.2.mono (by omega)).sc _)) ?_
    rw [acp_sub h, acp_mn0 h]
    have h3 := SPn.sub h hu (SPn.sc h (c * H (s + j + 1) (s + j) * H (s + j) N) g3)
    have e5 : φ (cbs H s r) = φ (c * H (s + j + 1) (s + j)) * φ (cbs H s j) := by rw [← h.2.1, hc1]
    have e6 : φ (c * H (s + j + 1) (s + j) * H (s + j) N) = φ (c * H (s + j + 1) (s + j)) * φ (H (s + j) N) := h.2.1 _ _
    have e7 : lnc φ (fun i => H i N) b (s + (j + 1)) = lnc φ (fun i => H i N) b (s + j) + φ (H (s + j) N) * b (s + j) := rfl
    rw [e7, e6, e5] at h3
    rw [e6, e5]
    generalize φ (c * H (s + j + 1) (s + j)) = x1 at *
    generalize φ (H (s + j) N) = x2 at *
    generalize φ (cbs H s j) = x3 at *
    generalize lnc φ (fun i => H i N) b (s + j) = L at *
    generalize acp φ T V (b s) = x4 at *
    generalize acp φ T G (b s) = x5 at *
    have e : x4 - x1 * x3 * (A + (L + x2 * b (s + j))) - x1 * x2 * (x5 - x3 * b (s + j)) = x4 - x1 * x2 * x5 - x1 * x3 * (A + L) := by grind
    rw [e] at h3
    exact h3
/-- the block from s -/
theorem hes_blk {R M : Type} [Lean.Grind.CommRing R] [Lean.Grind.CommRing M] {φ : R → M} {T : M → M} (h : Lop φ T) {b : Nat → M} {H : Nat → Nat → R} {d : Nat} (hB : HBs φ T b H d) {F : Nat → PL R} (hF : Fhs H F d) {s : Nat} (hS : StpH H s) (r : Nat) : s + r ≤ d → ∀ j, j ≤ r → letI := plR R; ∃ G, Mnc G j ∧ F (s + j) = F s * G ∧ SPn φ b s (acp φ T G (b s) - φ (cbs H s j) * b (s + j)) := by
  letI := plR R
  induction r with
  | zero =>
    intro hr j hj
    have : j = 0 := by omega
    subst this
    refine ⟨1, Mnc.one, ?_, ?_⟩
    · show F s = F s * 1
      grind
    · have e : acp φ T 1 (b s) - φ (cbs H s 0) * b (s + 0) = 0 := by
        rw [(acp_ok h).2.2.1]
        show b s - φ 1 * b s = 0
        rw [h.2.2.1]
        grind
      rw [e]
      exact SPn.zero h s
  | succ r ih =>
    intro hr j hj
    have hG := ih (by omega)
    by_cases c : j = r + 1
    · subst c
      obtain ⟨G, g1, g2, g3⟩ := hG r (Nat.le_refl _)
      have e0 := hF.2 (s + r) (by omega)
      have e1 : mnm 1 1 * F (s + r) - mnm (H (s + r) (s + r)) 0 * F (s + r) = F s * (mnm 1 1 * G - mnm (H (s + r) (s + r)) 0 * G) := by
        rw [g2]
        grind
      rw [e1] at e0
      have hV : Mnc (mnm 1 1 * G - mnm (H (s + r) (s + r)) 0 * G) (r + 1) := by
        refine Mnc.sub ?_ (g1.2.sc _)
        refine ⟨?_, fun k hk => ?_⟩
        · rw [mnm_mul, if_pos (by omega), show r + 1 - 1 = r by omega, g1.1]
          grind
        · rw [mnm_mul]
          by_cases z : 1 ≤ k
          · rw [if_pos z, g1.2 (k - 1) (by omega)]
            grind
          · rw [if_neg z]
      obtain ⟨W, w1, w2, w3⟩ := hip_in h (A := φ (H (s + r + 1) (s + r)) * b (s + r + 1)) hS hG (s + r) r 1 _ (Nat.le_refl _) (by grind) hV (by
        rw [acp_sub h, acp_mn0 h, acp_mn1 h]
        have hT := hB.1 (s + r) (by omega)
        have h4 : lnc φ (fun i => H i (s + r)) b (s + r + 1) = lnc φ (fun i => H i (s + r)) b (s + r) + φ (H (s + r) (s + r)) * b (s + r) := rfl
        rw [h4] at hT
        have h3 := SPn.sub h (sp_inv h hB (by omega) hS g3) (SPn.sc h (H (s + r) (s + r)) g3)
        have e5 : T (acp φ T G (b s)) = T (acp φ T G (b s) - φ (cbs H s r) * b (s + r)) + φ (cbs H s r) * T (b (s + r)) := by
          rw [← h.2.2.2.2, ← h.2.2.2.1]
          congr 1
          generalize acp φ T G (b s) = A
          grind
        rw [e5, hT]
        generalize T (acp φ T G (b s) - φ (cbs H s r) * b (s + r)) = x1 at *
        generalize acp φ T G (b s) = x2 at *
        generalize lnc φ (fun i => H i (s + r)) b (s + r) = x3 at *
        generalize φ (H (s + r + 1) (s + r)) * b (s + r + 1) = x4 at *
        have e : x1 + φ (cbs H s r) * (x4 + (x3 + φ (H (s + r) (s + r)) * b (s + r))) - φ (H (s + r) (s + r)) * x2 - φ (cbs H s r) * (x4 + x3) = x1 - φ (H (s + r) (s + r)) * (x2 - φ (cbs H s r) * b (s + r)) := by grind
        rw [e]
        exact h3)
      refine ⟨W, w2, ?_, ?_⟩
      · rw [← w1]
        exact e0
      · have e8 : φ (cbs H s (r + 1)) = φ (cbs H s r) * φ (H (s + r + 1) (s + r)) := h.2.1 _ _
        have e9 : acp φ T W (b s) - φ (cbs H s (r + 1)) * b (s + (r + 1)) = acp φ T W (b s) - φ (cbs H s r) * (φ (H (s + r + 1) (s + r)) * b (s + r + 1)) := by
          rw [e8]
          show acp φ T W (b s) - φ (cbs H s r) * φ (H (s + r + 1) (s + r)) * b (s + r + 1) = _
          generalize acp φ T W (b s) = x1
          grind
        rw [e9]
        exact w3
    · exact hG j (by omega)
