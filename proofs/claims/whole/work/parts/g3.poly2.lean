/-! polynomials: degrees, division -/
abbrev plR (R : Type) [Lean.Grind.CommRing R] : Lean.Grind.CommRing (PL R) := rg_mk (pl_ok (R := R))
/-- of degree below N -/
def Dlt {R : Type} [Lean.Grind.CommRing R] (f : PL R) (N : Nat) : Prop := ∀ k, N ≤ k → f.1 k = 0
def Mnc {R : Type} [Lean.Grind.CommRing R] (f : PL R) (N : Nat) : Prop := f.1 N = 1 ∧ Dlt f (N + 1)
theorem pl_add {R : Type} [Lean.Grind.CommRing R] (a b : PL R) (k : Nat) : letI := plR R; (a + b).1 k = a.1 k + b.1 k := rfl
theorem pl_mul {R : Type} [Lean.Grind.CommRing R] (a b : PL R) (k : Nat) : letI := plR R; (a * b).1 k = cvq a.1 b.1 k := rfl
theorem pl_neg {R : Type} [Lean.Grind.CommRing R] (a : PL R) (k : Nat) : letI := plR R; (-a).1 k = -(a.1 k) := rfl
theorem pl_sub {R : Type} [Lean.Grind.CommRing R] (a b : PL R) (k : Nat) : letI := plR R; (a - b).1 k = a.1 k - b.1 k := by
  show a.1 k + -(b.1 k) = a.1 k - b.1 k
  grind
theorem pl_zero {R : Type} [Lean.Grind.CommRing R] (k : Nat) : letI := plR R; (0 : PL R).1 k = 0 := rfl
theorem pl_one {R : Type} [Lean.Grind.CommRing R] (k : Nat) : letI := plR R; (1 : PL R).1 k = if k = 0 then 1 else 0 := rfl
theorem pl_ext {R : Type} [Lean.Grind.CommRing R] {a b : PL R} (h : ∀ k, a.1 k = b.1 k) : a = b := Subtype.ext (funext h)
theorem cvq_lead {R : Type} [Lean.Grind.CommRing R] {M : Nat} (N : Nat) : ∀ (f g : Nat → R), (∀ i, N < i → f i = 0) → (∀ i, M < i → g i = 0) → cvq f g (N + M) = f N * g M := by
  induction N with
  | zero =>
    intro f g hf hg
    rw [Nat.zero_add]
    have e : f = dl0 (f 0) := funext fun i => by
      by_cases c : i = 0
      · rw [c]
        rfl
      · rw [hf i (by omega)]
        exact (if_neg c).symm
    rw [e, dl_mul]
    rfl
  | succ N ih =>
    intro f g hf hg
    rw [show N + 1 + M = N + M + 1 by omega, cvq_s, hg (N + M + 1) (by omega), ih (fun i => f (i + 1)) g (fun i hi => hf (i + 1) (by omega)) hg]
    grind
theorem Dlt.mono {R : Type} [Lean.Grind.CommRing R] {f : PL R} {N M : Nat} (h : Dlt f N) (hNM : N ≤ M) : Dlt f M := fun k hk => h k (by omega)
theorem Dlt.ex {R : Type} [Lean.Grind.CommRing R] (f : PL R) : ∃ N, Dlt f N := f.2
theorem Dlt.mul {R : Type} [Lean.Grind.CommRing R] {f g : PL R} {N M : Nat} (h : Dlt f (N + 1)) (h1 : Dlt g (M + 1)) : letI := plR R; Dlt (f * g) (N + M + 1) := fun k hk => by
  by_cases c : k = N + M + 1
  · have e := cvq_lead (M := M) (N + 1) f.1 g.1 (fun i hi => h i (by omega)) (fun i hi => h1 i (by omega))
    rw [c, pl_mul, show N + M + 1 = N + 1 + M by omega, e, h (N + 1) (Nat.le_refl _)]
    grind
  · exact cvq_top (M := M + 1) (N + 1) f.1 g.1 k h h1 (by omega)
theorem Dlt.add {R : Type} [Lean.Grind.CommRing R] {f g : PL R} {N : Nat} (h : Dlt f N) (h1 : Dlt g N) : letI := plR R; Dlt (f + g) N := fun k hk => by
  rw [pl_add, h k hk, h1 k hk]
  grind
theorem Dlt.neg {R : Type} [Lean.Grind.CommRing R] {f : PL R} {N : Nat} (h : Dlt f N) : letI := plR R; Dlt (-f) N := fun k hk => by
  rw [pl_neg, h k hk]
  grind
theorem Dlt.sub {R : Type} [Lean.Grind.CommRing R] {f g : PL R} {N : Nat} (h : Dlt f N) (h1 : Dlt g N) : letI := plR R; Dlt (f - g) N := fun k hk => by
  rw [pl_sub, h k hk, h1 k hk]
  grind
theorem Mnc.mul {R : Type} [Lean.Grind.CommRing R] {f g : PL R} {N M : Nat} (h : Mnc f N) (h1 : Mnc g M) : letI := plR R; Mnc (f * g) (N + M) := by
  refine ⟨?_, h.2.mul h1.2⟩
  rw [pl_mul, cvq_lead N f.1 g.1 (fun i hi => h.2 i (by omega)) (fun i hi => h1.2 i (by omega)), h.1, h1.1]
  grind
theorem Mnc.one {R : Type} [Lean.Grind.CommRing R] : letI := plR R; Mnc (1 : PL R) 0 := ⟨rfl, fun k hk => if_neg (by omega)⟩
/-- c t^k -/
def mnm {R : Type} [Lean.Grind.CommRing R] (c : R) (k : Nat) : PL R := ⟨fun i => if i = k then c else 0, k + 1, fun i hi => if_neg (by omega)⟩
theorem mnm_mul {R : Type} [Lean.Grind.CommRing R] (c : R) (g : PL R) (k : Nat) : letI := plR R; ∀ i, (mnm c k * g).1 i = if k ≤ i then c * g.1 (i - k) else 0 := by
  have key : ∀ (k : Nat) (f : Nat → R) (i : Nat), (∀ j, f j = if j = k then c else 0) → cvq f g.1 i = if k ≤ i then c * g.1 (i - k) else 0 := by
    intro k
    induction k with
    | zero =>
      intro f i hf
      have e : f = dl0 c := funext fun j => hf j
      rw [e, dl_mul, if_pos (Nat.zero_le _), Nat.sub_zero]
    | succ k ih =>
      intro f i hf
      cases i with
      | zero =>
        rw [cvq_0, hf 0, if_neg (by omega), if_neg (by omega)]
        grind
      | succ i =>
        rw [cvq_s, hf 0, if_neg (by omega), ih (fun j => f (j + 1)) i (fun j => by
          rw [hf (j + 1)]
          by_cases c1 : j = k
          · rw [if_pos c1, if_pos (by omega)]
          · rw [if_neg c1, if_neg (by omega)])]
        by_cases c1 : k ≤ i
        · rw [if_pos c1, if_pos (by omega), show i + 1 - (k + 1) = i - k by omega]
          grind
        · rw [if_neg c1, if_neg (by omega)]
          grind
  exact fun i => key k (mnm c k).1 i (fun j => rfl)
/-- division by one that is monic -/
theorem pl_div {R : Type} [Lean.Grind.CommRing R] {g : PL R} {d : Nat} (hg : Mnc g d) (N : Nat) : ∀ f : PL R, Dlt f N → letI := plR R; ∃ a r : PL R, f = a * g + r ∧ Dlt r d := by
  letI := plR R
  induction N with
  | zero => exact fun f hf => ⟨0, f, by grind, fun k _ => hf k (Nat.zero_le _)⟩
  | succ N ih =>
    intro f hf
    by_cases c : N < d
    · exact ⟨0, f, by grind, hf.mono (by omega)⟩
    · have h1 : Dlt (f - mnm (f.1 N) (N - d) * g) N := fun k hk => by
        rw [pl_sub, mnm_mul, if_pos (by omega)]
        by_cases c1 : k = N
        · rw [c1, show N - (N - d) = d by omega, hg.1]
          grind
        · rw [hf k (by omega), hg.2 (k - (N - d)) (by omega)]
          grind
      obtain ⟨a, r, e1, e2⟩ := ih _ h1
      refine ⟨a + mnm (f.1 N) (N - d), r, ?_, e2⟩
      have e3 : f = (f - mnm (f.1 N) (N - d) * g) + mnm (f.1 N) (N - d) * g := by grind
      rw [e3, e1]
      grind
