/-! a basis of steps: its chain -/
def SPn {R M : Type} [Lean.Grind.CommRing R] [Lean.Grind.CommRing M] (φ : R → M) (b : Nat → M) : Nat → M → Prop
  | 0, x => x = 0
  | j + 1, x => ∃ s, SPn φ b j (x - φ s * b j)
def lnc {R M : Type} [Lean.Grind.CommRing R] [Lean.Grind.CommRing M] (φ : R → M) (c : Nat → R) (b : Nat → M) : Nat → M
  | 0 => 0
  | k + 1 => lnc φ c b k + φ (c k) * b k
theorem SPn.zero {R M : Type} [Lean.Grind.CommRing R] [Lean.Grind.CommRing M] {φ : R → M} {T : M → M} (h : Lop φ T) {b : Nat → M} (j : Nat) : SPn φ b j 0 := by
  induction j with
  | zero => exact rfl
  | succ j ih =>
    refine ⟨0, ?_⟩
    have e : (0 : M) - φ 0 * b j = 0 := by
      rw [h.p0]
      grind
    rw [e]
    exact ih
theorem SPn.add {R M : Type} [Lean.Grind.CommRing R] [Lean.Grind.CommRing M] {φ : R → M} {T : M → M} (h : Lop φ T) {b : Nat → M} {j : Nat} : ∀ {x y : M}, SPn φ b j x → SPn φ b j y → SPn φ b j (x + y) := by
  induction j with
  | zero =>
    intro x y hx hy
    have hx : x = 0 := hx
    have hy : y = 0 := hy
    show x + y = 0
    grind
  | succ j ih =>
    rintro x y ⟨s, hs⟩ ⟨t, ht⟩
    refine ⟨s + t, ?_⟩
    have e : x + y - φ (s + t) * b j = (x - φ s * b j) + (y - φ t * b j) := by
      rw [h.1]
      grind
    rw [e]
    exact ih hs ht
theorem SPn.sc {R M : Type} [Lean.Grind.CommRing R] [Lean.Grind.CommRing M] {φ : R → M} {T : M → M} (h : Lop φ T) {b : Nat → M} (c : R) {j : Nat} : ∀ {x : M}, SPn φ b j x → SPn φ b j (φ c * x) := by
  induction j with
  | zero =>
    intro x hx
    have hx : x = 0 := hx
    show φ c * x = 0
    grind
  | succ j ih =>
    rintro x ⟨s, hs⟩
    refine ⟨c * s, ?_⟩
    have e : φ c * x - φ (c * s) * b j = φ c * (x - φ s * b j) := by
      rw [h.2.1]
      grind
    rw [e]
    exact ih hs
theorem SPn.neg {R M : Type} [Lean.Grind.CommRing R] [Lean.Grind.CommRing M] {φ : R → M} {T : M → M} (h : Lop φ T) {b : Nat → M} {j : Nat} {x : M} (hx : SPn φ b j x) : SPn φ b j (-x) := by
  have h1 := SPn.sc h (-1) hx
  have e : φ (-1) * x = -x := by
    rw [h.pn, h.2.2.1]
    grind
  rw [e] at h1
  exact h1
theorem SPn.sub {R M : Type} [Lean.Grind.CommRing R] [Lean.Grind.CommRing M] {φ : R → M} {T : M → M} (h : Lop φ T) {b : Nat → M} {j : Nat} {x y : M} (hx : SPn φ b j x) (hy : SPn φ b j y) : SPn φ b j (x - y) := by
  have h1 := SPn.add h hx (SPn.neg h hy)
  have e : x + -y = x - y := by grind
  rw [e] at h1
  exact h1
theorem SPn.le {R M : Type} [Lean.Grind.CommRing R] [Lean.Grind.CommRing M] {φ : R → M} {T : M → M} (h : Lop φ T) {b : Nat → M} {j k : Nat} (hjk : j ≤ k) {x : M} (hx : SPn φ b j x) : SPn φ b k x := by
  obtain ⟨r, rfl⟩ : ∃ r, k = j + r := ⟨k - j, by omega⟩
  induction r with
  | zero => exact hx
  | succ r ih =>
    have e : x - φ 0 * b (j + r) = x := by
      rw [h.p0]
      grind
    have h1 : SPn φ b (j + r) (x - φ 0 * b (j + r)) := by
      rw [e]
      exact ih (by omega)
    exact ⟨0, h1⟩
theorem SPn.self {R M : Type} [Lean.Grind.CommRing R] [Lean.Grind.CommRing M] {φ : R → M} {T : M → M} (h : Lop φ T) {b : Nat → M} {i j : Nat} (hij : i < j) : SPn φ b j (b i) := by
  refine SPn.le h (j := i + 1) hij ⟨1, ?_⟩
  have e : b i - φ 1 * b i = 0 := by
    rw [h.2.2.1]
    grind
  rw [e]
  exact SPn.zero h i
theorem lnc_sp {R M : Type} [Lean.Grind.CommRing R] [Lean.Grind.CommRing M] {φ : R → M} {T : M → M} (h : Lop φ T) (c : Nat → R) {b : Nat → M} (j : Nat) : SPn φ b j (lnc φ c b j) := by
  induction j with
  | zero => exact rfl
  | succ j ih =>
    refine ⟨c j, ?_⟩
    have e : lnc φ c b (j + 1) - φ (c j) * b j = lnc φ c b j := by
      show lnc φ c b j + φ (c j) * b j - φ (c j) * b j = _
      generalize lnc φ c b j = A
      grind
    rw [e]
    exact ih
/-- what T makes of a basis of steps -/
def HBs {R M : Type} [Lean.Grind.CommRing R] [Lean.Grind.CommRing M] (φ : R → M) (T : M → M) (b : Nat → M) (H : Nat → Nat → R) (d : Nat) : Prop := (∀ j, j < d → T (b j) = φ (H (j + 1) j) * b (j + 1) + lnc φ (fun i => H i j) b (j + 1)) ∧ (∀ j, j + 1 = d → H (j + 1) j = 0) ∧ ∀ j, j < d → ∀ s, SPn φ b j (φ s * b j) → s = 0
def hip {R : Type} [Lean.Grind.CommRing R] (H : Nat → Nat → R) (F : Nat → PL R) (N : Nat) : Nat → R → PL R → PL R
  | 0, _, v => v
  | k + 1, c, v => letI := plR R; hip H F N k (c * H (k + 1) k) (v - mnm (c * H (k + 1) k * H k N) 0 * F k)
theorem hip_s {R : Type} [Lean.Grind.CommRing R] (H : Nat → Nat → R) (F : Nat → PL R) (N k : Nat) (c : R) (v : PL R) : letI := plR R; hip H F N (k + 1) c v = hip H F N k (c * H (k + 1) k) (v - mnm (c * H (k + 1) k * H k N) 0 * F k) := rfl
def Fhs {R : Type} [Lean.Grind.CommRing R] (H : Nat → Nat → R) (F : Nat → PL R) (d : Nat) : Prop := letI := plR R; F 0 = 1 ∧ ∀ N, N < d → F (N + 1) = hip H F N N 1 (mnm 1 1 * F N - mnm (H N N) 0 * F N)
theorem mnm_0 {R : Type} [Lean.Grind.CommRing R] (k : Nat) : letI := plR R; mnm (0 : R) k = 0 := pl_ext (fun i => by
  show (if i = k then (0 : R) else 0) = 0
  split <;> rfl)
theorem hip_0 {R : Type} [Lean.Grind.CommRing R] {H : Nat → Nat → R} {F : Nat → PL R} {N : Nat} (k : Nat) : ∀ (c : R) (v : PL R), c = 0 → hip H F N k c v = v := by
  letI := plR R
  induction k with
  | zero => exact fun c v _ => rfl
  | succ k ih =>
    intro c v hc
    have e : c * H (k + 1) k = 0 := by
      rw [hc]
      grind
    have e2 : c * H (k + 1) k * H k N = 0 := by
      rw [e]
      grind
    rw [hip_s, ih _ _ e, e2, mnm_0]
    grind
theorem sp_T {R M : Type} [Lean.Grind.CommRing R] [Lean.Grind.CommRing M] {φ : R → M} {T : M → M} (h : Lop φ T) {b : Nat → M} {H : Nat → Nat → R} {d : Nat} (hB : HBs φ T b H d) (j : Nat) : ∀ x, j ≤ d → SPn φ b j x → SPn φ b (j + 1) (T x) := by
  induction j with
  | zero =>
    intro x _ hx
    have hx : x = 0 := hx
    rw [hx, h.t0]
    exact SPn.zero h _
  | succ j ih =>
    rintro x hj ⟨s, hs⟩
    have h1 := SPn.le h (show j + 1 ≤ j + 2 by omega) (ih _ (by omega) hs)
    have h3 : SPn φ b (j + 2) (T (b j)) := by
      rw [hB.1 j (by omega)]
      exact SPn.add h (SPn.sc h _ (SPn.self h (by omega))) (SPn.le h (by omega) (lnc_sp h _ (j + 1)))
    have e : T x = T (x - φ s * b j) + φ s * T (b j) := by
      rw [← h.2.2.2.2, ← h.2.2.2.1]
      congr 1
      grind
    rw [e]
    exact SPn.add h h1 (SPn.sc h s h3)
/-- where no step leads out -/
def StpH {R : Type} [Lean.Grind.CommRing R] (H : Nat → Nat → R) (s : Nat) : Prop := ∀ k, k + 1 = s → H (k + 1) k = 0
theorem sp_inv {R M : Type} [Lean.Grind.CommRing R] [Lean.Grind.CommRing M] {φ : R → M} {T : M → M} (h : Lop φ T) {b : Nat → M} {H : Nat → Nat → R} {d : Nat} (hB : HBs φ T b H d) {s : Nat} (hs1 : s ≤ d) (hS : StpH H s) {x : M} (hx : SPn φ b s x) : SPn φ b s (T x) := by
  cases s with
  | zero =>
    have hx : x = 0 := hx
    rw [hx, h.t0]
    exact rfl
  | succ s =>
    obtain ⟨c, hc⟩ := hx
    have h1 := sp_T h hB s _ (by omega) hc
    have h3 : SPn φ b (s + 1) (T (b s)) := by
      rw [hB.1 s (by omega), hS s rfl, h.p0]
      have e : (0 : M) * b (s + 1) + lnc φ (fun i => H i s) b (s + 1) = lnc φ (fun i => H i s) b (s + 1) := by
        generalize lnc φ (fun i => H i s) b (s + 1) = A
        grind
      rw [e]
      exact lnc_sp h _ (s + 1)
    have e : T x = T (x - φ c * b s) + φ c * T (b s) := by
      rw [← h.2.2.2.2, ← h.2.2.2.1]
      congr 1
      grind
    rw [e]
    exact SPn.add h h1 (SPn.sc h c h3)
theorem acn_sp {R M : Type} [Lean.Grind.CommRing R] [Lean.Grind.CommRing M] {φ : R → M} {T : M → M} (h : Lop φ T) {b : Nat → M} {H : Nat → Nat → R} {d : Nat} (hB : HBs φ T b H d) (D : Nat) : ∀ (j : Nat) (f : Nat → R) (x : M), j + D ≤ d → SPn φ b (j + 1) x → SPn φ b (j + D) (acn φ T D f x) := by
  induction D with
  | zero => exact fun j f x _ _ => SPn.zero h j
  | succ D ih =>
    intro j f x hj hx
    rw [acn_s]
    refine SPn.add h (SPn.sc h _ (SPn.le h (by omega) hx)) ?_
    have := ih (j + 1) (fun i => f (i + 1)) (T x) (by omega) (sp_T h hB (j + 1) x (by omega) hx)
    rw [show j + 1 + D = j + (D + 1) by omega] at this
    exact this
theorem sp_sbm {R M : Type} [Lean.Grind.CommRing R] [Lean.Grind.CommRing M] {φ : R → M} {T : M → M} (h : Lop φ T) {b : Nat → M} {H : Nat → Nat → R} {d : Nat} (hB : HBs φ T b H d) {s : Nat} (hs1 : s ≤ d) (hS : StpH H s) : Sbm (acp φ T) (SPn φ b s) := by
  refine ⟨SPn.zero h s, fun x y hx hy => SPn.add h hx hy, fun a x hx => ?_⟩
  have key : ∀ N (f : Nat → R) x, SPn φ b s x → SPn φ b s (acn φ T N f x) := fun N => by
    induction N with
    | zero => exact fun f x _ => SPn.zero h s
    | succ N ih =>
      intro f x hx
      rw [acn_s]
      exact SPn.add h (SPn.sc h _ hx) (ih _ _ (sp_inv h hB hs1 hS hx))
  exact key _ _ _ hx
