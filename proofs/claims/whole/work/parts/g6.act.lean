/-! polynomials act by a linear map -/
def Lop {R M : Type} [Lean.Grind.CommRing R] [Lean.Grind.CommRing M] (φ : R → M) (T : M → M) : Prop := (∀ a b, φ (a + b) = φ a + φ b) ∧ (∀ a b, φ (a * b) = φ a * φ b) ∧ φ 1 = 1 ∧ (∀ x y, T (x + y) = T x + T y) ∧ ∀ a x, T (φ a * x) = φ a * T x
def acn {R M : Type} [Lean.Grind.CommRing R] [Lean.Grind.CommRing M] (φ : R → M) (T : M → M) : Nat → (Nat → R) → M → M
  | 0, _, _ => 0
  | N + 1, f, x => φ (f 0) * x + acn φ T N (fun i => f (i + 1)) (T x)
theorem acn_s {R M : Type} [Lean.Grind.CommRing R] [Lean.Grind.CommRing M] (φ : R → M) (T : M → M) (N : Nat) (f : Nat → R) (x : M) : acn φ T (N + 1) f x = φ (f 0) * x + acn φ T N (fun i => f (i + 1)) (T x) := rfl
theorem Lop.p0 {R M : Type} [Lean.Grind.CommRing R] [Lean.Grind.CommRing M] {φ : R → M} {T : M → M} (h : Lop φ T) : φ 0 = 0 := by
  have h1 := h.1 0 0
  have e : (0 : R) + 0 = 0 := by grind
  rw [e] at h1
  grind
theorem Lop.pn {R M : Type} [Lean.Grind.CommRing R] [Lean.Grind.CommRing M] {φ : R → M} {T : M → M} (h : Lop φ T) (a : R) : φ (-a) = -(φ a) := by
  have h1 := h.1 (-a) a
  have e : -a + a = 0 := by grind
  rw [e, h.p0] at h1
  grind
theorem Lop.t0 {R M : Type} [Lean.Grind.CommRing R] [Lean.Grind.CommRing M] {φ : R → M} {T : M → M} (h : Lop φ T) : T 0 = 0 := by
  have h1 := h.2.2.2.1 0 0
  have e : (0 : M) + 0 = 0 := by grind
  rw [e] at h1
  grind
theorem acn_z {R M : Type} [Lean.Grind.CommRing R] [Lean.Grind.CommRing M] {φ : R → M} {T : M → M} (h : Lop φ T) (N : Nat) : ∀ (f : Nat → R) (x : M), (∀ i, f i = 0) → acn φ T N f x = 0 := by
  induction N with
  | zero => exact fun f x _ => rfl
  | succ N ih =>
    intro f x hf
    rw [acn_s, hf, h.p0, ih _ _ (fun i => hf (i + 1))]
    grind
theorem acn_top {R M : Type} [Lean.Grind.CommRing R] [Lean.Grind.CommRing M] {φ : R → M} {T : M → M} (h : Lop φ T) {r : Nat} (N : Nat) : ∀ (f : Nat → R) (x : M), (∀ i, N ≤ i → f i = 0) → acn φ T (N + r) f x = acn φ T N f x := by
  induction N with
  | zero => exact fun f x hf => acn_z h _ f x (fun i => hf i (Nat.zero_le _))
  | succ N ih =>
    intro f x hf
    rw [show N + 1 + r = N + r + 1 by omega, acn_s, acn_s, ih _ _ (fun i hi => hf (i + 1) (by omega))]
theorem acn_T {R M : Type} [Lean.Grind.CommRing R] [Lean.Grind.CommRing M] {φ : R → M} {T : M → M} (h : Lop φ T) (N : Nat) : ∀ (f : Nat → R) (x : M), acn φ T N f (T x) = T (acn φ T N f x) := by
  induction N with
  | zero => exact fun f x => h.t0.symm
  | succ N ih =>
    intro f x
    rw [acn_s, acn_s, ih, h.2.2.2.1, h.2.2.2.2]
theorem acn_x {R M : Type} [Lean.Grind.CommRing R] [Lean.Grind.CommRing M] {φ : R → M} {T : M → M} (h : Lop φ T) (N : Nat) : ∀ (f : Nat → R) (x y : M), acn φ T N f (x + y) = acn φ T N f x + acn φ T N f y := by
  induction N with
  | zero =>
    intro f x y
    show (0 : M) = 0 + 0
    grind
  | succ N ih =>
    intro f x y
    rw [acn_s, acn_s, acn_s, h.2.2.2.1, ih]
    generalize acn φ T N (fun i => f (i + 1)) (T x) = A
    generalize acn φ T N (fun i => f (i + 1)) (T y) = B
    grind
theorem acn_f {R M : Type} [Lean.Grind.CommRing R] [Lean.Grind.CommRing M] {φ : R → M} {T : M → M} (h : Lop φ T) (N : Nat) : ∀ (f g : Nat → R) (x : M), acn φ T N (fun i => f i + g i) x = acn φ T N f x + acn φ T N g x := by
  induction N with
  | zero =>
    intro f g x
    show (0 : M) = 0 + 0
    grind
  | succ N ih =>
    intro f g x
    rw [acn_s, acn_s, acn_s, h.1, ih (fun i => f (i + 1)) (fun i => g (i + 1))]
    generalize acn φ T N (fun i => f (i + 1)) (T x) = A
    generalize acn φ T N (fun i => g (i + 1)) (T x) = B
    grind
theorem acn_c {R M : Type} [Lean.Grind.CommRing R] [Lean.Grind.CommRing M] {φ : R → M} {T : M → M} (h : Lop φ T) (c : R) (N : Nat) : ∀ (f : Nat → R) (x : M), acn φ T N (fun i => c * f i) x = φ c * acn φ T N f x := by
  induction N with
  | zero =>
    intro f x
    show (0 : M) = φ c * 0
    grind
  | succ N ih =>
    intro f x
    rw [acn_s, acn_s, h.2.1, ih (fun i => f (i + 1))]
    generalize acn φ T N (fun i => f (i + 1)) (T x) = A
    grind
theorem acn_m {R M : Type} [Lean.Grind.CommRing R] [Lean.Grind.CommRing M] {φ : R → M} {T : M → M} (h : Lop φ T) {K : Nat} {g : Nat → R} (hg : ∀ i, K ≤ i → g i = 0) (N : Nat) : ∀ (f : Nat → R) (x : M), (∀ i, N ≤ i → f i = 0) → acn φ T (N + K) (cvq f g) x = acn φ T N f (acn φ T K g x) := by
  induction N with
  | zero =>
    intro f x hf
    exact acn_z h _ _ x (fun i => cvq_z i f g (fun j => hf j (Nat.zero_le _)))
  | succ N ih =>
    intro f x hf
    have e1 : (fun i => cvq f g (i + 1)) = fun i => f 0 * g (i + 1) + cvq (fun i => f (i + 1)) g i := funext fun i => cvq_s f g i
    have e2 : acn φ T (N + K + 1) g x = acn φ T K g x := by
      rw [show N + K + 1 = K + (N + 1) by omega]
      exact acn_top h K g x hg
    rw [acn_s] at e2
    rw [show N + 1 + K = N + K + 1 by omega, acn_s, acn_s, e1, acn_f h, acn_c h (f 0) (N + K) (fun i => g (i + 1)), ih _ _ (fun i hi => hf (i + 1) (by omega)), cvq_0, h.2.1, ← acn_T h K g x, ← e2]
    generalize acn φ T (N + K) (fun i => g (i + 1)) (T x) = A
    generalize acn φ T N (fun i => f (i + 1)) (acn φ T K g (T x)) = B
    grind
/-- a polynomial of T -/
noncomputable def acp {R M : Type} [Lean.Grind.CommRing R] [Lean.Grind.CommRing M] (φ : R → M) (T : M → M) (f : PL R) (x : M) : M := acn φ T (Classical.choose f.2) f.1 x
theorem acp_is {R M : Type} [Lean.Grind.CommRing R] [Lean.Grind.CommRing M] {φ : R → M} {T : M → M} (h : Lop φ T) {f : PL R} {N : Nat} (hf : Dlt f N) (x : M) : acp φ T f x = acn φ T N f.1 x := by
  have hc := Classical.choose_spec f.2
  show acn φ T (Classical.choose f.2) f.1 x = _
  generalize Classical.choose f.2 = K at *
  rw [← acn_top h (r := N) K f.1 x hc, Nat.add_comm, acn_top h N f.1 x hf]
theorem acp_ok {R M : Type} [Lean.Grind.CommRing R] [Lean.Grind.CommRing M] {φ : R → M} {T : M → M} (h : Lop φ T) : Acts R M (acp φ T) := by
  letI := plR R
  refine ⟨fun a b x => ?_, fun a b x => ?_, fun x => ?_, fun a x y => ?_⟩
  · obtain ⟨N, hN⟩ := Dlt.ex a
    obtain ⟨K, hK⟩ := Dlt.ex b
    rw [acp_is h (hN.mono (show N ≤ N + K by omega)), acp_is h (hK.mono (show K ≤ N + K by omega)), acp_is h ((hN.mono (show N ≤ N + K by omega)).add (hK.mono (show K ≤ N + K by omega)))]
    exact acn_f h _ a.1 b.1 x
  · obtain ⟨N, hN⟩ := Dlt.ex a
    obtain ⟨K, hK⟩ := Dlt.ex b
    have hm : Dlt (a * b) (N + K) := fun k hk => cvq_top N a.1 b.1 k hN hK hk
    rw [acp_is h hm, acp_is h hK, acp_is h hN]
    exact acn_m h hK N a.1 x hN
  · rw [acp_is h (Mnc.one (R := R)).2]
    show φ 1 * x + 0 = x
    rw [h.2.2.1]
    grind
  · obtain ⟨N, hN⟩ := Dlt.ex a
    rw [acp_is h hN, acp_is h hN, acp_is h hN]
    exact acn_x h N a.1 x y
/-- T k times -/
def itg {M : Type} (T : M → M) : Nat → M → M
  | 0, x => x
  | k + 1, x => itg T k (T x)
theorem itg_s {M : Type} (T : M → M) (k : Nat) : ∀ x, itg T (k + 1) x = T (itg T k x) := by
  induction k with
  | zero => exact fun x => rfl
  | succ k ih => exact fun x => ih (T x)
theorem acn_mn {R M : Type} [Lean.Grind.CommRing R] [Lean.Grind.CommRing M] {φ : R → M} {T : M → M} (h : Lop φ T) (c : R) (k : Nat) : ∀ (f : Nat → R) (x : M), (∀ i, f i = if i = k then c else 0) → acn φ T (k + 1) f x = φ c * itg T k x := by
  induction k with
  | zero =>
    intro f x hf
    have e : f 0 = c := hf 0
    rw [acn_s, e]
    show φ c * x + 0 = φ c * x
    grind
  | succ k ih =>
    intro f x hf
    have e : f 0 = 0 := by
      rw [hf 0, if_neg (by omega)]
    rw [acn_s, e, h.p0, ih _ (T x) (fun i => by
      rw [hf (i + 1)]
      by_cases c1 : i = k
      · rw [if_pos c1, if_pos (by omega)]
      · rw [if_neg c1, if_neg (by omega)])]
    show (0 : M) * x + φ c * itg T k (T x) = φ c * itg T k (T x)
    grind
theorem acp_mn {R M : Type} [Lean.Grind.CommRing R] [Lean.Grind.CommRing M] {φ : R → M} {T : M → M} (h : Lop φ T) (c : R) (k : Nat) (x : M) : acp φ T (mnm c k) x = φ c * itg T k x := by
  have hd : Dlt (mnm c k) (k + 1) := fun i hi => if_neg (by omega)
  rw [acp_is h hd]
  exact acn_mn h c k _ x (fun i => rfl)
