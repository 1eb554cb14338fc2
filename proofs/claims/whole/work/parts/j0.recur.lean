/-! rows told by two of them -/
/-- a recurrence's polynomials -/
def rcP {R : Type} [Lean.Grind.CommRing R] (c0 c1 i2 : Nat → R) (x y : PL R) : Nat → PL R × PL R
  | 0 => (x, y)
  | j + 1 => letI := plR R; ((rcP c0 c1 i2 x y j).2, mnm (i2 j) 0 * ((mnm 1 1 - mnm (c0 j) 0) * (rcP c0 c1 i2 x y j).1 - mnm (c1 j) 0 * (rcP c0 c1 i2 x y j).2))
def rcA {R : Type} [Lean.Grind.CommRing R] (c0 c1 i2 : Nat → R) (j : Nat) : PL R := letI := plR R; (rcP c0 c1 i2 1 0 j).1
def rcB {R : Type} [Lean.Grind.CommRing R] (c0 c1 i2 : Nat → R) (j : Nat) : PL R := letI := plR R; (rcP c0 c1 i2 0 1 j).1
theorem rcA_s {R : Type} [Lean.Grind.CommRing R] (c0 c1 i2 : Nat → R) (j : Nat) : letI := plR R; rcA c0 c1 i2 (j + 2) = mnm (i2 j) 0 * ((mnm 1 1 - mnm (c0 j) 0) * rcA c0 c1 i2 j - mnm (c1 j) 0 * rcA c0 c1 i2 (j + 1)) := rfl
theorem rcB_s {R : Type} [Lean.Grind.CommRing R] (c0 c1 i2 : Nat → R) (j : Nat) : letI := plR R; rcB c0 c1 i2 (j + 2) = mnm (i2 j) 0 * ((mnm 1 1 - mnm (c0 j) 0) * rcB c0 c1 i2 j - mnm (c1 j) 0 * rcB c0 c1 i2 (j + 1)) := rfl
theorem acp_m0 {R M : Type} [Lean.Grind.CommRing R] [Lean.Grind.CommRing M] {φ : R → M} {T : M → M} (h : Lop φ T) (c : R) (x : M) : acp φ T (mnm c 0) x = φ c * x := acp_mn h c 0 x
/-- every row by the first two -/
theorem rc_rep {R M : Type} [Lean.Grind.CommRing R] [Lean.Grind.CommRing M] {φ : R → M} {T : M → M} (h : Lop φ T) {c0 c1 c2 i2 : Nat → R} (hi : ∀ j, i2 j * c2 j = 1) {u : Nat → M} (hu : ∀ j, T (u j) = φ (c0 j) * u j + φ (c1 j) * u (j + 1) + φ (c2 j) * u (j + 2)) (j : Nat) : u j = acp φ T (rcA c0 c1 i2 j) (u 0) + acp φ T (rcB c0 c1 i2 j) (u 1) ∧ u (j + 1) = acp φ T (rcA c0 c1 i2 (j + 1)) (u 0) + acp φ T (rcB c0 c1 i2 (j + 1)) (u 1) := by
  letI := plR R
  have hA := acp_ok h
  induction j with
  | zero =>
    refine ⟨?_, ?_⟩
    · have e1 : rcA c0 c1 i2 0 = 1 := rfl
      have e2 : rcB c0 c1 i2 0 = 0 := rfl
      rw [e1, e2, hA.2.2.1, ac_0 hA]
      grind
    · have e1 : rcA c0 c1 i2 (0 + 1) = 0 := rfl
      have e2 : rcB c0 c1 i2 (0 + 1) = 1 := rfl
      rw [e1, e2, hA.2.2.1, ac_0 hA]
      show u 1 = _
      grind
  | succ j ih =>
    refine ⟨ih.2, ?_⟩
    have step : ∀ (X Y : PL R) (v : M), acp φ T (mnm (i2 j) 0 * ((mnm 1 1 - mnm (c0 j) 0) * X - mnm (c1 j) 0 * Y)) v = φ (i2 j) * (T (acp φ T X v) - φ (c0 j) * acp φ T X v - φ (c1 j) * acp φ T Y v) := fun X Y v => by
      rw [acp_mn0 h, acp_sub h, acp_mn0 h, hA.2.1, acp_sub h, acp_m0 h]
      have e := acp_mn1 h 1 (acp φ T X v)
      have e1 : mnm 1 1 * (1 : PL R) = mnm 1 1 := by grind
      rw [e1, hA.2.2.1] at e
      rw [e]
    have hφ : φ (i2 j) * φ (c2 j) = 1 := by rw [← h.2.1, hi, h.2.2.1]
    have h3 := hu j
    have e3 : T (u j) = T (acp φ T (rcA c0 c1 i2 j) (u 0)) + T (acp φ T (rcB c0 c1 i2 j) (u 1)) := by
      rw [← h.2.2.2.1, ← ih.1]
    have ih1 := ih.1
    have ih2 := ih.2
    show u (j + 2) = acp φ T (rcA c0 c1 i2 (j + 2)) (u 0) + acp φ T (rcB c0 c1 i2 (j + 2)) (u 1)
    rw [rcA_s, rcB_s, step, step]
    generalize acp φ T (rcA c0 c1 i2 j) (u 0) = x1 at *
    generalize acp φ T (rcB c0 c1 i2 j) (u 1) = x2 at *
    generalize acp φ T (rcA c0 c1 i2 (j + 1)) (u 0) = x3 at *
    generalize acp φ T (rcB c0 c1 i2 (j + 1)) (u 1) = x4 at *
    generalize T x1 = x5 at *
    generalize T x2 = x6 at *
    generalize T (u j) = x7 at *
    generalize u (j + 2) = x8 at *
    generalize u (j + 1) = x9 at *
    generalize u j = x10 at *
    generalize φ (i2 j) = a at *
    generalize φ (c2 j) = b at *
    generalize φ (c0 j) = c at *
    generalize φ (c1 j) = e at *
    clear hu hi step hA h ih
    grind
/-- what the two orders make -/
def rcW {R : Type} [Lean.Grind.CommRing R] (c0 i2 : Nat → R) : Nat → PL R
  | 0 => letI := plR R; 1
  | j + 1 => letI := plR R; mnm (-(i2 j)) 0 * ((mnm 1 1 - mnm (c0 j) 0) * rcW c0 i2 j)
theorem rcW_s {R : Type} [Lean.Grind.CommRing R] (c0 i2 : Nat → R) (j : Nat) : letI := plR R; rcW c0 i2 (j + 1) = mnm (-(i2 j)) 0 * ((mnm 1 1 - mnm (c0 j) 0) * rcW c0 i2 j) := rfl
theorem mnm_neg {R : Type} [Lean.Grind.CommRing R] (a : R) (k : Nat) : letI := plR R; mnm (-a) k = -(mnm a k) := pl_ext (fun i => by
  rw [pl_neg]
  show (if i = k then -a else 0) = -(if i = k then a else 0)
  split
  · rfl
  · grind)
theorem rc_wr {R : Type} [Lean.Grind.CommRing R] (c0 c1 i2 : Nat → R) (j : Nat) : letI := plR R; rcA c0 c1 i2 j * rcB c0 c1 i2 (j + 1) - rcB c0 c1 i2 j * rcA c0 c1 i2 (j + 1) = rcW c0 i2 j := by
  letI := plR R
  induction j with
  | zero =>
    have e1 : rcA c0 c1 i2 0 = 1 := rfl
    have e2 : rcB c0 c1 i2 0 = 0 := rfl
    have e3 : rcA c0 c1 i2 (0 + 1) = 0 := rfl
    have e4 : rcB c0 c1 i2 (0 + 1) = 1 := rfl
    have e5 : rcW c0 i2 0 = 1 := rfl
    rw [e1, e2, e3, e4, e5]
    grind
  | succ j ih =>
    rw [rcW_s, ← ih, mnm_neg]
    show rcA c0 c1 i2 (j + 1) * rcB c0 c1 i2 (j + 2) - rcB c0 c1 i2 (j + 1) * rcA c0 c1 i2 (j + 2) = _
    rw [rcA_s, rcB_s]
    generalize rcA c0 c1 i2 j = x1
    generalize rcA c0 c1 i2 (j + 1) = x2
    generalize rcB c0 c1 i2 j = x3
    generalize rcB c0 c1 i2 (j + 1) = x4
    generalize (mnm (i2 j) 0 : PL R) = a
    generalize (mnm 1 1 - mnm (c0 j) 0 : PL R) = b
    generalize (mnm (c1 j) 0 : PL R) = c
    clear ih
    grind
theorem lin_dlt {R : Type} [Lean.Grind.CommRing R] (c : R) {f : PL R} {N : Nat} (hf : Dlt f N) : letI := plR R; Dlt ((mnm 1 1 - mnm c 0) * f) (N + 1) := by
  letI := plR R
  have e : (mnm 1 1 - mnm c 0) * f = mnm 1 1 * f - mnm c 0 * f := by
    generalize (mnm 1 1 : PL R) = A
    generalize (mnm c 0 : PL R) = B
    grind
  rw [e]
  refine Dlt.sub (fun k hk => ?_) ((hf.sc c).mono (by omega))
  rw [mnm_mul]
  split
  · rw [hf (k - 1) (by omega)]
    grind
  · rfl
theorem rcA_dlt {R : Type} [Lean.Grind.CommRing R] (c0 c1 i2 : Nat → R) (j : Nat) : Dlt (rcA c0 c1 i2 j) (j / 2 + 1) ∧ Dlt (rcA c0 c1 i2 (j + 1)) ((j + 1) / 2 + 1) := by
  letI := plR R
  induction j with
  | zero => exact ⟨(Mnc.one (R := R)).2, fun _ _ => rfl⟩
  | succ j ih =>
    refine ⟨ih.2, ?_⟩
    show Dlt (rcA c0 c1 i2 (j + 2)) ((j + 2) / 2 + 1)
    rw [rcA_s]
    exact ((lin_dlt (c0 j) ih.1).mono (by omega) |>.sub ((ih.2.sc (c1 j)).mono (by omega))).sc (i2 j)
theorem rcB_dlt {R : Type} [Lean.Grind.CommRing R] (c0 c1 i2 : Nat → R) (j : Nat) : Dlt (rcB c0 c1 i2 j) ((j + 1) / 2) ∧ Dlt (rcB c0 c1 i2 (j + 1)) ((j + 2) / 2) := by
  letI := plR R
  induction j with
  | zero => exact ⟨fun _ _ => rfl, (Mnc.one (R := R)).2⟩
  | succ j ih =>
    refine ⟨ih.2, ?_⟩
    show Dlt (rcB c0 c1 i2 (j + 2)) ((j + 3) / 2)
    rw [rcB_s]
    exact ((lin_dlt (c0 j) ih.1).mono (by omega) |>.sub ((ih.2.sc (c1 j)).mono (by omega))).sc (i2 j)
/-- of degree j at most, and what leads it -/
def lpr {R : Type} [Lean.Grind.CommRing R] (i2 : Nat → R) : Nat → R
  | 0 => 1
  | j + 1 => -(i2 j) * lpr i2 j
theorem rcW_top {R : Type} [Lean.Grind.CommRing R] (c0 i2 : Nat → R) (j : Nat) : Dlt (rcW c0 i2 j) (j + 1) ∧ (rcW c0 i2 j).1 j = lpr i2 j := by
  letI := plR R
  induction j with
  | zero => exact ⟨(Mnc.one (R := R)).2, rfl⟩
  | succ j ih =>
    rw [rcW_s]
    refine ⟨(lin_dlt (c0 j) ih.1).sc _, ?_⟩
    rw [mnm_mul, if_pos (Nat.zero_le _), Nat.sub_zero]
    have e : (mnm 1 1 - mnm (c0 j) 0) * rcW c0 i2 j = mnm 1 1 * rcW c0 i2 j - mnm (c0 j) 0 * rcW c0 i2 j := by
      generalize (mnm 1 1 : PL R) = A
      generalize (mnm (c0 j) 0 : PL R) = B
      generalize rcW c0 i2 j = C
      grind
    rw [e, pl_sub, mnm_mul, mnm_mul, if_pos (by omega), if_pos (by omega), Nat.add_sub_cancel, Nat.sub_zero, ih.2, ih.1 (j + 1) (Nat.le_refl _)]
    show -(i2 j) * (1 * lpr i2 j - c0 j * 0) = -(i2 j) * lpr i2 j
    grind
/-- two relations between two vectors: their determinant is a multiple of the chain's polynomial -/
theorem lat_dv {R M : Type} [Lean.Grind.CommRing R] [Lean.Grind.CommRing M] {ac : PL R → M → M} (h : Acts R M ac) {u0 u1 : M} {P : PL R} (hP : Chn ac (fun x => x = 0) [u0, u1] P) {a b a1 b1 : PL R} (h1 : ac a u0 + ac b u1 = 0) (h3 : ac a1 u0 + ac b1 u1 = 0) : letI := plR R; Dv P (a * b1 - a1 * b) := by
  letI := plR R
  obtain ⟨t1, P1, g1, ⟨t2, P2, g2, g3, g4⟩, g5⟩ := hP
  have g3 : P2 = 1 := g3
  have hAd := ac_neg h
  obtain ⟨z, a0, z1, z2⟩ := (g2.2 t2).mpr ⟨1, by grind⟩
  have z1 : z = 0 := z1
  have one : ∀ a b, ac a u0 + ac b u1 = 0 → ∃ x y, b = y * t2 ∧ a + y * a0 = x * t1 := fun a b hab => by
    obtain ⟨y, hy⟩ := (g2.2 b).mp ⟨0, -a, rfl, by
      rw [hAd]
      grind⟩
    obtain ⟨x, hx⟩ := (g1.2 (a + y * a0)).mp (by
      show ac (a + y * a0) u0 = 0
      rw [h.1, h.2.1]
      have e : ac a0 u0 = ac t2 u1 := by
        rw [z2, z1]
        grind
      rw [e, ← h.2.1, ← hy]
      exact hab)
    exact ⟨x, y, hy, hx⟩
  obtain ⟨x, y, e1, e2⟩ := one a b h1
  obtain ⟨x1, y1, e3, e4⟩ := one a1 b1 h3
  refine ⟨x * y1 - x1 * y, ?_⟩
  rw [g5, g4, g3]
  clear one z2 z1 hAd g2 g1 h1 h3 h
  grind
