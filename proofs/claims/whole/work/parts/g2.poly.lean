/-! polynomials over a ring -/
section PLR
def cvq {R : Type} [Lean.Grind.CommRing R] : (Nat → R) → (Nat → R) → Nat → R
  | f, g, 0 => f 0 * g 0
  | f, g, k + 1 => f 0 * g (k + 1) + cvq (fun i => f (i + 1)) g k
theorem cvq_0 {R : Type} [Lean.Grind.CommRing R] (f g : Nat → R) : cvq f g 0 = f 0 * g 0 := rfl
theorem cvq_s {R : Type} [Lean.Grind.CommRing R] (f g : Nat → R) (k : Nat) : cvq f g (k + 1) = f 0 * g (k + 1) + cvq (fun i => f (i + 1)) g k := rfl
theorem cvq_last {R : Type} [Lean.Grind.CommRing R] (k : Nat) : ∀ f g : Nat → R, cvq f g (k + 1) = cvq f (fun i => g (i + 1)) k + f (k + 1) * g 0 := by
  induction k with
  | zero =>
    intro f g
    rw [cvq_s, cvq_0, cvq_0]
  | succ k ih =>
    intro f g
    rw [cvq_s, ih, cvq_s]
    generalize cvq (fun i => f (i + 1)) (fun i => g (i + 1)) k = A
    grind
theorem cvq_comm {R : Type} [Lean.Grind.CommRing R] (k : Nat) : ∀ f g : Nat → R, cvq f g k = cvq g f k := by
  induction k with
  | zero =>
    intro f g
    rw [cvq_0, cvq_0]
    grind
  | succ k ih =>
    intro f g
    rw [cvq_s, cvq_last, ih]
    generalize cvq g (fun i => f (i + 1)) k = A
    grind
theorem cvq_z {R : Type} [Lean.Grind.CommRing R] (k : Nat) : ∀ f g : Nat → R, (∀ i, f i = 0) → cvq f g k = 0 := by
  induction k with
  | zero =>
    intro f g h
    rw [cvq_0, h]
    grind
  | succ k ih =>
    intro f g h
    rw [cvq_s, h, ih _ g (fun i => h (i + 1))]
    grind
theorem cvq_add {R : Type} [Lean.Grind.CommRing R] (k : Nat) : ∀ f e g : Nat → R, cvq (fun i => f i + e i) g k = cvq f g k + cvq e g k := by
  induction k with
  | zero =>
    intro f e g
    rw [cvq_0, cvq_0, cvq_0]
    grind
  | succ k ih =>
    intro f e g
    rw [cvq_s, cvq_s, cvq_s, ih (fun i => f (i + 1)) (fun i => e (i + 1)) g]
    generalize cvq (fun i => f (i + 1)) g k = A
    generalize cvq (fun i => e (i + 1)) g k = B
    grind
theorem cvq_mul {R : Type} [Lean.Grind.CommRing R] (k : Nat) (c : R) : ∀ f g : Nat → R, cvq (fun i => c * f i) g k = c * cvq f g k := by
  induction k with
  | zero =>
    intro f g
    rw [cvq_0, cvq_0]
    grind
  | succ k ih =>
    intro f g
    rw [cvq_s, cvq_s, ih (fun i => f (i + 1)) g]
    generalize cvq (fun i => f (i + 1)) g k = A
    grind
theorem cvq_asc {R : Type} [Lean.Grind.CommRing R] (k : Nat) : ∀ f g h : Nat → R, cvq (cvq f g) h k = cvq f (cvq g h) k := by
  induction k with
  | zero =>
    intro f g h
    rw [cvq_0, cvq_0, cvq_0, cvq_0]
    grind
  | succ k ih =>
    intro f g h
    rw [cvq_s, cvq_s, cvq_0, cvq_s g h]
    have e : (fun i => cvq f g (i + 1)) = fun i => f 0 * g (i + 1) + cvq (fun i => f (i + 1)) g i := funext fun i => cvq_s f g i
    rw [e, cvq_add, cvq_mul k (f 0) (fun i => g (i + 1)) h, ih]
    generalize cvq (fun i => g (i + 1)) h k = A
    generalize cvq (fun i => f (i + 1)) (cvq g h) k = B
    grind
theorem cvq_top {R : Type} [Lean.Grind.CommRing R] {M : Nat} (N : Nat) : ∀ (f g : Nat → R) (k : Nat), (∀ i, N ≤ i → f i = 0) → (∀ i, M ≤ i → g i = 0) → N + M ≤ k → cvq f g k = 0 := by
  induction N with
  | zero => exact fun f g k h _ _ => cvq_z k f g (fun i => h i (Nat.zero_le _))
  | succ N ih =>
    intro f g k hf hg hk
    obtain ⟨j, rfl⟩ : ∃ j, k = j + 1 := ⟨k - 1, by omega⟩
    rw [cvq_s, hg (j + 1) (by omega), ih (fun i => f (i + 1)) g j (fun i hi => hf (i + 1) (by omega)) hg (by omega)]
    grind
def PL (R : Type) [Lean.Grind.CommRing R] : Type := {f : Nat → R // ∃ N, ∀ k, N ≤ k → f k = 0}
def dl0 {R : Type} [Lean.Grind.CommRing R] (a : R) : Nat → R := fun k => if k = 0 then a else 0
def plz {R : Type} [Lean.Grind.CommRing R] : PL R := ⟨fun _ => 0, 0, fun _ _ => rfl⟩
def pl1 {R : Type} [Lean.Grind.CommRing R] : PL R := ⟨dl0 1, 1, fun k hk => if_neg (by omega)⟩
def pla {R : Type} [Lean.Grind.CommRing R] (a b : PL R) : PL R := ⟨fun k => a.1 k + b.1 k, by
  obtain ⟨f, N, hf⟩ := a
  obtain ⟨g, M, hg⟩ := b
  refine ⟨N + M, fun k hk => ?_⟩
  show f k + g k = 0
  rw [hf k (by omega), hg k (by omega)]
  grind⟩
def plm {R : Type} [Lean.Grind.CommRing R] (a b : PL R) : PL R := ⟨cvq a.1 b.1, by
  obtain ⟨f, N, hf⟩ := a
  obtain ⟨g, M, hg⟩ := b
  exact ⟨N + M, fun k hk => cvq_top N f g k hf hg hk⟩⟩
def pln {R : Type} [Lean.Grind.CommRing R] (a : PL R) : PL R := ⟨fun k => -(a.1 k), by
  obtain ⟨f, N, hf⟩ := a
  refine ⟨N, fun k hk => ?_⟩
  show -(f k) = 0
  rw [hf k hk]
  grind⟩
theorem dl_mul {R : Type} [Lean.Grind.CommRing R] (a : R) (g : Nat → R) : ∀ k, cvq (dl0 a) g k = a * g k
  | 0 => rfl
  | k + 1 => by
    rw [cvq_s, cvq_z k (fun i => dl0 a (i + 1)) g (fun i => if_neg (by omega))]
    show a * g (k + 1) + 0 = a * g (k + 1)
    grind
theorem pl_ok {R : Type} [Lean.Grind.CommRing R] : RgOk (α := PL R) plz pl1 pla plm pln := by
  refine ⟨fun a => Subtype.ext (funext fun k => ?_), fun a b => Subtype.ext (funext fun k => ?_), fun a b c => Subtype.ext (funext fun k => ?_), fun a => Subtype.ext (funext fun k => ?_), fun a b c => Subtype.ext (funext fun k => ?_), fun a b => Subtype.ext (funext fun k => ?_), fun a => Subtype.ext (funext fun k => ?_), fun a b c => Subtype.ext (funext fun k => ?_)⟩
  · show a.1 k + 0 = a.1 k
    grind
  · show a.1 k + b.1 k = b.1 k + a.1 k
    grind
  · show a.1 k + b.1 k + c.1 k = a.1 k + (b.1 k + c.1 k)
    grind
  · show -(a.1 k) + a.1 k = 0
    grind
  · exact cvq_asc k a.1 b.1 c.1
  · exact cvq_comm k a.1 b.1
  · show cvq a.1 (dl0 1) k = a.1 k
    rw [cvq_comm, dl_mul]
    grind
  · show cvq a.1 (fun k => b.1 k + c.1 k) k = cvq a.1 b.1 k + cvq a.1 c.1 k
    rw [cvq_comm, cvq_add, cvq_comm k b.1, cvq_comm k c.1]
end PLR
