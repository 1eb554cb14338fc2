/-! the ring of rests by g; values and roots -/
def qSet {R : Type} [Lean.Grind.CommRing R] (g : PL R) : Setoid (PL R) := letI := plR R; ⟨fun a b => Dv g (a - b), ⟨fun a => ⟨0, by grind⟩, fun {a b} ⟨c, h⟩ => ⟨-c, by grind⟩, fun {a b e} ⟨c, h⟩ ⟨c1, h1⟩ => ⟨c + c1, by grind⟩⟩⟩
def QRg {R : Type} [Lean.Grind.CommRing R] (g : PL R) : Type := Quotient (qSet g)
def tq {R : Type} [Lean.Grind.CommRing R] (g a : PL R) : QRg g := Quotient.mk (qSet g) a
theorem tq_eq {R : Type} [Lean.Grind.CommRing R] {g a b : PL R} : letI := plR R; tq g a = tq g b ↔ Dv g (a - b) := ⟨fun h => Quotient.exact (s := qSet g) h, fun h => Quotient.sound (s := qSet g) h⟩
theorem tq_rep {R : Type} [Lean.Grind.CommRing R] {g : PL R} (x : QRg g) : ∃ a, tq g a = x := Quotient.inductionOn (s := qSet g) (motive := fun x => ∃ a, tq g a = x) x (fun a => ⟨a, rfl⟩)
def qrA {R : Type} [Lean.Grind.CommRing R] {g : PL R} (x y : QRg g) : QRg g := letI := plR R; Quotient.liftOn₂ (s₁ := qSet g) (s₂ := qSet g) x y (fun a b => tq g (a + b)) (fun a b a1 b1 h h1 => by
  obtain ⟨c, hc⟩ := h
  obtain ⟨e, he⟩ := h1
  exact tq_eq.mpr ⟨c + e, by grind⟩)
def qrM {R : Type} [Lean.Grind.CommRing R] {g : PL R} (x y : QRg g) : QRg g := letI := plR R; Quotient.liftOn₂ (s₁ := qSet g) (s₂ := qSet g) x y (fun a b => tq g (a * b)) (fun a b a1 b1 h h1 => by
  obtain ⟨c, hc⟩ := h
  obtain ⟨e, he⟩ := h1
  exact tq_eq.mpr ⟨c * b + a1 * e, by grind⟩)
def qrN {R : Type} [Lean.Grind.CommRing R] {g : PL R} (x : QRg g) : QRg g := letI := plR R; Quotient.liftOn (s := qSet g) x (fun a => tq g (-a)) (fun a a1 h => by
  obtain ⟨c, hc⟩ := h
  exact tq_eq.mpr ⟨-c, by grind⟩)
theorem qr_ok {R : Type} [Lean.Grind.CommRing R] (g : PL R) : letI := plR R; RgOk (α := QRg g) (tq g 0) (tq g 1) qrA qrM qrN := by
  letI := plR R
  refine ⟨fun x => ?_, fun x y => ?_, fun x y z => ?_, fun x => ?_, fun x y z => ?_, fun x y => ?_, fun x => ?_, fun x y z => ?_⟩
  · obtain ⟨a, rfl⟩ := tq_rep x
    exact congrArg (tq g) (show a + 0 = a by grind)
  · obtain ⟨a, rfl⟩ := tq_rep x
    obtain ⟨b, rfl⟩ := tq_rep y
    exact congrArg (tq g) (show a + b = b + a by grind)
  · obtain ⟨a, rfl⟩ := tq_rep x
    obtain ⟨b, rfl⟩ := tq_rep y
    obtain ⟨c, rfl⟩ := tq_rep z
    exact congrArg (tq g) (show a + b + c = a + (b + c) by grind)
  · obtain ⟨a, rfl⟩ := tq_rep x
    exact congrArg (tq g) (show -a + a = 0 by grind)
  · obtain ⟨a, rfl⟩ := tq_rep x
    obtain ⟨b, rfl⟩ := tq_rep y
    obtain ⟨c, rfl⟩ := tq_rep z
    exact congrArg (tq g) (show a * b * c = a * (b * c) by grind)
  · obtain ⟨a, rfl⟩ := tq_rep x
    obtain ⟨b, rfl⟩ := tq_rep y
    exact congrArg (tq g) (show a * b = b * a by grind)
  · obtain ⟨a, rfl⟩ := tq_rep x
    exact congrArg (tq g) (show a * 1 = a by grind)
  · obtain ⟨a, rfl⟩ := tq_rep x
    obtain ⟨b, rfl⟩ := tq_rep y
    obtain ⟨c, rfl⟩ := tq_rep z
    exact congrArg (tq g) (show a * (b + c) = a * b + a * c by grind)
abbrev qrR {R : Type} [Lean.Grind.CommRing R] (g : PL R) : Lean.Grind.CommRing (QRg g) := rg_mk (qr_ok g)
theorem tq_add {R : Type} [Lean.Grind.CommRing R] (g a b : PL R) : letI := plR R; letI := qrR g; tq g (a + b) = tq g a + tq g b := rfl
theorem tq_mul {R : Type} [Lean.Grind.CommRing R] (g a b : PL R) : letI := plR R; letI := qrR g; tq g (a * b) = tq g a * tq g b := rfl
theorem tq_neg {R : Type} [Lean.Grind.CommRing R] (g a : PL R) : letI := plR R; letI := qrR g; tq g (-a) = -(tq g a) := rfl
theorem tq_sub {R : Type} [Lean.Grind.CommRing R] (g a b : PL R) : letI := plR R; letI := qrR g; tq g (a - b) = tq g a - tq g b := by
  letI := plR R
  letI := qrR g
  have e : a - b = a + -b := by grind
  rw [e, tq_add, tq_neg]
  grind
theorem tq_0 {R : Type} [Lean.Grind.CommRing R] (g : PL R) : letI := plR R; letI := qrR g; tq g 0 = 0 := rfl
theorem tq_1 {R : Type} [Lean.Grind.CommRing R] (g : PL R) : letI := plR R; letI := qrR g; tq g 1 = 1 := rfl
theorem tq_dv {R : Type} [Lean.Grind.CommRing R] {g a : PL R} : letI := plR R; letI := qrR g; tq g a = 0 ↔ Dv g a := by
  letI := plR R
  letI := qrR g
  rw [← tq_0 g, tq_eq]
  have e : a - 0 = a := by grind
  rw [e]
theorem tq_pow {R : Type} [Lean.Grind.CommRing R] (g a : PL R) : ∀ k : Nat, letI := plR R; letI := qrR g; tq g (a ^ k) = tq g a ^ k := by
  letI := plR R
  letI := qrR g
  intro k
  induction k with
  | zero =>
    have e : a ^ 0 = 1 := by grind
    have e1 : tq g a ^ 0 = 1 := by grind
    rw [e, e1, tq_1]
  | succ k ih =>
    have e : a ^ (k + 1) = a ^ k * a := by grind
    have e1 : tq g a ^ (k + 1) = tq g a ^ k * tq g a := by grind
    rw [e, e1, tq_mul, ih]
theorem qr_chq {R : Type} [Lean.Grind.CommRing R] {q : Nat} (h : Chq R q) (g : PL R) : letI := qrR g; Chq (QRg g) q := by
  letI := plR R
  letI := qrR g
  have e : ∀ n, (OfNat.ofNat n : QRg g) = tq g (OfNat.ofNat n) := fun n => by
    induction n with
    | zero => rfl
    | succ n ih =>
      have e1 : (OfNat.ofNat (n + 1) : PL R) = OfNat.ofNat n + 1 := Lean.Grind.Semiring.ofNat_succ n
      have e2 : (OfNat.ofNat (n + 1) : QRg g) = OfNat.ofNat n + 1 := Lean.Grind.Semiring.ofNat_succ n
      rw [e1, e2, ih, tq_add, tq_1]
  refine ⟨h.1, ?_⟩
  rw [e, (pl_chq h).2, tq_0]
/-- a homomorphism -/
def Hom {R S : Type} [Lean.Grind.CommRing R] [Lean.Grind.CommRing S] (φ : R → S) : Prop := (∀ a b, φ (a + b) = φ a + φ b) ∧ (∀ a b, φ (a * b) = φ a * φ b) ∧ φ 1 = 1
theorem hom_Lop {R S : Type} [Lean.Grind.CommRing R] [Lean.Grind.CommRing S] {φ : R → S} (h : Hom φ) (y : S) : Lop φ (fun z => y * z) := by
  refine ⟨h.1, h.2.1, h.2.2, fun u v => ?_, fun a u => ?_⟩
  · show y * (u + v) = y * u + y * v
    grind
  · show y * (φ a * u) = φ a * (y * u)
    grind
/-- the value of f at y -/
noncomputable def evf {R S : Type} [Lean.Grind.CommRing R] [Lean.Grind.CommRing S] (φ : R → S) (y : S) (f : PL R) : S := acp φ (fun z => y * z) f 1
theorem acn_mr {R S : Type} [Lean.Grind.CommRing R] [Lean.Grind.CommRing S] (φ : R → S) (y z : S) (N : Nat) : ∀ (f : Nat → R) (x : S), acn φ (fun u => y * u) N f (x * z) = z * acn φ (fun u => y * u) N f x := by
  induction N with
  | zero =>
    intro f x
    show (0 : S) = z * 0
    grind
  | succ N ih =>
    intro f x
    rw [acn_s, acn_s]
    have e : y * (x * z) = y * x * z := by grind
    rw [e, ih]
    generalize acn φ (fun u => y * u) N (fun i => f (i + 1)) (y * x) = A
    grind
theorem evf_is {R S : Type} [Lean.Grind.CommRing R] [Lean.Grind.CommRing S] {φ : R → S} (h : Hom φ) (y : S) {f : PL R} {N : Nat} (hf : Dlt f N) : evf φ y f = acn φ (fun u => y * u) N f.1 1 := acp_is (hom_Lop h y) hf 1
theorem evf_add {R S : Type} [Lean.Grind.CommRing R] [Lean.Grind.CommRing S] {φ : R → S} (h : Hom φ) (y : S) (f g : PL R) : letI := plR R; evf φ y (f + g) = evf φ y f + evf φ y g := (acp_ok (hom_Lop h y)).1 f g 1
theorem evf_sub {R S : Type} [Lean.Grind.CommRing R] [Lean.Grind.CommRing S] {φ : R → S} (h : Hom φ) (y : S) (f g : PL R) : letI := plR R; evf φ y (f - g) = evf φ y f - evf φ y g := acp_sub (hom_Lop h y) f g 1
theorem evf_1 {R S : Type} [Lean.Grind.CommRing R] [Lean.Grind.CommRing S] {φ : R → S} (h : Hom φ) (y : S) : letI := plR R; evf φ y 1 = 1 := (acp_ok (hom_Lop h y)).2.2.1 1
theorem evf_0 {R S : Type} [Lean.Grind.CommRing R] [Lean.Grind.CommRing S] {φ : R → S} (h : Hom φ) (y : S) : letI := plR R; evf φ y 0 = 0 := ac_0 (acp_ok (hom_Lop h y)) 1
theorem evf_mul {R S : Type} [Lean.Grind.CommRing R] [Lean.Grind.CommRing S] {φ : R → S} (h : Hom φ) (y : S) (f g : PL R) : letI := plR R; evf φ y (f * g) = evf φ y f * evf φ y g := by
  letI := plR R
  have h1 := (acp_ok (hom_Lop h y)).2.1 f g 1
  have e : evf φ y (f * g) = acp φ (fun z => y * z) f (evf φ y g) := h1
  obtain ⟨N, hN⟩ := Dlt.ex f
  rw [e, acp_is (hom_Lop h y) hN, evf_is h y hN]
  have e2 : evf φ y g = 1 * evf φ y g := by
    generalize evf φ y g = A
    grind
  rw [e2, acn_mr]
  generalize acn φ (fun u => y * u) N f.1 1 = A
  generalize evf φ y g = B
  grind
theorem itg_mul {S : Type} [Lean.Grind.CommRing S] (y : S) (k : Nat) : ∀ z, itg (fun u => y * u) k z = y ^ k * z := by
  induction k with
  | zero =>
    intro z
    show z = y ^ 0 * z
    grind
  | succ k ih =>
    intro z
    show itg (fun u => y * u) k (y * z) = y ^ (k + 1) * z
    rw [ih]
    grind
theorem evf_mn {R S : Type} [Lean.Grind.CommRing R] [Lean.Grind.CommRing S] {φ : R → S} (h : Hom φ) (y : S) (c : R) (k : Nat) : evf φ y (mnm c k) = φ c * y ^ k := by
  have h1 := acp_mn (hom_Lop h y) c k 1
  have e : evf φ y (mnm c k) = φ c * itg (fun u => y * u) k 1 := h1
  rw [e, itg_mul]
  grind
/-- no more roots than places -/
def lsf {S : Type} (f : Nat → S) : Nat → Nat → List S
  | 0, _ => []
  | N + 1, o => f o :: lsf f N (o + 1)
theorem lst_len {S : Type} (f : Nat → S) : ∀ N o, (lsf f N o).length = N := by
  intro N
  induction N with
  | zero => exact fun _ => rfl
  | succ N ih =>
    intro o
    show (lsf f N (o + 1)).length + 1 = N + 1
    rw [ih]
theorem lst_mem {S : Type} (f : Nat → S) : ∀ N o i, i < N → f (o + i) ∈ lsf f N o := by
  intro N
  induction N with
  | zero => exact fun o i h => absurd h (Nat.not_lt_zero _)
  | succ N ih =>
    intro o i h
    show f (o + i) ∈ f o :: lsf f N (o + 1)
    cases i with
    | zero => exact List.mem_cons_self ..
    | succ i =>
      have h1 := ih (o + 1) i (by omega)
      rw [show o + 1 + i = o + (i + 1) by omega] at h1
      exact List.mem_cons_of_mem _ h1
theorem evl_acn {R S : Type} [Lean.Grind.CommRing R] [Lean.Grind.CommRing S] (φ : R → S) (y : S) (f : Nat → R) (N : Nat) : ∀ o x, acn φ (fun u => y * u) N (fun i => f (o + i)) x = x * evL2 y (lsf (fun i => φ (f i)) N o) := by
  induction N with
  | zero =>
    intro o x
    show (0 : S) = x * 0
    grind
  | succ N ih =>
    intro o x
    have e : (fun i => f (o + (i + 1))) = fun i => f (o + 1 + i) := funext fun i => by rw [show o + (i + 1) = o + 1 + i by omega]
    rw [acn_s, e, ih (o + 1)]
    show φ (f (o + 0)) * x + y * x * evL2 y (lsf (fun i => φ (f i)) N (o + 1)) = x * (φ (f o) + y * evL2 y (lsf (fun i => φ (f i)) N (o + 1)))
    rw [Nat.add_zero]
    generalize evL2 y (lsf (fun i => φ (f i)) N (o + 1)) = A
    grind
theorem rts {R S : Type} [Lean.Grind.CommRing R] [Lean.Grind.CommRing S] (nz : ∀ a b : S, a * b = 0 → a = 0 ∨ b = 0) {φ : R → S} (h : Hom φ) {f : PL R} {N : Nat} (hf : Dlt f N) (rs : Nat → S) (hr : ∀ i, i < N → evf φ (rs i) f = 0) (hd : ∀ i j, i < N → j < N → rs i = rs j → i = j) : ∀ i, i < N → φ (f.1 i) = 0 := by
  intro i hi
  refine roots_le nz N (lsf (fun i => φ (f.1 i)) N 0) rs (lst_len _ N 0) (fun j hj => ?_) hd _ ?_
  · have h1 := hr j hj
    rw [evf_is h _ hf] at h1
    have e : (fun i => f.1 (0 + i)) = f.1 := funext fun i => by rw [Nat.zero_add]
    have h3 := evl_acn φ (rs j) f.1 N 0 1
    rw [e, h1] at h3
    generalize evL2 (rs j) (lsf (fun i => φ (f.1 i)) N 0) = A at *
    grind
  · have := lst_mem (fun i => φ (f.1 i)) N 0 i hi
    rw [Nat.zero_add] at this
    exact this
