/-! rings out of plain operations; figures as elements -/
def RgOk {α : Type} (z o : α) (ad ml : α → α → α) (ng : α → α) : Prop :=
  (∀ a, ad a z = a) ∧ (∀ a b, ad a b = ad b a) ∧ (∀ a b c, ad (ad a b) c = ad a (ad b c)) ∧ (∀ a, ad (ng a) a = z) ∧
  (∀ a b c, ml (ml a b) c = ml a (ml b c)) ∧ (∀ a b, ml a b = ml b a) ∧ (∀ a, ml a o = a) ∧ ∀ a b c, ml a (ad b c) = ad (ml a b) (ml a c)
section RGM
variable {α : Type} {z o : α} {ad ml : α → α → α} {ng : α → α}
theorem RgOk.zad (h : RgOk z o ad ml ng) (a : α) : ad z a = a := by rw [h.2.1, h.1]
theorem RgOk.can (h : RgOk z o ad ml ng) {a b c : α} (e : ad a b = ad a c) : b = c := by
  have e1 : ad (ng a) (ad a b) = ad (ng a) (ad a c) := by rw [e]
  rw [← h.2.2.1, ← h.2.2.1, h.2.2.2.1, h.zad, h.zad] at e1
  exact e1
theorem RgOk.mlz (h : RgOk z o ad ml ng) (a : α) : ml a z = z := by
  apply h.can (a := ml a z)
  rw [← h.2.2.2.2.2.2.2, h.1, h.1]
theorem RgOk.ngu (h : RgOk z o ad ml ng) {a b : α} (e : ad a b = z) : b = ng a := by
  apply h.can (a := a)
  rw [e, h.2.1, h.2.2.2.1]
theorem RgOk.ngml (h : RgOk z o ad ml ng) (a b : α) : ml (ng a) b = ng (ml a b) := by
  apply h.ngu
  rw [h.2.2.2.2.2.1 a b, h.2.2.2.2.2.1 (ng a) b, ← h.2.2.2.2.2.2.2, h.2.1 a, h.2.2.2.1, h.mlz]
theorem RgOk.ngz (h : RgOk z o ad ml ng) : ng z = z := (h.ngu (h.1 z)).symm
theorem RgOk.ngng (h : RgOk z o ad ml ng) (a : α) : ng (ng a) = a := (h.ngu (h.2.2.2.1 a)).symm
end RGM
def rg_nat {α : Type} (z o : α) (ad : α → α → α) : Nat → α
  | 0 => z
  | 1 => o
  | n + 2 => ad (rg_nat z o ad (n + 1)) o
def rg_int {α : Type} (z o : α) (ad : α → α → α) (ng : α → α) : Int → α
  | .ofNat n => rg_nat z o ad n
  | .negSucc n => ng (rg_nat z o ad (n + 1))
def rg_pow {α : Type} (o : α) (ml : α → α → α) (a : α) : Nat → α
  | 0 => o
  | n + 1 => ml (rg_pow o ml a n) a
section RGM2
variable {α : Type} {z o : α} {ad ml : α → α → α} {ng : α → α}
theorem RgOk.nats (h : RgOk z o ad ml ng) : ∀ n, rg_nat z o ad (n + 1) = ad (rg_nat z o ad n) o
  | 0 => (h.zad o).symm
  | _ + 1 => rfl
theorem RgOk.inn (h : RgOk z o ad ml ng) : ∀ i : Int, rg_int z o ad ng (-i) = ng (rg_int z o ad ng i)
  | .ofNat 0 => h.ngz.symm
  | .ofNat (_ + 1) => rfl
  | .negSucc n => (h.ngng (rg_nat z o ad (n + 1))).symm
end RGM2
/-- the ring -/
abbrev rg_mk {α : Type} {z o : α} {ad ml : α → α → α} {ng : α → α} (h : RgOk z o ad ml ng) : Lean.Grind.CommRing α :=
  { add := ad
    mul := ml
    natCast := ⟨rg_nat z o ad⟩
    ofNat := fun n => ⟨rg_nat z o ad n⟩
    nsmul := ⟨fun n a => ml (rg_nat z o ad n) a⟩
    npow := ⟨fun a n => rg_pow o ml a n⟩
    neg := ng
    sub := fun a b => ad a (ng b)
    intCast := ⟨rg_int z o ad ng⟩
    zsmul := ⟨fun i a => ml (rg_int z o ad ng i) a⟩
    add_zero := h.1
    add_comm := h.2.1
    add_assoc := h.2.2.1
    mul_assoc := h.2.2.2.2.1
    mul_one := h.2.2.2.2.2.2.1
    one_mul := fun a => (h.2.2.2.2.2.1 o a).trans (h.2.2.2.2.2.2.1 a)
    left_distrib := h.2.2.2.2.2.2.2
    right_distrib := fun a b c => by
      show ml (ad a b) c = ad (ml a c) (ml b c)
      rw [h.2.2.2.2.2.1, h.2.2.2.2.2.2.2, h.2.2.2.2.2.1 c a, h.2.2.2.2.2.1 c b]
    zero_mul := fun a => (h.2.2.2.2.2.1 z a).trans (h.mlz a)
    mul_zero := h.mlz
    pow_zero := fun _ => rfl
    pow_succ := fun _ _ => rfl
    ofNat_succ := h.nats
    ofNat_eq_natCast := fun _ => rfl
    nsmul_eq_natCast_mul := fun _ _ => rfl
    neg_add_cancel := h.2.2.2.1
    sub_eq_add_neg := fun _ _ => rfl
    neg_zsmul := fun i a => by
      show ml (rg_int z o ad ng (-i)) a = ng (ml (rg_int z o ad ng i) a)
      rw [h.inn, h.ngml]
    zsmul_natCast_eq_nsmul := fun _ _ => rfl
    intCast_ofNat := fun _ => rfl
    intCast_neg := h.inn
    mul_comm := h.2.2.2.2.2.1 }
/-! q-th powers add, where q is 0 -/
theorem frob_add {R : Type} [Lean.Grind.CommRing R] {q : Nat} (hq : q = 2 ∨ q = 3 ∨ q = 5) (hc : (OfNat.ofNat q : R) = 0) (x y : R) : (x + y) ^ q = x ^ q + y ^ q := by
  rcases hq with rfl | rfl | rfl
  · have h : (2 : R) = 0 := hc
    grind
  · have h : (3 : R) = 0 := hc
    grind
  · have h : (5 : R) = 0 := hc
    grind
