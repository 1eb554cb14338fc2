/-! the rests of a world as a ring -/
def KT (n : Nat) : Type := {x : Nat // x < n}
theorem cmb_comm {q a b : Nat} (h2 : 2 ≤ q) : cmb q 1 13 a b = cmb q 1 13 b a := by
  refine dg_ext h2 (cmb_lt _ h2 13 _ _) (cmb_lt _ h2 13 _ _) (fun k hk => ?_)
  rw [cmb_dg _ h2, if_pos hk, cmb_dg _ h2, if_pos hk, Nat.one_mul, Nat.one_mul, Nat.add_comm]
theorem cmb_asc {q a b c : Nat} (h2 : 2 ≤ q) : cmb q 1 13 (cmb q 1 13 a b) c = cmb q 1 13 a (cmb q 1 13 b c) := by
  rw [cmb_in h2, Nat.one_mul]
theorem cmb_stp {q s a b : Nat} (h2 : 2 ≤ q) : cmb q (s + 1) 13 a b = cmb q 1 13 (cmb q s 13 a b) b := by
  refine dg_ext h2 (cmb_lt _ h2 13 _ _) (cmb_lt _ h2 13 _ _) (fun k hk => ?_)
  rw [cmb_dg _ h2, if_pos hk, cmb_dg _ h2, if_pos hk, cmb_dg _ h2, if_pos hk, Nat.mod_add_mod, Nat.one_mul, Nat.add_mul, Nat.one_mul, Nat.add_assoc]
theorem cmb_fig {q s a b : Nat} (h2 : 2 ≤ q) (ha : a < q) (hb : b < q) : cmb q s 13 a b = (a + s * b) % q := by
  show (a % q + s * (b % q)) % q + q * cmb q s 12 (a / q) (b / q) = _
  rw [Nat.mod_eq_of_lt ha, Nat.mod_eq_of_lt hb, Nat.div_eq_of_lt ha, Nat.div_eq_of_lt hb, cmb_zero s h2, Nat.mul_zero, Nat.add_zero]
section KRG
variable {q m d n : Nat}
theorem Wd.pos (w : Wd q m d n) : 0 < n := by have := w.n2; omega
theorem kt_ok (w : Wd q m d n) : RgOk (α := KT n) ⟨0, w.pos⟩ ⟨1, by have := w.n2; omega⟩ (fun a b => ⟨cmb q 1 13 a.1 b.1, cmb_ltn w a.2 b.2⟩) (fun a b => ⟨mu q m a.1 b.1, mu_lt w b.2⟩) (fun a => ⟨cmb q (q - 1) 13 0 a.1, cmb_ltn w w.pos a.2⟩) := by
  have h2 := w.q2
  refine ⟨fun a => Subtype.ext ?_, fun a b => Subtype.ext ?_, fun a b c => Subtype.ext ?_, fun a => Subtype.ext ?_, fun a b c => Subtype.ext ?_, fun a b => Subtype.ext ?_, fun a => Subtype.ext ?_, fun a b c => Subtype.ext ?_⟩
  · exact cmb_0r h2 (w.lt13 a.2)
  · exact cmb_comm h2
  · exact cmb_asc h2
  · show cmb q 1 13 (cmb q (q - 1) 13 0 a.1) a.1 = 0
    rw [cmb_swap h2, cmb_one h2 (w.lt13 a.2), cmb_self h2]
  · exact mu_assoc w a.2 b.2 c.2
  · exact mu_comm w a.2 b.2
  · exact mu_1r w a.2
  · exact mu_lin w a.2 b.2 c.2
def kt {n a : Nat} (h : a < n) : KT n := ⟨a, h⟩
abbrev kR (w : Wd q m d n) : Lean.Grind.CommRing (KT n) := rg_mk (kt_ok w)
theorem k_nat (w : Wd q m d n) : ∀ i, (rg_nat (α := KT n) ⟨0, w.pos⟩ ⟨1, by have := w.n2; omega⟩ (fun a b => ⟨cmb q 1 13 a.1 b.1, cmb_ltn w a.2 b.2⟩) i).1 = i % q := by
  have h2 := w.q2
  intro i
  induction i with
  | zero => exact (Nat.zero_mod q).symm
  | succ i ih =>
    rw [(kt_ok w).nats]
    show cmb q 1 13 _ 1 = _
    rw [ih, cmb_fig h2 (Nat.mod_lt _ (by omega)) (by omega), Nat.mod_add_mod]
theorem k_q0 (w : Wd q m d n) : letI := kR w; (OfNat.ofNat q : KT n) = 0 := by
  apply Subtype.ext
  show (rg_nat (α := KT n) _ _ _ q).1 = 0
  rw [k_nat w, Nat.mod_self]
theorem k_scal (w : Wd q m d n) (a b : KT n) : ∀ s, letI := kR w; (a + (OfNat.ofNat s : KT n) * b).1 = cmb q s 13 a.1 b.1 := by
  have h2 := w.q2
  intro s
  letI := kR w
  induction s with
  | zero =>
    have : a + (OfNat.ofNat 0 : KT n) * b = a := by grind
    rw [this, cmb_a h2 _ (w.lt13 a.2)]
  | succ s ih =>
    have : a + (OfNat.ofNat (s + 1) : KT n) * b = (a + (OfNat.ofNat s : KT n) * b) + b := by
      rw [Lean.Grind.Semiring.ofNat_succ]
      grind
    rw [this, cmb_stp h2, ← ih]
    rfl
theorem k_pow (w : Wd q m d n) (a : KT n) : ∀ k p, letI := kR w; (p * a ^ k).1 = tbl q a.1 m k p.1 := by
  intro k
  letI := kR w
  induction k with
  | zero =>
    intro p
    have : p * a ^ 0 = p := by grind
    rw [this]
    rfl
  | succ k ih =>
    intro p
    have : p * a ^ (k + 1) = (p * a) * a ^ k := by grind
    rw [this, ih]
    rfl
theorem k_tby (w : Wd q m d n) (a : KT n) : letI := kR w; (a ^ q).1 = tby q a.1 m := by
  have h2 := w.q2
  letI := kR w
  have : a ^ q = a * a ^ (q - 1) := by
    obtain ⟨k, rfl⟩ : ∃ k, q = k + 1 := ⟨q - 1, by omega⟩
    grind
  rw [this, k_pow w]
  rfl
theorem k_add1 (w : Wd q m d n) (a b : KT n) : letI := kR w; (a + b).1 = cmb q 1 13 a.1 b.1 := rfl
theorem k_mul1 (w : Wd q m d n) (a b : KT n) : letI := kR w; (a * b).1 = mu q m a.1 b.1 := rfl
theorem k_frob (w : Wd q m d n) (a b : KT n) : letI := kR w; (a + b) ^ q = a ^ q + b ^ q := by
  letI := kR w
  exact frob_add w.hq (k_q0 w) a b
theorem k_powm (w : Wd q m d n) (a b : KT n) : letI := kR w; (a * b) ^ q = a ^ q * b ^ q := by
  letI := kR w
  rcases w.hq with rfl | rfl | rfl <;> grind
theorem tby_add (w : Wd q m d n) {a b : Nat} (ha : a < n) (hb : b < n) : tby q (cmb q 1 13 a b) m = cmb q 1 13 (tby q a m) (tby q b m) := by
  have e := congrArg Subtype.val (k_frob w (kt ha) (kt hb))
  rw [k_tby w, k_add1 w, k_add1 w, k_tby w, k_tby w] at e
  exact e
theorem tby_mul (w : Wd q m d n) {a b : Nat} (ha : a < n) (hb : b < n) : tby q (mu q m a b) m = mu q m (tby q a m) (tby q b m) := by
  have e := congrArg Subtype.val (k_powm w (kt ha) (kt hb))
  rw [k_tby w, k_mul1 w, k_mul1 w, k_tby w, k_tby w] at e
  exact e
/-- linear over the figures -/
def Ln (q n : Nat) (f : Nat → Nat) : Prop := (∀ a, a < n → f a < n) ∧ ∀ s a b, a < n → b < n → f (cmb q s 13 a b) = cmb q s 13 (f a) (f b)
theorem Ln.of (w : Wd q m d n) {f : Nat → Nat} (h : ∀ a, a < n → f a < n) (h1 : ∀ a b, a < n → b < n → f (cmb q 1 13 a b) = cmb q 1 13 (f a) (f b)) : Ln q n f := by
  have h2 := w.q2
  refine ⟨h, fun s => ?_⟩
  induction s with
  | zero =>
    intro a b ha hb
    rw [cmb_a h2 _ (w.lt13 ha), cmb_a h2 _ (w.lt13 (h a ha))]
  | succ s ih =>
    intro a b ha hb
    rw [cmb_stp h2, h1 _ _ (cmb_ltn w ha hb) hb, ih a b ha hb, ← cmb_stp h2]
theorem Ln.zero (w : Wd q m d n) {f : Nat → Nat} (h : Ln q n f) : f 0 = 0 := by
  have h2 := w.q2
  have := h.2 (q - 1) 0 0 w.pos w.pos
  rw [cmb_self h2, cmb_self h2] at this
  exact this
theorem tby_Ln (w : Wd q m d n) : Ln q n (fun v => tby q v m) := Ln.of w (fun _ ha => tby_ltn w ha) (fun _ _ ha hb => tby_add w ha hb)
theorem Ln.comp {f g : Nat → Nat} (hf : Ln q n f) (hg : Ln q n g) : Ln q n (fun x => f (g x)) := ⟨fun a ha => hf.1 _ (hg.1 a ha), fun s a b ha hb => by
  show f (g (cmb q s 13 a b)) = _
  rw [hg.2 s a b ha hb, hf.2 s _ _ (hg.1 a ha) (hg.1 b hb)]⟩
theorem itr_Ln {f : Nat → Nat} (hf : Ln q n f) : ∀ k, Ln q n (itr f k)
  | 0 => ⟨fun _ ha => ha, fun _ _ _ _ _ => rfl⟩
  | k + 1 => (itr_Ln hf k).comp hf
theorem tu_Ln (w : Wd q m d n) (i : Nat) : Ln q n (fun a => tu q m d a i) := itr_Ln (tby_Ln w) (i % d)
theorem vls_Ln (w : Wd q m d n) {f : Nat → Nat} (hf : ∀ k, f k < n) : ∀ N, Ln q n (fun x => vls q m d f x N)
  | 0 => ⟨fun _ _ => w.pos, fun s _ _ _ _ => (cmb_zero s w.q2 13).symm⟩
  | N + 1 => Ln.of w (fun _ ha => vls_lt w ha (N + 1)) (fun a b ha hb => by
    have h2 := w.q2
    show cmb q 1 13 (vls q m d f (cmb q 1 13 a b) N) (mu q m (f N) (tu q m d (cmb q 1 13 a b) N)) = cmb q 1 13 (cmb q 1 13 (vls q m d f a N) (mu q m (f N) (tu q m d a N))) (cmb q 1 13 (vls q m d f b N) (mu q m (f N) (tu q m d b N)))
    have e1 : vls q m d f (cmb q 1 13 a b) N = cmb q 1 13 (vls q m d f a N) (vls q m d f b N) := (vls_Ln w hf N).2 1 a b ha hb
    have e2 : tu q m d (cmb q 1 13 a b) N = cmb q 1 13 (tu q m d a N) (tu q m d b N) := (tu_Ln w N).2 1 a b ha hb
    rw [e1, e2, mu_lin w (hf N) (tu_lt w ha) (tu_lt w hb), cmb_lin h2])
theorem vl_Ln (w : Wd q m d n) {f : Nat → Nat} (hf : ∀ k, f k < n) : Ln q n (vl q m d f) := vls_Ln w hf 25
end KRG
