/-! a basis of steps exists; rings of rows; polynomials carried over -/
section HEX
variable {q m d n : Nat}
theorem ste_k (w : Wd q m d n) {D c v : Nat} {f : Nat → Nat} (hf : Ln q n f) (hc : c + 1 < D) (hv : v < q) (hv0 : v ≠ 0) : ∀ (x k : Nat) (M : TBt), x + k = D → c + 2 ≤ k → Ste q n D f M c → (∀ i j, i < D → j < D → M i j < q) → M (c + 1) c = v → (∀ i, c + 2 ≤ i → i < k → M i c = 0) → ∃ M1, Ste q n D f M1 (c + 1) ∧ ∀ i j, i < D → j < D → M1 i j < q := by
  have hq := w.hq
  have h2 := w.q2
  have hl := iv_lt hq hv
  have hm := iv_mul hq hv hv0
  intro x
  induction x with
  | zero =>
    intro k M hk _ hS hlt hvc hz
    have : k = D := by omega
    subst this
    exact ⟨M, ⟨hS.1, fun i j hi hj hij => by
      by_cases a : j = c
      · subst a; exact hz i (by omega) hi
      · exact hS.2 i j hi (by omega) hij⟩, hlt⟩
  | succ x ih =>
    intro k M hk hck hS hlt hvc hz
    have l1 := hlt k c (by omega) (by omega)
    have ht : M k c * iv q v % q < q := Nat.mod_lt _ (by omega)
    refine ih (k + 1) (elC q (elR q M (c + 1) k (M k c * iv q v % q)) (c + 1) k (M k c * iv q v % q)) (by omega) (by omega) ?_ ?_ ?_ ?_
    · obtain ⟨b, hb⟩ := hS.1
      refine ⟨⟨_, hb.el w hf (s := c + 1) (k := k) (t := M k c * iv q v % q) (by omega) (by omega) (by omega) (Nat.le_of_lt ht)⟩, fun i j hi hj hij => ?_⟩
      unfold elC elR
      rw [if_neg (by omega)]
      by_cases a : i = k
      · rw [if_pos a, hS.2 k j (by omega) hj (by omega), hS.2 (c + 1) j (by omega) hj (by omega), Nat.mul_zero, Nat.zero_mod]
      · rw [if_neg a]
        exact hS.2 i j hi hj hij
    · intro i j hi hj
      unfold elC elR
      by_cases a : j = c + 1
      · rw [if_pos a]
        exact Nat.mod_lt _ (by omega)
      · rw [if_neg a]
        by_cases a2 : i = k
        · rw [if_pos a2]
          exact Nat.mod_lt _ (by omega)
        · rw [if_neg a2]
          exact hlt i j hi hj
    · unfold elC elR
      rw [if_neg (by omega), if_neg (by omega)]
      exact hvc
    · intro i h1 h3
      unfold elC elR
      rw [if_neg (by omega)]
      by_cases a : i = k
      · rw [if_pos a, hvc]
        have := top_gone hq l1 hv hl hm
        rw [Nat.add_mod (M k c), Nat.mod_mul_mod, ← Nat.add_mod] at this
        exact this
      · rw [if_neg a]
        exact hz i h1 (by omega)
theorem ste_c (w : Wd q m d n) {D c : Nat} {f : Nat → Nat} (hf : Ln q n f) {M : TBt} (hS : Ste q n D f M c) (hlt : ∀ i j, i < D → j < D → M i j < q) : ∃ M1, Ste q n D f M1 (c + 1) ∧ ∀ i j, i < D → j < D → M1 i j < q := by
  by_cases c0 : ∃ r, c + 1 ≤ r ∧ r < D ∧ M r c ≠ 0
  · obtain ⟨r, r1, r2, r3⟩ := c0
    have ec : tsw r (c + 1) (c + 1) = r := by
      unfold tsw
      by_cases a : c + 1 = r
      · rw [if_pos a]; exact a
      · rw [if_neg a, if_pos rfl]
    have ec2 : tsw r (c + 1) c = c := by unfold tsw; rw [if_neg (by omega), if_neg (by omega)]
    refine ste_k w hf (by omega) (hlt r c r2 (by omega)) r3 (D - (c + 2)) (c + 2) (swH M r (c + 1)) (by omega) (Nat.le_refl _) ?_ (fun i j hi hj => hlt _ _ (tsw_lt (by omega) (by omega) hi) (tsw_lt (by omega) (by omega) hj)) ?_ (fun i h1 h2 => absurd h1 (by omega))
    · obtain ⟨b, hb⟩ := hS.1
      refine ⟨⟨_, hb.sw w (r := r) (s := c + 1) (by omega) (by omega)⟩, fun i j hi hj hij => ?_⟩
      unfold swH
      have ej : tsw r (c + 1) j = j := by unfold tsw; rw [if_neg (by omega), if_neg (by omega)]
      rw [ej]
      refine hS.2 _ j (tsw_lt (by omega) (by omega) hi) hj ?_
      unfold tsw
      split
      · omega
      · split <;> omega
    · unfold swH
      rw [ec, ec2]
  · refine ⟨M, ⟨hS.1, fun i j hi hj hij => ?_⟩, hlt⟩
    by_cases a : j = c
    · subst a
      exact Classical.byContradiction (fun z => c0 ⟨i, by omega, hi, z⟩)
    · exact hS.2 i j hi (by omega) hij
theorem hes_ex (w : Wd q m d n) {g : Nat → Nat} (hg : ∀ k, g k < n) : ∃ H, HesOf q m d n g H := by
  have hf := vl_Ln w hg
  have key : ∀ c, ∃ M, Ste q n d (vl q m d g) M c ∧ ∀ i j, i < d → j < d → M i j < q := fun c => by
    induction c with
    | zero => exact ⟨tb0 q (vl q m d g), ⟨⟨_, Bss_0 w hf⟩, fun i j _ hj => absurd hj (Nat.not_lt_zero _)⟩, fun i j _ _ => dg_lt w.q2⟩
    | succ c ih =>
      obtain ⟨M, m1, m2⟩ := ih
      exact ste_c w hf m1 m2
  exact key d
end HEX
/-- rows of S -/
def SQ (S : Type) : Type := Nat → S
theorem sq_ok {S : Type} [Lean.Grind.CommRing S] : RgOk (α := SQ S) (fun _ => 0) (fun _ => 1) (fun a b k => a k + b k) (fun a b k => a k * b k) (fun a k => -(a k)) := by
  refine ⟨fun a => funext fun k => ?_, fun a b => funext fun k => ?_, fun a b c => funext fun k => ?_, fun a => funext fun k => ?_, fun a b c => funext fun k => ?_, fun a b => funext fun k => ?_, fun a => funext fun k => ?_, fun a b c => funext fun k => ?_⟩
  · show a k + 0 = a k
    grind
  · show a k + b k = b k + a k
    grind
  · show a k + b k + c k = a k + (b k + c k)
    grind
  · show -(a k) + a k = 0
    grind
  · show a k * b k * c k = a k * (b k * c k)
    grind
  · show a k * b k = b k * a k
    grind
  · show a k * 1 = a k
    grind
  · show a k * (b k + c k) = a k * b k + a k * c k
    grind
abbrev sqR (S : Type) [Lean.Grind.CommRing S] : Lean.Grind.CommRing (SQ S) := rg_mk (sq_ok (S := S))
/-- rows that come again after d -/
def PQ (d : Nat) (S : Type) : Type := {y : Nat → S // ∀ i, y (i + d) = y i}
theorem pqp {S : Type} {d : Nat} (a : PQ d S) (i : Nat) : a.1 (i + d) = a.1 i := a.2 i
def pqA {S : Type} [Lean.Grind.CommRing S] {d : Nat} (a b : PQ d S) : PQ d S := ⟨fun k => a.1 k + b.1 k, fun i => congr (congrArg HAdd.hAdd (pqp a i)) (pqp b i)⟩
def pqM {S : Type} [Lean.Grind.CommRing S] {d : Nat} (a b : PQ d S) : PQ d S := ⟨fun k => a.1 k * b.1 k, fun i => congr (congrArg HMul.hMul (pqp a i)) (pqp b i)⟩
def pqN {S : Type} [Lean.Grind.CommRing S] {d : Nat} (a : PQ d S) : PQ d S := ⟨fun k => -(a.1 k), fun i => congrArg Neg.neg (pqp a i)⟩
def pqC {S : Type} [Lean.Grind.CommRing S] {d : Nat} (c : S) : PQ d S := ⟨fun _ => c, fun _ => rfl⟩
theorem pq_ok {S : Type} [Lean.Grind.CommRing S] (d : Nat) : RgOk (α := PQ d S) (pqC 0) (pqC 1) pqA pqM pqN := by
  refine ⟨fun a => Subtype.ext (funext fun k => ?_), fun a b => Subtype.ext (funext fun k => ?_), fun a b c => Subtype.ext (funext fun k => ?_), fun a => Subtype.ext (funext fun k => ?_), fun a b c => Subtype.ext (funext fun k => ?_), fun a b => Subtype.ext (funext fun k => ?_), fun a => Subtype.ext (funext fun k => ?_), fun a b c => Subtype.ext (funext fun k => ?_)⟩
  · show a.1 k + 0 = a.1 k
    grind
  · show a.1 k + b.1 k = b.1 k + a.1 k
    grind
  · show a.1 k + b.1 k + c.1 k = a.1 k + (b.1 k + c.1 k)
    grind
  · show -(a.1 k) + a.1 k = 0
    grind
  · show a.1 k * b.1 k * c.1 k = a.1 k * (b.1 k * c.1 k)
    grind
  · show a.1 k * b.1 k = b.1 k * a.1 k
    grind
  · show a.1 k * 1 = a.1 k
    grind
  · show a.1 k * (b.1 k + c.1 k) = a.1 k * b.1 k + a.1 k * c.1 k
    grind
abbrev pqR (d : Nat) (S : Type) [Lean.Grind.CommRing S] : Lean.Grind.CommRing (PQ d S) := rg_mk (pq_ok (S := S) d)
/-- finitely many: each is sent to nothing by a monic -/
theorem tor_of {R M : Type} [Lean.Grind.CommRing R] [Lean.Grind.CommRing M] {φ : R → M} {T : M → M} (h : Lop φ T) {cd : M → Nat} {B : Nat} (h1 : ∀ x, cd x < B) (h3 : ∀ x y, cd x = cd y → x = y) : Tor (acp φ T) := by
  letI := plR R
  intro v
  have hex : ∃ i j, i < j ∧ itg T i v = itg T j v := by
    apply Classical.byContradiction
    intro c
    have hp := pigeon B (B + 1) (fun i => cd (itg T i v)) (fun i _ => h1 _) (fun i j _ _ e => by
      have e : itg T i v = itg T j v := h3 _ _ e
      rcases Nat.lt_trichotomy i j with z | z | z
      · exact absurd ⟨i, j, z, e⟩ c
      · exact z
      · exact absurd ⟨j, i, z, e.symm⟩ c)
    omega
  obtain ⟨i, j, hij, e⟩ := hex
  refine ⟨mnm 1 j - mnm 1 i, j, ⟨?_, fun k hk => ?_⟩, ?_⟩
  · rw [pl_sub]
    show (if j = j then (1 : R) else 0) - (if j = i then 1 else 0) = 1
    rw [if_pos rfl, if_neg (by omega)]
    grind
  · rw [pl_sub]
    show (if k = j then (1 : R) else 0) - (if k = i then 1 else 0) = 0
    rw [if_neg (by omega), if_neg (by omega)]
    grind
  · rw [acp_sub h, acp_mn h, acp_mn h, e]
    grind
/-- a row as a number -/
def rcd (n : Nat) : Nat → (Nat → Nat) → Nat
  | 0, _ => 0
  | N + 1, y => y 0 + n * rcd n N (fun i => y (i + 1))
theorem rcd_lt {n : Nat} (hn : 0 < n) (N : Nat) : ∀ y : Nat → Nat, (∀ i, y i < n) → rcd n N y < n ^ N := by
  induction N with
  | zero =>
    intro y _
    rw [Nat.pow_zero]
    exact Nat.one_pos
  | succ N ih =>
    intro y hy
    have h1 := ih (fun i => y (i + 1)) (fun i => hy (i + 1))
    have h3 := hy 0
    show y 0 + n * rcd n N (fun i => y (i + 1)) < n ^ (N + 1)
    have h5 : n * rcd n N (fun i => y (i + 1)) + n ≤ n * n ^ N := by
      rw [← Nat.mul_succ]
      exact Nat.mul_le_mul_left _ h1
    rw [Nat.pow_succ, Nat.mul_comm (n ^ N)]
    omega
theorem rcd_inj {n : Nat} (hn : 0 < n) (N : Nat) : ∀ x y : Nat → Nat, (∀ i, x i < n) → (∀ i, y i < n) → rcd n N x = rcd n N y → ∀ i, i < N → x i = y i := by
  induction N with
  | zero => exact fun _ _ _ _ _ i hi => absurd hi (Nat.not_lt_zero _)
  | succ N ih =>
    intro x y hx hy h i hi
    have h : x 0 + n * rcd n N (fun i => x (i + 1)) = y 0 + n * rcd n N (fun i => y (i + 1)) := h
    have h0 : x 0 = y 0 := by
      have h1 := congrArg (· % n) h
      rw [Nat.add_mul_mod_self_left, Nat.add_mul_mod_self_left, Nat.mod_eq_of_lt (hx 0), Nat.mod_eq_of_lt (hy 0)] at h1
      exact h1
    have h1 : rcd n N (fun i => x (i + 1)) = rcd n N (fun i => y (i + 1)) := Nat.eq_of_mul_eq_mul_left hn (by omega)
    cases i with
    | zero => exact h0
    | succ i => exact ih _ _ (fun i => hx (i + 1)) (fun i => hy (i + 1)) h1 i (by omega)
theorem hom_0 {R S : Type} [Lean.Grind.CommRing R] [Lean.Grind.CommRing S] {φ : R → S} (h : Hom φ) : φ 0 = 0 := by
  have h1 := h.1 0 0
  have e : (0 : R) + 0 = 0 := by grind
  rw [e] at h1
  grind
/-- a polynomial carried over -/
def pmap {R S : Type} [Lean.Grind.CommRing R] [Lean.Grind.CommRing S] {φ : R → S} (h : Hom φ) (f : PL R) : PL S := ⟨fun k => φ (f.1 k), by
  obtain ⟨N, hN⟩ := f.2
  exact ⟨N, fun k hk => (congrArg φ (hN k hk)).trans (hom_0 h)⟩⟩
theorem hom_neg {R S : Type} [Lean.Grind.CommRing R] [Lean.Grind.CommRing S] {φ : R → S} (h : Hom φ) (a : R) : φ (-a) = -(φ a) := by
  have h1 := h.1 (-a) a
  have e : -a + a = 0 := by grind
  rw [e, hom_0 h] at h1
  grind
theorem pmap_add {R S : Type} [Lean.Grind.CommRing R] [Lean.Grind.CommRing S] {φ : R → S} (h : Hom φ) (a b : PL R) : letI := plR R; letI := plR S; pmap h (a + b) = pmap h a + pmap h b := pl_ext (fun k => h.1 _ _)
theorem pmap_neg {R S : Type} [Lean.Grind.CommRing R] [Lean.Grind.CommRing S] {φ : R → S} (h : Hom φ) (a : PL R) : letI := plR R; letI := plR S; pmap h (-a) = -(pmap h a) := pl_ext (fun k => hom_neg h _)
theorem pmap_sub {R S : Type} [Lean.Grind.CommRing R] [Lean.Grind.CommRing S] {φ : R → S} (h : Hom φ) (a b : PL R) : letI := plR R; letI := plR S; pmap h (a - b) = pmap h a - pmap h b := by
  letI := plR R
  letI := plR S
  have e : a - b = a + -b := by grind
  rw [e, pmap_add, pmap_neg]
  grind
theorem cvq_map {R S : Type} [Lean.Grind.CommRing R] [Lean.Grind.CommRing S] {φ : R → S} (h : Hom φ) (k : Nat) : ∀ f g : Nat → R, φ (cvq f g k) = cvq (fun i => φ (f i)) (fun i => φ (g i)) k := by
  induction k with
  | zero => exact fun f g => h.2.1 _ _
  | succ k ih =>
    intro f g
    rw [cvq_s, cvq_s, h.1, h.2.1, ih]
theorem pmap_mul {R S : Type} [Lean.Grind.CommRing R] [Lean.Grind.CommRing S] {φ : R → S} (h : Hom φ) (a b : PL R) : letI := plR R; letI := plR S; pmap h (a * b) = pmap h a * pmap h b := pl_ext (fun k => cvq_map h k a.1 b.1)
theorem pmap_mn {R S : Type} [Lean.Grind.CommRing R] [Lean.Grind.CommRing S] {φ : R → S} (h : Hom φ) (c : R) (k : Nat) : pmap h (mnm c k) = mnm (φ c) k := pl_ext (fun i => by
  show φ (if i = k then c else 0) = if i = k then φ c else 0
  split
  · rfl
  · exact hom_0 h)
theorem pmap_1 {R S : Type} [Lean.Grind.CommRing R] [Lean.Grind.CommRing S] {φ : R → S} (h : Hom φ) : letI := plR R; letI := plR S; pmap h (1 : PL R) = 1 := by
  letI := plR R
  letI := plR S
  have e : (1 : PL R) = mnm 1 0 := rfl
  have e1 : (1 : PL S) = mnm 1 0 := rfl
  rw [e, e1, pmap_mn, h.2.2]
theorem hip_map {R S : Type} [Lean.Grind.CommRing R] [Lean.Grind.CommRing S] {φ : R → S} (h : Hom φ) (H : Nat → Nat → R) (F : Nat → PL R) (N k : Nat) : ∀ (c : R) (v : PL R), pmap h (hip H F N k c v) = hip (fun i j => φ (H i j)) (fun i => pmap h (F i)) N k (φ c) (pmap h v) := by
  letI := plR R
  letI := plR S
  induction k with
  | zero => exact fun c v => rfl
  | succ k ih =>
    intro c v
    rw [hip_s, hip_s, ih, pmap_sub, pmap_mul, pmap_mn, h.2.1, h.2.1, h.2.1]
theorem fhs_map {R S : Type} [Lean.Grind.CommRing R] [Lean.Grind.CommRing S] {φ : R → S} (h : Hom φ) {H : Nat → Nat → R} {F : Nat → PL R} {d : Nat} (hF : Fhs H F d) : Fhs (fun i j => φ (H i j)) (fun i => pmap h (F i)) d := by
  letI := plR R
  letI := plR S
  refine ⟨?_, fun N hN => ?_⟩
  · show pmap h (F 0) = 1
    rw [hF.1, pmap_1]
  · show pmap h (F (N + 1)) = _
    rw [hF.2 N hN, hip_map, pmap_sub, pmap_mul, pmap_mul, pmap_mn, pmap_mn, h.2.2]
