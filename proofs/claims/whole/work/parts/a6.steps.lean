/-! sums of rests with figures; bases and tables; the reference: toSteps -/
/-- h i times t i, together -/
def lsm (q : Nat) (h t : Nat → Nat) : Nat → Nat
  | 0 => 0
  | k + 1 => cmb q (h k) 13 (lsm q h t k) (t k)
theorem lsm_lt {q m d n : Nat} (w : Wd q m d n) {h t : Nat → Nat} (ht : ∀ k, t k < n) : ∀ k, lsm q h t k < n
  | 0 => w.pos
  | k + 1 => cmb_ltn w (lsm_lt w ht k) (ht k)
theorem lsm_lt13 {q : Nat} (h2 : 2 ≤ q) (h t : Nat → Nat) : ∀ k, lsm q h t k < q ^ 13
  | 0 => Nat.pow_pos (by omega)
  | k + 1 => cmb_lt _ h2 13 _ _
theorem lsm_dg {q : Nat} (h2 : 2 ≤ q) (h t : Nat → Nat) {k : Nat} (hk : k < 13) : ∀ D, dg q (lsm q h t D) k = sg (fun i => h i * dg q (t i) k) D % q
  | 0 => by
    show dg q 0 k = 0 % q
    rw [dg_zero, Nat.zero_mod]
  | D + 1 => by
    show dg q (cmb q (h D) 13 (lsm q h t D) (t D)) k = (sg _ D + h D * dg q (t D) k) % q
    rw [cmb_dg _ h2, if_pos hk, lsm_dg h2 h t hk D, Nat.mod_add_mod]
theorem lsm_eq {q : Nat} (h2 : 2 ≤ q) {h t h1 t1 : Nat → Nat} {D E : Nat} (hh : ∀ k, k < 13 → sg (fun i => h i * dg q (t i) k) D % q = sg (fun i => h1 i * dg q (t1 i) k) E % q) : lsm q h t D = lsm q h1 t1 E :=
  dg_ext h2 (lsm_lt13 h2 h t D) (lsm_lt13 h2 h1 t1 E) (fun k hk => by rw [lsm_dg h2 _ _ hk, lsm_dg h2 _ _ hk, hh k hk])
theorem lsm_ext {q : Nat} {h t h1 t1 : Nat → Nat} : ∀ {D : Nat}, (∀ i, i < D → h i = h1 i) → (∀ i, i < D → t i = t1 i) → lsm q h t D = lsm q h1 t1 D
  | 0, _, _ => rfl
  | D + 1, a, b => by
    show cmb q (h D) 13 (lsm q h t D) (t D) = cmb q (h1 D) 13 (lsm q h1 t1 D) (t1 D)
    rw [lsm_ext (fun i hi => a i (by omega)) (fun i hi => b i (by omega)), a D (by omega), b D (by omega)]
theorem lsm_Ln {q m d n : Nat} (w : Wd q m d n) {f : Nat → Nat} (hf : Ln q n f) {h t : Nat → Nat} (ht : ∀ k, t k < n) : ∀ D, f (lsm q h t D) = lsm q h (fun i => f (t i)) D
  | 0 => hf.zero w
  | D + 1 => by
    show f (cmb q (h D) 13 (lsm q h t D) (t D)) = cmb q (h D) 13 (lsm q h _ D) (f (t D))
    rw [hf.2 _ _ _ (lsm_lt w ht D) (ht D), lsm_Ln w hf ht D]
theorem hs_lsm (q : Nat) (t : Nat → Nat) (a : Nat) : ∀ k, hs q t a k = lsm q (dg q a) t k
  | 0 => rfl
  | k + 1 => by
    show cmb q (dg q a k) 13 (hs q t a k) (t k) = _
    rw [hs_lsm q t a k]
    rfl
/-- one term changed -/
theorem sg_up (f : Nat → Nat) (r v : Nat) : ∀ D, r < D → sg (up1 f r v) D + f r = sg f D + v
  | 0, h => absurd h (by omega)
  | D + 1, h => by
    show sg (up1 f r v) D + up1 f r v D + f r = sg f D + f D + v
    by_cases c : r = D
    · subst c
      rw [sg_ext (g := f) (fun i hi => by unfold up1; rw [if_neg (by omega)])]
      unfold up1
      rw [if_pos rfl]
      omega
    · have := sg_up f r v D (by omega)
      have e : up1 f r v D = f D := by unfold up1; rw [if_neg (by omega)]
      rw [e]
      omega
/-- r and s for one another -/
def tsw (r s i : Nat) : Nat := if i = r then s else if i = s then r else i
theorem tsw_tsw (r s i : Nat) : tsw r s (tsw r s i) = i := by
  unfold tsw
  by_cases a : i = r
  · rw [if_pos a]
    by_cases b : s = r
    · rw [if_pos b]; omega
    · rw [if_neg b, if_pos rfl]; omega
  · rw [if_neg a]
    by_cases b : i = s
    · rw [if_pos b, if_pos rfl]; omega
    · rw [if_neg b, if_neg a, if_neg b]
theorem tsw_lt {r s D i : Nat} (hr : r < D) (hs : s < D) (hi : i < D) : tsw r s i < D := by
  unfold tsw
  split
  · exact hs
  · split
    · exact hr
    · exact hi
theorem sg_tsw (f : Nat → Nat) {r s D : Nat} (hr : r < D) (hs : s < D) : sg (fun i => f (tsw r s i)) D = sg f D := by
  have e : (fun i => f (tsw r s i)) = up1 (up1 f r (f s)) s (f r) := funext fun i => by
    unfold up1 tsw
    by_cases a : i = r
    · subst a
      rw [if_pos rfl]
      by_cases b : i = s
      · subst b; rw [if_pos rfl]
      · rw [if_neg b, if_pos rfl]
    · rw [if_neg a]
      by_cases b : i = s
      · rw [if_pos b, if_pos b]
      · rw [if_neg b, if_neg b, if_neg a]
  have h1 := sg_up f r (f s) D hr
  have h2 := sg_up (up1 f r (f s)) s (f r) D hs
  rw [e]
  have h3 : up1 f r (f s) s = f s := by
    unfold up1
    split <;> rfl
  rw [h3] at h2
  omega
theorem md1 {q a b t : Nat} : (a % q + t * (b % q)) % q = (a + t * b) % q := by rw [Nat.mod_add_mod, Nat.add_mod, Nat.mul_mod_mod, ← Nat.add_mod]
theorem sg_lin (q t : Nat) (f g y : Nat → Nat) : ∀ D, sg (fun i => (f i + t * g i) % q * y i) D % q = (sg (fun i => f i * y i) D + t * sg (fun i => g i * y i) D) % q
  | 0 => by
    show 0 % q = (0 + t * 0) % q
    rw [Nat.mul_zero]
  | D + 1 => by
    show (sg (fun i => (f i + t * g i) % q * y i) D + (f D + t * g D) % q * y D) % q = (sg (fun i => f i * y i) D + f D * y D + t * (sg (fun i => g i * y i) D + g D * y D)) % q
    rw [Nat.add_mod, sg_lin q t f g y D, Nat.mod_mul_mod, ← Nat.add_mod]
    congr 1
    rw [Nat.add_mul, Nat.mul_add, Nat.mul_assoc]
    omega
/-- a table: row i, column j -/
abbrev TBt : Type := Nat → Nat → Nat
/-- b is a basis, and f tells H of it -/
def Bss (q n D : Nat) (f : Nat → Nat) (H : TBt) (b : Nat → Nat) : Prop := (∀ i, b i < n) ∧ (∀ c : Nat → Nat, lsm q c b D = 0 → ∀ i, i < D → c i % q = 0) ∧ ∀ j, j < D → f (b j) = lsm q (fun i => H i j) b D
/-- rows r and s, columns r and s for one another -/
def swH (H : TBt) (r s : Nat) : TBt := fun i j => H (tsw r s i) (tsw r s j)
/-- row k and q - t times row s; column s and t times column k -/
def elR (q : Nat) (H : TBt) (s k t : Nat) : TBt := fun i j => if i = k then (H k j + (q - t) * H s j) % q else H i j
def elC (q : Nat) (H : TBt) (s k t : Nat) : TBt := fun i j => if j = s then (H i s + t * H i k) % q else H i j
theorem Bss.sw {q m d n D : Nat} (w : Wd q m d n) {f : Nat → Nat} {H : TBt} {b : Nat → Nat} (h : Bss q n D f H b) {r s : Nat} (hr : r < D) (hs1 : s < D) : Bss q n D f (swH H r s) (fun i => b (tsw r s i)) := by
  have h2 := w.q2
  have key : ∀ c : Nat → Nat, lsm q c (fun i => b (tsw r s i)) D = lsm q (fun i => c (tsw r s i)) b D := fun c => by
    refine lsm_eq h2 (fun k _ => ?_)
    rw [← sg_tsw (fun i => c i * dg q (b (tsw r s i)) k) hr hs1]
    simp only [tsw_tsw]
  refine ⟨fun i => h.1 _, fun c hc i hi => ?_, fun j hj => ?_⟩
  · rw [key] at hc
    have := h.2.1 _ hc (tsw r s i) (tsw_lt hr hs1 hi)
    simp only [tsw_tsw] at this
    exact this
  · rw [key]
    show f (b (tsw r s j)) = _
    rw [h.2.2 _ (tsw_lt hr hs1 hj)]
    refine lsm_ext (fun i _ => ?_) (fun _ _ => rfl)
    show _ = H (tsw r s (tsw r s i)) (tsw r s j)
    rw [tsw_tsw]
theorem el_key {q : Nat} (h2 : 2 ≤ q) {b c : Nat → Nat} {D s k t u : Nat} (hs1 : s < D) (hk : k < D) (hsk : s ≠ k) (hu : (t + u) % q = 0) : lsm q (up1 c k ((c k + u * c s) % q)) (up1 b s (cmb q t 13 (b s) (b k))) D = lsm q c b D := by
  refine lsm_eq h2 (fun x hx => ?_)
  have e : (fun i => up1 c k ((c k + u * c s) % q) i * dg q (up1 b s (cmb q t 13 (b s) (b k)) i) x) = up1 (up1 (fun i => c i * dg q (b i) x) k ((c k + u * c s) % q * dg q (b k) x)) s (c s * ((dg q (b s) x + t * dg q (b k) x) % q)) := funext fun i => by
    unfold up1
    by_cases a : i = s
    · subst a
      rw [if_neg hsk, if_pos rfl, if_pos rfl, cmb_dg _ h2, if_pos hx]
    · rw [if_neg a, if_neg a]
      by_cases z : i = k
      · subst z
        rw [if_pos rfl, if_pos rfl]
      · rw [if_neg z, if_neg z]
  rw [e]
  have h3 := sg_up (fun i => c i * dg q (b i) x) k ((c k + u * c s) % q * dg q (b k) x) D hk
  have h4 := sg_up (up1 (fun i => c i * dg q (b i) x) k ((c k + u * c s) % q * dg q (b k) x)) s (c s * ((dg q (b s) x + t * dg q (b k) x) % q)) D hs1
  have h5 : up1 (fun i => c i * dg q (b i) x) k ((c k + u * c s) % q * dg q (b k) x) s = c s * dg q (b s) x := by
    unfold up1
    rw [if_neg hsk]
  rw [h5] at h4
  generalize dg q (b s) x = B at *
  generalize dg q (b k) x = A at *
  generalize c s = C at *
  generalize c k = E at *
  have h6 : ((E + u * C) % q * A + C * ((B + t * A) % q)) % q = (E * A + C * B) % q := by
    have a1 : ((E + u * C) % q * A + C * ((B + t * A) % q)) % q = ((E + u * C) * A + C * (B + t * A)) % q := by
      rw [Nat.add_mod, Nat.mod_mul_mod, Nat.mul_mod_mod, ← Nat.add_mod]
    have a2 : (E + u * C) * A + C * (B + t * A) = (E * A + C * B) + (t + u) * (C * A) := by
      simp only [Nat.add_mul, Nat.mul_add]
      have b1 : u * C * A = u * (C * A) := Nat.mul_assoc _ _ _
      have b2 : C * (t * A) = t * (C * A) := Nat.mul_left_comm _ _ _
      omega
    rw [a1, a2, Nat.add_mod, Nat.mul_mod, hu, Nat.zero_mul, Nat.zero_mod, Nat.add_zero, Nat.mod_mod]
  have h7 : sg (up1 (up1 (fun i => c i * dg q (b i) x) k ((E + u * C) % q * A)) s (C * ((B + t * A) % q))) D + (E * A + C * B) = sg (fun i => c i * dg q (b i) x) D + ((E + u * C) % q * A + C * ((B + t * A) % q)) := by omega
  have h8 := congrArg (fun z => z % q) h7
  rw [Nat.add_mod _ ((E + u * C) % q * A + _), h6, ← Nat.add_mod] at h8
  generalize sg (up1 (up1 (fun i => c i * dg q (b i) x) k ((E + u * C) % q * A)) s (C * ((B + t * A) % q))) D = S at *
  generalize sg (fun i => c i * dg q (b i) x) D = U at *
  generalize E * A + C * B = V at *
  have h9 : (S + V + (q - V % q)) % q = (U + V + (q - V % q)) % q := by rw [Nat.add_mod, h8, ← Nat.add_mod]
  have hV : V % q ≤ q := Nat.le_of_lt (Nat.mod_lt _ (by omega))
  have hd := Nat.div_add_mod V q
  have e1 : ∀ z, (z + V + (q - V % q)) % q = z % q := fun z => by
    have : z + V + (q - V % q) = z + q * (V / q + 1) := by
      rw [Nat.mul_add]
      omega
    rw [this, Nat.add_mul_mod_self_left]
  rw [e1, e1] at h9
  exact h9
theorem Bss.el {q m d n D : Nat} (w : Wd q m d n) {f : Nat → Nat} (hf : Ln q n f) {H : TBt} {b : Nat → Nat} (h : Bss q n D f H b) {s k t : Nat} (hs1 : s < D) (hk : k < D) (hsk : s ≠ k) (ht : t ≤ q) : Bss q n D f (elC q (elR q H s k t) s k t) (up1 b s (cmb q t 13 (b s) (b k))) := by
  have h2 := w.q2
  have hu : (t + (q - t)) % q = 0 := by rw [Nat.add_sub_cancel' ht, Nat.mod_self]
  have lt1 : ∀ i, up1 b s (cmb q t 13 (b s) (b k)) i < n := fun i => by
    unfold up1
    split
    · exact cmb_ltn w (h.1 _) (h.1 _)
    · exact h.1 _
  have key : ∀ c : Nat → Nat, lsm q (up1 c k ((c k + (q - t) * c s) % q)) (up1 b s (cmb q t 13 (b s) (b k))) D = lsm q c b D := fun c => el_key h2 hs1 hk hsk hu
  have col : ∀ j, j < D → f (b j) = lsm q (fun i => elR q H s k t i j) (up1 b s (cmb q t 13 (b s) (b k))) D := fun j hj => by
    rw [h.2.2 j hj, ← key (fun i => H i j)]
    refine lsm_ext (fun i _ => ?_) (fun _ _ => rfl)
    unfold up1 elR
    rfl
  refine ⟨lt1, fun c hc i hi => ?_, fun j hj => ?_⟩
  · have e : lsm q c (up1 b s (cmb q t 13 (b s) (b k))) D = lsm q (up1 c k ((c k + t * c s) % q)) b D := by
      rw [← key (up1 c k ((c k + t * c s) % q))]
      refine lsm_eq h2 (fun x _ => ?_)
      have e1 : up1 (up1 c k ((c k + t * c s) % q)) k ((up1 c k ((c k + t * c s) % q) k + (q - t) * up1 c k ((c k + t * c s) % q) s) % q) = up1 c k (c k % q) := funext fun i => by
        unfold up1
        by_cases z : i = k
        · rw [if_pos z, if_pos z, if_pos rfl, if_neg hsk, Nat.mod_add_mod, Nat.add_assoc, ← Nat.add_mul, Nat.add_mod, Nat.mul_mod, hu, Nat.zero_mul, Nat.zero_mod, Nat.add_zero, Nat.mod_mod]
        · rw [if_neg z, if_neg z, if_neg z]
      rw [e1]
      have e2 : (fun i => up1 c k (c k % q) i * dg q (up1 b s (cmb q t 13 (b s) (b k)) i) x) = up1 (fun i => c i * dg q (up1 b s (cmb q t 13 (b s) (b k)) i) x) k (c k % q * dg q (up1 b s (cmb q t 13 (b s) (b k)) k) x) := funext fun i => by
        unfold up1
        by_cases z : i = k
        · subst z
          rw [if_pos rfl, if_pos rfl]
        · rw [if_neg z, if_neg z]
      rw [e2]
      have h3 := sg_up (fun i => c i * dg q (up1 b s (cmb q t 13 (b s) (b k)) i) x) k (c k % q * dg q (up1 b s (cmb q t 13 (b s) (b k)) k) x) D hk
      generalize dg q (up1 b s (cmb q t 13 (b s) (b k)) k) x = Z at *
      generalize sg (up1 (fun i => c i * dg q (up1 b s (cmb q t 13 (b s) (b k)) i) x) k (c k % q * Z)) D = S at *
      have hd := Nat.div_add_mod (c k) q
      have h4 : c k * Z = c k % q * Z + q * (c k / q * Z) := by
        conv => lhs; rw [← hd, Nat.add_mul, Nat.mul_assoc]
        omega
      have h5 : sg (fun i => c i * dg q (up1 b s (cmb q t 13 (b s) (b k)) i) x) D = S + q * (c k / q * Z) := by omega
      rw [h5, Nat.add_mul_mod_self_left]
    rw [e] at hc
    have h3 := h.2.1 _ hc
    by_cases z : i = k
    · subst z
      have h4 := h3 i hi
      have h5 := h3 s hs1
      unfold up1 at h4 h5
      rw [if_pos rfl, Nat.mod_mod] at h4
      rw [if_neg hsk] at h5
      rw [Nat.add_mod, Nat.mul_mod, h5, Nat.mul_zero, Nat.zero_mod, Nat.add_zero, Nat.mod_mod] at h4
      exact h4
    · have h4 := h3 i hi
      unfold up1 at h4
      rw [if_neg z] at h4
      exact h4
  · unfold elC
    by_cases z : j = s
    · subst z
      simp only [if_true]
      have e1 : up1 b j (cmb q t 13 (b j) (b k)) j = cmb q t 13 (b j) (b k) := by unfold up1; rw [if_pos rfl]
      rw [e1, hf.2 _ _ _ (h.1 _) (h.1 _), col j hs1, col k hk]
      refine dg_ext h2 (cmb_lt _ h2 13 _ _) (lsm_lt13 h2 _ _ _) (fun x hx => ?_)
      rw [cmb_dg _ h2, if_pos hx, lsm_dg h2 _ _ hx, lsm_dg h2 _ _ hx, lsm_dg h2 _ _ hx, md1, sg_lin]
    · simp only [if_neg z]
      have e1 : up1 b s (cmb q t 13 (b s) (b k)) j = b j := by unfold up1; rw [if_neg z]
      rw [e1]
      exact col j hj

/-! the table of the reference -/
def offB (mi mi1 : Nat → Nat → Int32) : Prop := ∀ o, o ≠ 165 → mi1 o = mi o
theorem offB.put {a b : Nat → Nat → Int32} (h : offB a b) {k : Nat} {v : Int32} : offB a (u2 b 165 k v) := fun o ho => by rw [u2_off ho]; exact h o ho
theorem offB.trans {a b c : Nat → Nat → Int32} (h : offB a b) (h1 : offB b c) : offB a c := fun o ho => by rw [h1 o ho, h o ho]
def Mtb (q R C : Nat) (M : TBt) (mi : Nat → Nat → Int32) : Prop := R ≤ 42 ∧ C ≤ 24 ∧ ∀ i j, i < R → j < C → mi 165 (24 * i + j) = nI (M i j) ∧ M i j < q
def up2 (M : TBt) (r c v : Nat) : TBt := fun i j => if i = r ∧ j = c then v else M i j
theorem Mtb.put {q R C r c v : Nat} {M : TBt} {mi : Nat → Nat → Int32} (h : Mtb q R C M mi) (hr : r < R) (hc : c < C) (hv : v < q) : Mtb q R C (up2 M r c v) (u2 mi 165 (24 * r + c) (nI v)) := ⟨h.1, h.2.1, fun i j hi hj => by
  have hC := h.2.1
  unfold up2
  by_cases z : i = r ∧ j = c
  · obtain ⟨rfl, rfl⟩ := z
    rw [u2_at, if_pos ⟨rfl, rfl⟩]
    exact ⟨rfl, hv⟩
  · rw [u2_ne (by omega), if_neg z]
    exact h.2.2 i j hi hj⟩
theorem Mtb.ext {q R C : Nat} {M M1 : TBt} {mi : Nat → Nat → Int32} (h : Mtb q R C M mi) (he : ∀ i j, i < R → j < C → M1 i j = M i j) : Mtb q R C M1 mi := ⟨h.1, h.2.1, fun i j hi hj => by rw [he i j hi hj]; exact h.2.2 i j hi hj⟩
theorem Mtb.same {q R C : Nat} {M : TBt} {mi mi1 : Nat → Nat → Int32} (h : Mtb q R C M mi) (he : mi1 165 = mi 165) : Mtb q R C M mi1 := ⟨h.1, h.2.1, fun i j hi hj => by rw [he]; exact h.2.2 i j hi hj⟩
