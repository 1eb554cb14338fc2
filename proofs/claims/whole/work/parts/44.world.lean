/-! a world: its products, quotients, turns, as numbers; what class Rests answers told by them -/
def mu (q m a b : Nat) : Nat := pby q a b m
def ivs (q m b : Nat) : Nat → Nat → Nat
  | 0, _ => 0
  | k + 1, v => if mu q m b v = 1 then v else ivs q m b k (v + 1)
/-- 1 by b -/
def rinv (q m n b : Nat) : Nat := ivs q m b (n - 1) 1
def dv (q m n a b : Nat) : Nat := mu q m a (rinv q m n b)
def itr (f : Nat → Nat) : Nat → Nat → Nat
  | 0, a => a
  | k + 1, a => itr f k (f a)
/-- a to the power of q^i -/
def tu (q m d a i : Nat) : Nat := itr (fun v => tby q v m) (i % d) a
theorem mu_0l {q : Nat} (h2 : 2 ≤ q) (m b : Nat) : mu q m 0 b = 0 := pby_zero h2 b m
theorem pbl_0r {q m a top : Nat} (h2 : 2 ≤ q) : ∀ n, pbl q a 0 m top n 0 = 0
  | 0 => rfl
  | n + 1 => by
    unfold pbl
    have e0 : cmb q ((q - dg q (0 * q) top) % q) 13 (0 * q) m = 0 := by
      rw [Nat.zero_mul, dg_zero, Nat.sub_zero, Nat.mod_self, cmb_a h2 m (Nat.pow_pos (by omega))]
    rw [e0, cmb_zero _ h2]
    exact pbl_0r h2 n
theorem mu_0r {q : Nat} (h2 : 2 ≤ q) (m a : Nat) : mu q m a 0 = 0 := pbl_0r h2 _
theorem ivs_lt {q m b : Nat} : ∀ (k v n : Nat), v + k ≤ n → 0 < n → ivs q m b k v < n
  | 0, v, n, h, h0 => h0
  | k + 1, v, n, h, h0 => by
    unfold ivs
    split
    · omega
    · exact ivs_lt k (v + 1) n (by omega) h0
theorem rinv_lt {q m n b : Nat} (h : 0 < n) : rinv q m n b < n := ivs_lt _ _ _ (by omega) h
theorem ivs_0 {q m : Nat} (h2 : 2 ≤ q) : ∀ k v, ivs q m 0 k v = 0
  | 0, _ => rfl
  | k + 1, v => by
    unfold ivs
    rw [mu_0l h2, if_neg (by omega)]
    exact ivs_0 h2 k _
theorem dv_0r {q : Nat} (h2 : 2 ≤ q) (m n a : Nat) : dv q m n a 0 = 0 := by
  unfold dv rinv
  rw [ivs_0 h2, mu_0r h2]
theorem dv_0l {q : Nat} (h2 : 2 ≤ q) (m n b : Nat) : dv q m n 0 b = 0 := mu_0l h2 _ _
theorem tby_0 {q : Nat} (h2 : 2 ≤ q) (m : Nat) : tby q 0 m = 0 := by
  have : ∀ n, tbl q 0 m n 0 = 0 := by
    intro n
    induction n with
    | zero => rfl
    | succ n ih =>
      unfold tbl
      rw [pby_zero h2]
      exact ih
  exact this _
theorem tu_0 {q : Nat} (h2 : 2 ≤ q) (m d i : Nat) : tu q m d 0 i = 0 := by
  have : ∀ n, itr (fun v => tby q v m) n 0 = 0 := by
    intro n
    induction n with
    | zero => rfl
    | succ n ih =>
      show itr _ n (tby q 0 m) = 0
      rw [tby_0 h2]
      exact ih
  exact this _
theorem Wd.hq {q m d n : Nat} (w : Wd q m d n) : q = 2 ∨ q = 3 ∨ q = 5 := w.1
theorem Wd.q2 {q m d n : Nat} (w : Wd q m d n) : 2 ≤ q := by
  have := w.1
  omega
theorem Wd.n13 {q m d n : Nat} (w : Wd q m d n) : n ≤ q ^ 7 ∧ q ^ 7 < q ^ 13 := by
  have h7 := w.d7
  have h2 := w.q2
  obtain ⟨hq, hm, hl, hd, hd1, hnq, hn128⟩ := w
  rw [hnq]
  exact ⟨Nat.pow_le_pow_right (by omega) h7, Nat.pow_lt_pow_right (by omega) (by omega)⟩
theorem Wd.lt13 {q m d n a : Nat} (w : Wd q m d n) (h : a < n) : a < q ^ 13 := by
  have := w.n13
  omega
theorem mu_lt {q m d n a b : Nat} (w : Wd q m d n) (hb : b < n) : mu q m a b < n := by
  obtain ⟨hq, hm, hl, hd, hd1, hnq, hn128⟩ := w
  rw [hnq] at hb ⊢
  exact pby_lt (by omega) hl hm hd hb
theorem dv_lt {q m d n a b : Nat} (w : Wd q m d n) : dv q m n a b < n := mu_lt w (rinv_lt (by have := w.n2; omega))
theorem tby_ltn {q m d n a : Nat} (w : Wd q m d n) (ha : a < n) : tby q a m < n := by
  obtain ⟨hq, hm, hl, hd, hd1, hnq, hn128⟩ := w
  rw [hnq] at ha ⊢
  exact tby_lt (by omega) hl hm hd ha
theorem tu_lt {q m d n a i : Nat} (w : Wd q m d n) (ha : a < n) : tu q m d a i < n := by
  have : ∀ k a, a < n → itr (fun v => tby q v m) k a < n := by
    intro k
    induction k with
    | zero => intro a ha; exact ha
    | succ k ih =>
      intro a ha
      exact ih _ (tby_ltn w ha)
  exact this _ a ha
theorem cmb_ltn {q m d n s a b : Nat} (w : Wd q m d n) (ha : a < n) (hb : b < n) : cmb q s 13 a b < n := by
  have h2 := w.q2
  obtain ⟨hq, hm, hl, hd, hd1, hnq, hn128⟩ := w
  rw [hnq] at ha hb ⊢
  exact cmb_small h2 ha hb
/-- the tables' sums of places are products, and so on -/
def Tb (q m d n g : Nat) : Prop := (∀ j k, j < n - 1 → k < n - 1 → gp q m g ((j + k) % (n - 1)) = mu q m (gp q m g j) (gp q m g k)) ∧
  (∀ j k, j < n - 1 → k < n - 1 → gp q m g ((j + n - 1 - k) % (n - 1)) = dv q m n (gp q m g j) (gp q m g k)) ∧
  (∀ j i, j < n - 1 → gp q m g (j * (q ^ (i % d) % (n - 1)) % (n - 1)) = tu q m d (gp q m g j) i)
/-- a world whose modulus is prime: what the tables need of it -/
def Pw (q m d n : Nat) : Prop := Wd q m d n ∧ (∃ g0, 1 ≤ g0 ∧ g0 < n ∧ full q m n g0) ∧ ∀ g, 1 ≤ g → g < n → full q m n g → onto q m n g ∧ Tb q m d n g
/-- Figures and Rests stand for a world -/
def En (q m d n g : Nat) (mi : Nat → Nat → Int32) : Prop := Fg q mi ∧ Rt q m d n g mi ∧ onto q m n g ∧ Tb q m d n g
theorem Rt.off {q m d n g : Nat} {mi mi1 : Nat → Nat → Int32} (h : Rt q m d n g mi) (h3 : mi1 3 = mi 3) (h4 : mi1 4 = mi 4) (h5 : mi1 5 = mi 5) (h6 : mi1 6 = mi 6) : Rt q m d n g mi1 := by
  unfold Rt lst1 at h ⊢
  rw [h3, h4, h5, h6]
  exact h
theorem En.off {q m d n g : Nat} {mi mi1 : Nat → Nat → Int32} (h : En q m d n g mi) (ho : ∀ o, 1 ≤ o → o ≤ 6 → mi1 o = mi o) : En q m d n g mi1 :=
  ⟨h.1.off (ho 1 (by omega) (by omega)) (ho 2 (by omega) (by omega)), h.2.1.off (ho 3 (by omega) (by omega)) (ho 4 (by omega) (by omega)) (ho 5 (by omega) (by omega)) (ho 6 (by omega) (by omega)), h.2.2⟩
theorem En.w {q m d n g : Nat} {mi : Nat → Nat → Int32} (h : En q m d n g mi) : Wd q m d n := h.2.1.1
section WLD
variable {G : GC} {e q m d n g : Nat} {mi : Nat → Nat → Int32} {ml : Nat → Nat → Int64} {y : Nat → Nat → Option Nat} {K : Int32 → (Nat → Nat → Int32) → (Nat → Nat → Int64) → Prop}
theorem p_mu (h : En q m d n g mi) {a b : Nat} (ha : a < n) (hb : b < n) (hK : K (nI (mu q m a b)) mi ml) : wpI G e 154 m_X5_product [.ref 3, .int (nI a), .int (nI b)] (mi, ml, RX y) K := by
  have h2 := h.w.q2
  refine p_rproduct h.2.1 h.2.2.1 ha hb (fun c => ?_) (fun j k hj hk ej ek => ?_)
  · rcases c with c | c
    · rw [c, mu_0l h2] at hK
      exact hK
    · rw [c, mu_0r h2] at hK
      exact hK
  · rw [h.2.2.2.1 j k hj hk, ej, ek]
    exact hK
theorem p_dv (h : En q m d n g mi) {a b : Nat} (ha : a < n) (hb : b < n) (hK : K (nI (dv q m n a b)) mi ml) : wpI G e 154 m_X5_quotient [.ref 3, .int (nI a), .int (nI b)] (mi, ml, RX y) K := by
  have h2 := h.w.q2
  refine p_rquotient h.2.1 h.2.2.1 ha hb (fun c => ?_) (fun j k hj hk ej ek => ?_)
  · rcases c with c | c
    · rw [c, dv_0l h2] at hK
      exact hK
    · rw [c, dv_0r h2] at hK
      exact hK
  · rw [h.2.2.2.2.1 j k hj hk, ej, ek]
    exact hK
theorem p_tu (h : En q m d n g mi) {a i : Nat} (ha : a < n) (hi : i < 2 ^ 31) (hK : K (nI (tu q m d a i)) mi ml) : wpI G e 154 m_X5_turnedUp [.ref 3, .int (nI a), .int (nI i)] (mi, ml, RX y) K := by
  have h2 := h.w.q2
  refine p_turnedUp h.2.1 h.2.2.1 ha hi (fun c => ?_) (fun j hj ej => ?_)
  · rw [c, tu_0 h2] at hK
    exact hK
  · rw [h.2.2.2.2.2 j i hj, ej]
    exact hK
theorem p_setWorld (hp : Pw q m d n) (h0 : Fg q mi) {K : (Nat → Nat → Int32) → (Nat → Nat → Int64) → Prop}
    (hK : ∀ (g : Nat) (mi1 : Nat → Nat → Int32), off4 mi mi1 → En q m d n g mi1 → K mi1 ml) : wpV G e 154 m_X5_setModulus [.ref 3, .int (nI m)] (mi, ml, RX y) K := by
  refine p_setModulus hp.1 hp.2.1 h0 (fun g mi1 ho hr => ?_)
  have hg := hp.2.2 g hr.2.1 hr.2.2.1 hr.2.2.2.1
  exact hK g mi1 ho ⟨h0.off (ho 1 (by omega) (by omega) (by omega) (by omega)) (ho 2 (by omega) (by omega) (by omega) (by omega)), hr, hg.1, hg.2⟩
end WLD
/-- a row of rests: noughts behind its end -/
def Rw (n : Nat) (mi : Nat → Nat → Int32) (c : Nat) (f : Nat → Nat) : Prop := (∀ k, k < an c → mi c k = nI (f k)) ∧ (∀ k, an c ≤ k → f k = 0) ∧ ∀ k, f k < n
theorem Rw.row {n c : Nat} {mi : Nat → Nat → Int32} {f : Nat → Nat} (h : Rw n mi c f) (hn : n ≤ 128) : Row mi c f := fun k hk => ⟨h.1 k hk, by have := h.2.2 k; omega⟩
theorem Rw.off {n c : Nat} {mi mi1 : Nat → Nat → Int32} {f : Nat → Nat} (h : Rw n mi c f) (ho : mi1 c = mi c) : Rw n mi1 c f := ⟨fun k hk => by rw [ho]; exact h.1 k hk, h.2⟩
theorem rl_ext {f : Nat → Nat} : ∀ {N M : Nat}, N ≤ M → (∀ k, N ≤ k → f k = 0) → rl f M = rl f N := by
  intro N M h hz
  induction M with
  | zero =>
    have : N = 0 := by omega
    rw [this]
  | succ M ih =>
    by_cases c : N = M + 1
    · rw [c]
    · conv => lhs; unfold rl
      rw [if_pos (hz M (by omega))]
      exact ih (by omega)
