/-! the ties: what hangs on what came before -/
/-- a coordinate of a row -/
def co (q : Nat) (c : Nat → Nat) (p : Nat) : Nat := dg q (c (p / 7)) (p % 7)
/-- one row and s times another -/
def rad (q s : Nat) (a b : Nat → Nat) : Nat → Nat := fun j => cmb q s 13 (a j) (b j)
/-- rows of rests -/
def Rn (n : Nat) (c : Nat → Nat) : Prop := ∀ j, j < 7 → c j < n
def Rq (c e : Nat → Nat) : Prop := ∀ j, j < 7 → c j = e j
/-- a sum of the first N with figures -/
def Spn (q : Nat) (u : Nat → Nat → Nat) (N : Nat) (c : Nat → Nat) : Prop := ∃ x : Nat → Nat, (∀ k, x k < q) ∧ ∀ j, j < 7 → c j = lsm q x (fun i => u i j) N
section TIS
variable {q m d n : Nat}
theorem co_rad (h2 : 2 ≤ q) {a b : Nat → Nat} {s p : Nat} : co q (rad q s a b) p = (co q a p + s * co q b p) % q := by
  have : p % 7 < 7 := Nat.mod_lt _ (by omega)
  show dg q (cmb q s 13 (a (p / 7)) (b (p / 7))) (p % 7) = _
  rw [cmb_dg _ h2, if_pos (by omega)]
  rfl
theorem co_lt (h2 : 2 ≤ q) (c : Nat → Nat) (p : Nat) : co q c p < q := dg_lt (by omega)
theorem dg_7 (w : Wd q m d n) {a k : Nat} (ha : a < n) (hk : 7 ≤ k) : dg q a k = 0 := by
  have h2 := w.q2
  have h := w.n13.1
  unfold dg
  rw [Nat.div_eq_of_lt (Nat.lt_of_lt_of_le ha (Nat.le_trans h (Nat.pow_le_pow_right (by omega) hk))), Nat.zero_mod]
theorem co_ext (w : Wd q m d n) {a b : Nat → Nat} (ha : Rn n a) (hb : Rn n b) (h : ∀ p, p < 49 → co q a p = co q b p) : Rq a b := fun j hj => by
  have h2 := w.q2
  refine dg_ext h2 (w.lt13 (ha j hj)) (w.lt13 (hb j hj)) (fun k hk => ?_)
  by_cases c : k < 7
  · have h1 := h (7 * j + k) (by omega)
    unfold co at h1
    rw [show (7 * j + k) / 7 = j by omega, show (7 * j + k) % 7 = k by omega] at h1
    exact h1
  · rw [dg_7 w (ha j hj) (by omega), dg_7 w (hb j hj) (by omega)]
theorem rad_n (w : Wd q m d n) {a b : Nat → Nat} {s : Nat} (ha : Rn n a) (hb : Rn n b) : Rn n (rad q s a b) := fun j hj => cmb_ltn w (ha j hj) (hb j hj)
theorem lsm_coef (h2 : 2 ≤ q) {x y t : Nat → Nat} {s : Nat} (N : Nat) : cmb q s 13 (lsm q x t N) (lsm q y t N) = lsm q (fun k => (x k + s * y k) % q) t N := by
  refine dg_ext h2 (cmb_lt _ h2 13 _ _) (lsm_lt13 h2 _ _ _) (fun k hk => ?_)
  rw [cmb_dg _ h2, if_pos hk, lsm_dg h2 _ _ hk, lsm_dg h2 _ _ hk, lsm_dg h2 _ _ hk, sg_lin, Nat.add_mod, Nat.mod_mod, Nat.mul_mod_mod, ← Nat.add_mod]
theorem Spn.add (h2 : 2 ≤ q) {u : Nat → Nat → Nat} {N s : Nat} {a b : Nat → Nat} (ha : Spn q u N a) (hb : Spn q u N b) : Spn q u N (rad q s a b) := by
  obtain ⟨x, x1, x2⟩ := ha
  obtain ⟨y, y1, y2⟩ := hb
  refine ⟨fun k => (x k + s * y k) % q, fun k => Nat.mod_lt _ (by omega), fun j hj => ?_⟩
  show cmb q s 13 (a j) (b j) = _
  rw [x2 j hj, y2 j hj, lsm_coef h2]
theorem Spn.rq {u : Nat → Nat → Nat} {N : Nat} {a b : Nat → Nat} (ha : Spn q u N a) (h : Rq a b) : Spn q u N b := by
  obtain ⟨x, x1, x2⟩ := ha
  exact ⟨x, x1, fun j hj => by rw [← h j hj]; exact x2 j hj⟩
theorem Spn.zero (w : Wd q m d n) {u : Nat → Nat → Nat} {N : Nat} : Spn q u N (fun _ => 0) := by
  have h2 := w.q2
  refine ⟨fun _ => 0, fun _ => (show 0 < q by omega), fun j hj => ?_⟩
  show 0 = lsm q (fun _ => 0) (fun i => u i j) N
  refine dg_ext h2 (Nat.pow_pos (by omega)) (lsm_lt13 h2 _ _ _) (fun k hk => ?_)
  rw [lsm_dg h2 _ _ hk, dg_zero, sg_zeros N (fun i _ => Nat.zero_mul _), Nat.zero_mod]
theorem Spn.up (h2 : 2 ≤ q) {u : Nat → Nat → Nat} {N : Nat} {a : Nat → Nat} (ha : Spn q u N a) : Spn q u (N + 1) a := by
  obtain ⟨x, x1, x2⟩ := ha
  refine ⟨fun k => if k < N then x k else 0, fun k => ?_, fun j hj => ?_⟩
  · show (if k < N then x k else 0) < q
    split
    · exact x1 k
    · omega
  · show a j = cmb q (if N < N then x N else 0) 13 (lsm q (fun k => if k < N then x k else 0) (fun i => u i j) N) (u N j)
    rw [if_neg (Nat.lt_irrefl _), x2 j hj]
    have e : lsm q (fun k => if k < N then x k else 0) (fun i => u i j) N = lsm q x (fun i => u i j) N := lsm_ext (fun i hi => if_pos hi) (fun _ _ => rfl)
    rw [e]
    refine dg_ext h2 (lsm_lt13 h2 _ _ _) (cmb_lt _ h2 13 _ _) (fun k hk => ?_)
    rw [cmb_dg _ h2, if_pos hk, Nat.zero_mul, Nat.add_zero, Nat.mod_eq_of_lt (dg_lt (by omega))]
/-- one more: something of before and a multiple of the last -/
theorem Spn.last (w : Wd q m d n) {u : Nat → Nat → Nat} {N : Nat} {a : Nat → Nat} (ha : Spn q u (N + 1) a) : ∃ (b : Nat → Nat) (s : Nat), s < q ∧ Spn q u N b ∧ Rq a (rad q s b (u N)) := by
  obtain ⟨x, x1, x2⟩ := ha
  exact ⟨fun j => lsm q x (fun i => u i j) N, x N, x1 N, ⟨x, x1, fun j hj => rfl⟩, fun j hj => x2 j hj⟩
theorem Spn.self (w : Wd q m d n) {u : Nat → Nat → Nat} (hu : ∀ i j, j < 7 → u i j < n) {N : Nat} : Spn q u (N + 1) (u N) := by
  have h2 := w.q2
  refine ⟨fun k => if k = N then 1 else 0, fun k => ?_, fun j hj => ?_⟩
  · show (if k = N then 1 else 0) < q
    split <;> omega
  · show u N j = cmb q (if N = N then 1 else 0) 13 (lsm q (fun k => if k = N then 1 else 0) (fun i => u i j) N) (u N j)
    obtain ⟨y, y1, y2⟩ := Spn.zero w (u := u) (N := N)
    have e : lsm q (fun k => if k = N then 1 else 0) (fun i => u i j) N = 0 := by
      refine dg_ext h2 (lsm_lt13 h2 _ _ _) (Nat.pow_pos (by omega)) (fun k hk => ?_)
      rw [lsm_dg h2 _ _ hk, dg_zero, sg_zeros N (fun i hi => by rw [if_neg (by omega), Nat.zero_mul]), Nat.zero_mod]
    rw [if_pos rfl, e, cmb_one h2 (w.lt13 (hu N j hj))]
/-- the rows kept: each of before, led by a 1 -/
def Tok (q n : Nat) (u : Nat → Nat → Nat) (N : Nat) (fl : Nat → Bool) (rw : Nat → Nat → Nat) : Prop := ∀ p, p < 49 → fl p = true → Rn n (rw p) ∧ Spn q u N (rw p) ∧ co q (rw p) p = 1 ∧ ∀ k, p < k → k < 49 → co q (rw p) k = 0
/-- whatever leads a row of before is kept -/
def Tld (q n : Nat) (u : Nat → Nat → Nat) (N : Nat) (fl : Nat → Bool) : Prop := ∀ c, Rn n c → Spn q u N c → ∀ p, p < 49 → co q c p ≠ 0 → (∀ k, p < k → k < 49 → co q c k = 0) → fl p = true
theorem tal_rad (w : Wd q m d n) {u : Nat → Nat → Nat} {N : Nat} {fl : Nat → Bool} {rw : Nat → Nat → Nat} (h : Tok q n u N fl rw) {p : Nat} (hp : p < 49) (hf : fl p = true) {c : Nat → Nat} (hc : Rn n c) : Rq (tal q rw p c) (rad q ((q - co q c p) % q) c (rw p)) := fun j hj => by
  have h2 := w.q2
  obtain ⟨h1, -, -, h4⟩ := h p hp hf
  show (if j ≤ p / 7 then cmb q ((q - dg q (c (p / 7)) (p % 7)) % q) 13 (c j) (rw p j) else c j) = cmb q ((q - co q c p) % q) 13 (c j) (rw p j)
  by_cases z : j ≤ p / 7
  · rw [if_pos z]
    rfl
  · have e : rw p j = 0 := by
      refine dg_ext h2 (w.lt13 (h1 j hj)) (Nat.pow_pos (by omega)) (fun k hk => ?_)
      rw [dg_zero]
      by_cases z2 : k < 7
      · have := h4 (7 * j + k) (by omega) (by omega)
        unfold co at this
        rw [show (7 * j + k) / 7 = j by omega, show (7 * j + k) % 7 = k by omega] at this
        exact this
      · exact dg_7 w (h1 j hj) (by omega)
    rw [if_neg z, e, cmb_0r h2 (w.lt13 (hc j hj))]
theorem ta_run (w : Wd q m d n) {u : Nat → Nat → Nat} {N : Nat} {fl : Nat → Bool} {rw : Nat → Nat → Nat} {tg : Nat → Nat} (h : Tok q n u N fl rw) (p : Nat) : ∀ (c : Nat → Nat) (t : Nat), p ≤ 49 → Rn n c → (∀ k, p ≤ k → k < 49 → co q c k = 0) →
    Rn n (ta q fl rw tg p c t).2.2 ∧ (∃ v, Spn q u N v ∧ Rn n v ∧ Rq (ta q fl rw tg p c t).2.2 (rad q 1 c v)) ∧ ((ta q fl rw tg p c t).1 = 0 → ∀ k, k < 49 → co q (ta q fl rw tg p c t).2.2 k = 0) ∧ ∀ k0, (ta q fl rw tg p c t).1 = k0 + 1 → k0 < 49 ∧ fl k0 = false ∧ co q (ta q fl rw tg p c t).2.2 k0 ≠ 0 ∧ ∀ k, k0 < k → k < 49 → co q (ta q fl rw tg p c t).2.2 k = 0 := by
  have h2 := w.q2
  have hz : ∀ c : Nat → Nat, Rn n c → ∃ v, Spn q u N v ∧ Rn n v ∧ Rq c (rad q 1 c v) := fun c hc => ⟨fun _ => 0, Spn.zero w, fun _ _ => w.pos, fun j hj => (cmb_0r h2 (w.lt13 (hc j hj))).symm⟩
  induction p with
  | zero =>
    intro c t _ hc h0
    exact ⟨hc, hz c hc, fun _ k hk => h0 k (Nat.zero_le _) hk, fun k0 z => absurd (show (0 : Nat) = k0 + 1 from z) (by omega)⟩
  | succ p ih =>
    intro c t hp hc h0
    have e : ta q fl rw tg (p + 1) c t = if co q c p = 0 then ta q fl rw tg p c t else if fl p = true then ta q fl rw tg p (tal q rw p c) (cmb q ((q - co q c p) % q) 13 t (tg p)) else (p + 1, t, c) := rfl
    rw [e]
    by_cases c0 : co q c p = 0
    · rw [if_pos c0]
      exact ih c t (by omega) hc (fun k h1 h3 => by
        by_cases z : k = p
        · rw [z]
          exact c0
        · exact h0 k (by omega) h3)
    · rw [if_neg c0]
      by_cases cf : fl p = true
      · rw [if_pos cf]
        obtain ⟨r1, r2, r3, r4⟩ := h p (by omega) cf
        have ht := tal_rad w h (by omega) cf hc
        have hcn : Rn n (tal q rw p c) := fun j hj => by
          rw [ht j hj]
          exact rad_n w hc r1 j hj
        have hco : ∀ k, k < 49 → co q (tal q rw p c) k = (co q c k + ((q - co q c p) % q) * co q (rw p) k) % q := fun k hk => by
          have h5 : tal q rw p c (k / 7) = rad q ((q - co q c p) % q) c (rw p) (k / 7) := ht _ (by omega)
          have h6 : co q (tal q rw p c) k = co q (rad q ((q - co q c p) % q) c (rw p)) k := by
            unfold co
            rw [h5]
            rfl
          rw [h6, co_rad h2]
        have hlt := co_lt h2 c p
        obtain ⟨a1, ⟨v, a2, a3, a4⟩, a5, a6⟩ := ih (tal q rw p c) (cmb q ((q - co q c p) % q) 13 t (tg p)) (by omega) hcn (fun k h1 h3 => by
          rw [hco k h3]
          by_cases z : k = p
          · rw [z, r3, Nat.mul_one, Nat.mod_eq_of_lt (show q - co q c p < q by omega), show co q c p + (q - co q c p) = q by omega, Nat.mod_self]
          · rw [r4 k (by omega) h3, h0 k (by omega) h3, Nat.mul_zero, Nat.zero_mod])
        refine ⟨a1, ⟨rad q 1 (rad q ((q - co q c p) % q) (fun _ => 0) (rw p)) v, ((Spn.zero w).add h2 r2).add h2 a2, rad_n w (rad_n w (fun _ _ => w.pos) r1) a3, fun j hj => ?_⟩, a5, a6⟩
        rw [a4 j hj]
        show cmb q 1 13 (tal q rw p c j) (v j) = cmb q 1 13 (c j) (cmb q 1 13 (cmb q ((q - co q c p) % q) 13 0 (rw p j)) (v j))
        rw [ht j hj]
        show cmb q 1 13 (cmb q ((q - co q c p) % q) 13 (c j) (rw p j)) (v j) = _
        rw [cmb_in h2, cmb_in h2, Nat.one_mul, Nat.one_mul, cmb_0r h2 (w.lt13 (hc j hj))]
      · rw [if_neg cf]
        refine ⟨hc, hz c hc, fun z => absurd (show p + 1 = 0 from z) (by omega), fun k0 z => ?_⟩
        have z1 : p + 1 = k0 + 1 := z
        have z2 : p = k0 := by omega
        subst z2
        exact ⟨by omega, by simpa using cf, c0, fun k h1 h3 => h0 k (by omega) h3⟩
end TIS
