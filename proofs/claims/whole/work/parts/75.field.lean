/-! a world with a maker is a field: its tables -/
theorem php : ∀ (N : Nat) (f : Nat → Nat), (∀ i, i < N → f i < N) → (∀ i j, i < N → j < N → f i = f j → i = j) → ∀ v, v < N → ∃ i, i < N ∧ f i = v
  | 0, _, _, _, v, hv => absurd hv (by omega)
  | N + 1, f, hf, hi, v, hv => by
    have hw := hf N (by omega)
    by_cases c1 : v = f N
    · exact ⟨N, by omega, c1.symm⟩
    have hg : ∀ i, i < N → (if f i = N then f N else f i) < N := fun i h => by
      split
      · next c2 =>
        have : f N ≠ N := fun z => by
          have := hi i N (by omega) (by omega) (by rw [c2, z])
          omega
        omega
      · have := hf i (by omega)
        omega
    have hgi : ∀ i j, i < N → j < N → (if f i = N then f N else f i) = (if f j = N then f N else f j) → i = j := fun i j h1 h2 he => by
      by_cases a : f i = N
      · by_cases b : f j = N
        · exact hi i j (by omega) (by omega) (by rw [a, b])
        · rw [if_pos a, if_neg b] at he
          have := hi N j (by omega) (by omega) he
          omega
      · by_cases b : f j = N
        · rw [if_neg a, if_pos b] at he
          have := hi i N (by omega) (by omega) he
          omega
        · rw [if_neg a, if_neg b] at he
          exact hi i j (by omega) (by omega) he
    by_cases c2 : v = N
    · obtain ⟨i, i1, i2⟩ := php N (fun i => if f i = N then f N else f i) hg hgi (f N) (by omega)
      refine ⟨i, by omega, ?_⟩
      have i3 : (if f i = N then f N else f i) = f N := i2
      by_cases a : f i = N
      · rw [a, c2]
      · rw [if_neg a] at i3
        have := hi i N (by omega) (by omega) i3
        omega
    · obtain ⟨i, i1, i2⟩ := php N (fun i => if f i = N then f N else f i) hg hgi v (by omega)
      refine ⟨i, by omega, ?_⟩
      have i3 : (if f i = N then f N else f i) = v := i2
      by_cases a : f i = N
      · rw [if_pos a] at i3
        exact absurd i3.symm c1
      · rw [if_neg a] at i3
        exact i3
section FLD
theorem gp_add {q m d n x : Nat} (w : Wd q m d n) (hx : x < n) (i : Nat) : ∀ j, gp q m x (i + j) = mu q m (gp q m x i) (gp q m x j)
  | 0 => (mu_1r w (gp_lt w hx i)).symm
  | j + 1 => by
    show mu q m (gp q m x (i + j)) x = mu q m (gp q m x i) (mu q m (gp q m x j) x)
    rw [gp_add w hx i j, mu_assoc w (gp_lt w hx i) (gp_lt w hx j) hx]
theorem gp_mul1 {q m d n x : Nat} (w : Wd q m d n) (hx : x < n) (h1 : gp q m x (n - 1) = 1) : ∀ k, gp q m x ((n - 1) * k) = 1
  | 0 => rfl
  | k + 1 => by
    rw [Nat.mul_succ, gp_add w hx, gp_mul1 w hx h1 k, h1, mu_1r w (by have := w.n2; omega)]
theorem gp_mod {q m d n x : Nat} (w : Wd q m d n) (hx : x < n) (h1 : gp q m x (n - 1) = 1) (i : Nat) : gp q m x (i % (n - 1)) = gp q m x i := by
  conv => rhs; rw [← Nat.div_add_mod i (n - 1)]
  rw [gp_add w hx, gp_mul1 w hx h1, mu_1l w (gp_lt w hx _)]
theorem gp_pos {q m d n x : Nat} (w : Wd q m d n) (h1 : gp q m x (n - 1) = 1) {i : Nat} (hi : i ≤ n - 1) : 1 ≤ gp q m x i := by
  have h2 := w.q2
  rcases Nat.eq_zero_or_pos (gp q m x i) with z | z
  · have := gp_stay h2 z (n - 1 - i)
    rw [show i + (n - 1 - i) = n - 1 by omega, h1] at this
    omega
  · exact z
theorem gp_inj {q m d n x : Nat} (w : Wd q m d n) (hx : x < n) (hf : full q m n x) {i j : Nat} (hi : i < n - 1) (hj : j < n - 1) (he : gp q m x i = gp q m x j) : i = j := by
  have main : ∀ i j, i < j → j < n - 1 → gp q m x i = gp q m x j → False := by
    intro i j hij hj he
    have e1 : gp q m x (n - 1 - i + i) = gp q m x (n - 1 - i + j) := by rw [gp_add w hx, gp_add w hx, he]
    rw [show n - 1 - i + i = n - 1 by omega, hf.1, show n - 1 - i + j = (n - 1) + (j - i) by omega, gp_add w hx, hf.1, mu_1l w (gp_lt w hx _)] at e1
    exact hf.2 (j - i) (by omega) (by omega) e1.symm
  rcases Nat.lt_trichotomy i j with c | c | c
  · exact (main i j c hj he).elim
  · exact c
  · exact (main j i c hi he.symm).elim
theorem full_onto {q m d n x : Nat} (w : Wd q m d n) (hx : x < n) (hf : full q m n x) : onto q m n x := by
  intro v h1 h2
  obtain ⟨i, i1, i2⟩ := php (n - 1) (fun i => gp q m x i - 1) (fun i hi => by
    show gp q m x i - 1 < n - 1
    have := gp_lt w hx i
    have := gp_pos w hf.1 (i := i) (by omega)
    omega) (fun i j hi hj he => by
    have e : gp q m x i - 1 = gp q m x j - 1 := he
    have := gp_pos w hf.1 (i := i) (by omega)
    have := gp_pos w hf.1 (i := j) (by omega)
    exact gp_inj w hx hf hi hj (by omega)) (v - 1) (by omega)
  have i3 : gp q m x i - 1 = v - 1 := i2
  have := gp_pos w hf.1 (i := i) (by omega)
  exact ⟨i, i1, by omega⟩
theorem tbl_gp {q m d n x : Nat} (w : Wd q m d n) (hx : x < n) (j : Nat) : ∀ k i, tbl q (gp q m x j) m k (gp q m x (j * i)) = gp q m x (j * (i + k))
  | 0, _ => rfl
  | k + 1, i => by
    show tbl q (gp q m x j) m k (mu q m (gp q m x (j * i)) (gp q m x j)) = _
    rw [← gp_add w hx, ← Nat.mul_succ, tbl_gp w hx j k (i + 1)]
    congr 2
    omega
theorem tby_gp {q m d n x : Nat} (w : Wd q m d n) (hx : x < n) (j : Nat) : tby q (gp q m x j) m = gp q m x (j * q) := by
  have h2 := w.q2
  have := tbl_gp w hx j (q - 1) 1
  rw [Nat.mul_one, show 1 + (q - 1) = q by omega] at this
  exact this
theorem itr_gp {q m d n x : Nat} (w : Wd q m d n) (hx : x < n) : ∀ k j, itr (fun v => tby q v m) k (gp q m x j) = gp q m x (j * q ^ k)
  | 0, j => by rw [Nat.pow_zero, Nat.mul_one]; rfl
  | k + 1, j => by
    show itr _ k (tby q (gp q m x j) m) = _
    rw [tby_gp w hx j, itr_gp w hx k, Nat.pow_succ, Nat.mul_assoc, Nat.mul_comm q]
theorem ivs_is {q m b u : Nat} : ∀ r v, v ≤ u → u < v + r → mu q m b u = 1 → mu q m b (ivs q m b r v) = 1 ∧ v ≤ ivs q m b r v ∧ ivs q m b r v < v + r
  | 0, v, h1, h2, _ => by omega
  | r + 1, v, h1, h2, h3 => by
    unfold ivs
    split
    · next c => exact ⟨c, Nat.le_refl v, by omega⟩
    · next c =>
      have : v ≠ u := fun z => c (by rw [z]; exact h3)
      obtain ⟨a1, a2, a3⟩ := ivs_is (q := q) (m := m) (b := b) (u := u) r (v + 1) (by omega) (by omega) h3
      exact ⟨a1, by omega, by omega⟩
theorem inv_one {q m d n b u v : Nat} (w : Wd q m d n) (hb : b < n) (hu : u < n) (hv : v < n) (h1 : mu q m b u = 1) (h2 : mu q m b v = 1) : u = v := by
  have e1 : mu q m u (mu q m b v) = u := by rw [h2, mu_1r w hu]
  rw [← mu_assoc w hu hb hv, mu_comm w hu hb, h1, mu_1l w hv] at e1
  exact e1.symm
theorem rinv_gp {q m d n x : Nat} (w : Wd q m d n) (hx : x < n) (hf : full q m n x) {k : Nat} (hk : k < n - 1) : rinv q m n (gp q m x k) = gp q m x (n - 1 - k) := by
  have hu := gp_lt w hx (n - 1 - k)
  have hp := gp_pos w hf.1 (i := n - 1 - k) (by omega)
  have h1 : mu q m (gp q m x k) (gp q m x (n - 1 - k)) = 1 := by
    rw [← gp_add w hx, show k + (n - 1 - k) = n - 1 by omega]
    exact hf.1
  obtain ⟨a1, a2, a3⟩ := ivs_is (n - 1) 1 hp (by omega) h1
  exact inv_one w (gp_lt w hx k) (by unfold rinv; omega) hu a1 h1
theorem Pw_of {q m d n : Nat} (w : Wd q m d n) (hg : ∃ g0, 1 ≤ g0 ∧ g0 < n ∧ full q m n g0) : Pw q m d n := by
  refine ⟨w, hg, fun g h1 hx hf => ⟨full_onto w hx hf, fun j k hj hk => ?_, fun j k hj hk => ?_, fun j i hj => ?_⟩⟩
  · rw [gp_mod w hx hf.1, gp_add w hx]
  · unfold dv
    rw [rinv_gp w hx hf hk, gp_mod w hx hf.1, ← gp_add w hx]
    congr 1
    omega
  · unfold tu
    rw [itr_gp w hx, gp_mod w hx hf.1]
    conv => rhs; rw [← gp_mod w hx hf.1]
    rw [← gp_mod w hx hf.1 (j * (q ^ (i % d) % (n - 1)))]
    congr 1
    exact Nat.mul_mod_mod j (q ^ (i % d)) (n - 1)
/-! a maker, found by trial -/
def mkp (q m g : Nat) : Nat → Nat → Bool
  | 0, p => Nat.beq p 1
  | r + 1, p => !(Nat.beq p 1) && mkp q m g r (pby q p g m)
def mks2 (q m N : Nat) : Nat → Nat → Bool
  | 0, _ => false
  | r + 1, g => mkp q m g N (pby q 1 g m) || mks2 q m N r (g + 1)
theorem mkp_is {q m g : Nat} : ∀ r i, mkp q m g r (gp q m g i) = true → gp q m g (i + r) = 1 ∧ ∀ j, i ≤ j → j < i + r → gp q m g j ≠ 1
  | 0, i, h => ⟨nbq.mp h, fun j a b => by omega⟩
  | r + 1, i, h => by
    unfold mkp at h
    rw [Bool.and_eq_true] at h
    obtain ⟨h1, h2⟩ := h
    obtain ⟨a1, a2⟩ := mkp_is r (i + 1) h2
    refine ⟨by rw [show i + (r + 1) = i + 1 + r by omega]; exact a1, fun j b1 b2 => ?_⟩
    by_cases c : j = i
    · rw [c]
      intro z
      rw [nbq.mpr z] at h1
      exact absurd h1 (by decide)
    · exact a2 j (by omega) (by omega)
theorem mks2_is {q m n : Nat} (hn : 2 ≤ n) : ∀ r g, g + r ≤ n → 1 ≤ g → mks2 q m (n - 2) r g = true → ∃ g0, 1 ≤ g0 ∧ g0 < n ∧ full q m n g0
  | 0, _, _, _, h => by cases h
  | r + 1, g, hg, h1, h => by
    unfold mks2 at h
    rw [Bool.or_eq_true] at h
    rcases h with h | h
    · have h3 : mkp q m g (n - 2) (gp q m g 1) = true := h
      obtain ⟨a1, a2⟩ := mkp_is (n - 2) 1 h3
      rw [show 1 + (n - 2) = n - 1 by omega] at a1
      exact ⟨g, h1, by omega, a1, fun i i1 i2 => a2 i (by omega) (by omega)⟩
    · exact mks2_is hn r (g + 1) (by omega) (by omega) h
end FLD
