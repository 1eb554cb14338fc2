/-! the figures are what the q-th power leaves as it is -/
theorem fig_prod2 {R : Type} [Lean.Grind.CommRing R] (h : (2 : R) = 0) (x : R) (hx : x ^ 2 = x) : x * (x + 1) = 0 := by grind
theorem fig_prod3 {R : Type} [Lean.Grind.CommRing R] (h : (3 : R) = 0) (x : R) (hx : x ^ 3 = x) : x * ((x + 1) * (x + 2)) = 0 := by grind
theorem fig_prod5 {R : Type} [Lean.Grind.CommRing R] (h : (5 : R) = 0) (x : R) (hx : x ^ 5 = x) : x * ((x + 1) * ((x + 2) * ((x + 3) * (x + 4)))) = 0 := by grind
section FGS
variable {q m d n : Nat}
theorem k_nzd (hp : Pw q m d n) (a b : KT n) (h : letI := kR hp.1; a * b = 0) : letI := kR hp.1; a = 0 ∨ b = 0 := by
  have h1 : mu q m a.1 b.1 = 0 := congrArg Subtype.val h
  by_cases ca : a.1 = 0
  · exact Or.inl (Subtype.ext ca)
  by_cases cb : b.1 = 0
  · exact Or.inr (Subtype.ext cb)
  have := mu_pos hp a.2 b.2 (by omega) (by omega)
  omega
theorem k_num (w : Wd q m d n) (i : Nat) : letI := kR w; (OfNat.ofNat i : KT n).1 = i % q := k_nat w i
/-- a + i is 0: a is a figure -/
theorem k_shift (w : Wd q m d n) (a : KT n) {i : Nat} (hi : i < q) (h : letI := kR w; a + (OfNat.ofNat i : KT n) = 0) : a.1 < q := by
  have h2 := w.q2
  letI := kR w
  have hq := k_q0 w
  have hqn := q_le_n w
  have e : a = (OfNat.ofNat (q - i) : KT n) := by
    have s : (OfNat.ofNat (q - i) : KT n) + (OfNat.ofNat i : KT n) = 0 := by
      apply Subtype.ext
      show cmb q 1 13 (OfNat.ofNat (q - i) : KT n).1 (OfNat.ofNat i : KT n).1 = 0
      have l1 := k_num w (q - i)
      have l2 := k_num w i
      rw [l1, l2, cmb_fig h2 (Nat.mod_lt _ (by omega)) (Nat.mod_lt _ (by omega)), Nat.one_mul, ← Nat.add_mod, Nat.sub_add_cancel (by omega), Nat.mod_self]
    have h' : a + (OfNat.ofNat i : KT n) = (OfNat.ofNat (q - i) : KT n) + (OfNat.ofNat i : KT n) := h.trans s.symm
    grind
  rw [e]
  have l1 := k_num w (q - i)
  rw [l1]
  exact Nat.mod_lt _ (by omega)
theorem k_fig (hp : Pw q m d n) {x : Nat} (hx : x < n) (h : tby q x m = x) : x < q := by
  have w := hp.1
  have hq := w.hq
  have hx2 : letI := kR w; (kt hx) ^ q = kt hx := by
    apply Subtype.ext
    rw [k_tby w (kt hx)]
    exact h
  have hc := k_q0 w
  letI := kR w
  rcases hq with rfl | rfl | rfl
  · have hp2 := fig_prod2 hc (kt hx) hx2
    rcases k_nzd hp _ _ hp2 with z | z
    · have : x = 0 := congrArg Subtype.val z
      omega
    · exact k_shift w (kt hx) (i := 1) (by omega) z
  · have hp2 := fig_prod3 hc (kt hx) hx2
    rcases k_nzd hp _ _ hp2 with z | z
    · have : x = 0 := congrArg Subtype.val z
      omega
    rcases k_nzd hp _ _ z with z | z
    · exact k_shift w (kt hx) (i := 1) (by omega) z
    · exact k_shift w (kt hx) (i := 2) (by omega) z
  · have hp2 := fig_prod5 hc (kt hx) hx2
    rcases k_nzd hp _ _ hp2 with z | z
    · have : x = 0 := congrArg Subtype.val z
      omega
    rcases k_nzd hp _ _ z with z | z
    · exact k_shift w (kt hx) (i := 1) (by omega) z
    rcases k_nzd hp _ _ z with z | z
    · exact k_shift w (kt hx) (i := 2) (by omega) z
    rcases k_nzd hp _ _ z with z | z
    · exact k_shift w (kt hx) (i := 3) (by omega) z
    · exact k_shift w (kt hx) (i := 4) (by omega) z
theorem tby_tu (hp : Pw q m d n) {a : Nat} (ha : a < n) (j : Nat) : tby q (tu q m d a j) m = tu q m d a (j + 1) := by
  rw [← tu_add hp ha j 1, tu_itr hp (tu_lt hp.1 ha) 1]
  rfl
theorem gul_s {g r j p : Nat} : gul q m d g (r + 1) j p = gul q m d g r (j + 1) (mu q m p (tu q m d g j)) := rfl
theorem gul_z {g j p : Nat} : gul q m d g 0 j p = p := rfl
theorem gul_mulL (hp : Pw q m d n) {g a : Nat} (hg : g < n) (ha : a < n) (r : Nat) : ∀ j p, p < n → gul q m d g r j (mu q m a p) = mu q m a (gul q m d g r j p) := by
  induction r with
  | zero =>
    intro j p hpn
    rw [gul_z, gul_z]
  | succ r ih =>
    intro j p hpn
    rw [gul_s, gul_s, mu_assoc hp.1 ha hpn (tu_lt hp.1 hg), ih (j + 1) _ (mu_lt hp.1 (tu_lt hp.1 hg))]
theorem gul_snoc (hp : Pw q m d n) {g : Nat} (hg : g < n) (r : Nat) : ∀ j p, p < n → gul q m d g (r + 1) j p = mu q m (gul q m d g r j p) (tu q m d g (j + r)) := by
  induction r with
  | zero =>
    intro j p hpn
    rw [gul_s, gul_z, gul_z, Nat.add_zero]
  | succ r ih =>
    intro j p hpn
    rw [gul_s, ih (j + 1) _ (mu_lt hp.1 (tu_lt hp.1 hg)), gul_s, show j + 1 + r = j + (r + 1) by omega]
theorem gul_tby (hp : Pw q m d n) {g : Nat} (hg : g < n) (r : Nat) : ∀ j p, p < n → tby q (gul q m d g r j p) m = gul q m d g r (j + 1) (tby q p m) := by
  induction r with
  | zero =>
    intro j p hpn
    rw [gul_z, gul_z]
  | succ r ih =>
    intro j p hpn
    rw [gul_s, ih (j + 1) _ (mu_lt hp.1 (tu_lt hp.1 hg)), gul_s, tby_mul hp.1 hpn (tu_lt hp.1 hg), tby_tu hp hg]
theorem uniOK : UniOK := fun q m d n g hp h1 hg => by
  have w := hp.1
  have hn := w.n2
  have hd : 1 ≤ d := w.2.2.2.2.1
  refine k_fig hp (gul_lt w hg d 0 1 (by omega)) ?_
  have t1 : tby q 1 m = 1 := by
    have := tu_one hp 1
    rw [tu_itr hp (by omega) 1] at this
    exact this
  rw [gul_tby hp hg d 0 1 (by omega), t1]
  obtain ⟨r, rfl⟩ : ∃ r, d = r + 1 := ⟨d - 1, by omega⟩
  rw [gul_snoc hp hg r 1 1 (by omega), show 1 + r = r + 1 by omega, tu_d hp hg]
  rw [gul_s, tu_0i, mu_comm w (x := 1) (by omega) hg, gul_mulL hp hg hg r _ 1 (by omega), mu_comm w (gul_lt w hg _ _ _ (by omega)) hg]
theorem unit_ok : unitOK := fun q m d n hp g hg h0 => by
  have hU := uniOK q m d n g hp (by omega) hg
  rw [gun_fig hp (by omega) hg hU]
  exact iv_lt hp.1.hq hU
end FGS
