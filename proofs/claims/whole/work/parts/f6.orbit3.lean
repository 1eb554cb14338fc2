/-! the product over the orbit: g is nothing in it -/
def pvk (q m : Nat) (f : Nat → Nat) (y : Nat) : Nat → Nat
  | 0 => 0
  | N + 1 => cmb q 1 13 (pvk q m f y N) (mu q m (f N) (gp q m y N))
theorem pv_r {R : Type} [Lean.Grind.CommRing R] (A B a b G X Y : R) : (Y * A - X * B) + (a - b * X) * (G * Y) = Y * (A + a * G) - X * (B + b * (G * Y)) := by grind
section OR3
variable {q m d n : Nat}
theorem pvk_lt (w : Wd q m d n) {f : Nat → Nat} {y : Nat} (hy : y < n) : ∀ N, pvk q m f y N < n
  | 0 => w.pos
  | N + 1 => cmb_ltn w (pvk_lt w hy N) (mu_lt w (gp_lt2 w hy N))
theorem pv_v (w : Wd q m d n) (A B a b G X Y : KT n) : cmb q 1 13 (cmb q (q - 1) 13 (mu q m Y.1 A.1) (mu q m X.1 B.1)) (mu q m (cmb q (q - 1) 13 a.1 (mu q m b.1 X.1)) (mu q m G.1 Y.1)) = cmb q (q - 1) 13 (mu q m Y.1 (cmb q 1 13 A.1 (mu q m a.1 G.1))) (mu q m X.1 (cmb q 1 13 B.1 (mu q m b.1 (mu q m G.1 Y.1)))) := by
  letI := kR w
  have h := congrArg Subtype.val (pv_r A B a b G X Y)
  rw [k_add1 w, k_sub1 w, k_mul1 w, k_mul1 w, k_mul1 w, k_sub1 w, k_mul1 w, k_mul1 w, k_sub1 w, k_mul1 w, k_add1 w, k_mul1 w, k_mul1 w, k_add1 w, k_mul1 w, k_mul1 w] at h
  exact h
theorem pvk_chs (w : Wd q m d n) {f : Nat → Nat} (hf : ∀ k, f k < n) {x y : Nat} (hx : x < n) (hy : y < n) (N : Nat) : pvk q m (chs q m f x) y (N + 1) = cmb q (q - 1) 13 (mu q m y (pvk q m f y N)) (mu q m x (pvk q m f y (N + 1))) := by
  have h2 := w.q2
  have hc := chs_lt w hf hx
  induction N with
  | zero =>
    have e : ∀ f : Nat → Nat, pvk q m f y 1 = cmb q 1 13 0 (mu q m (f 0) 1) := fun _ => rfl
    have e0 : pvk q m f y 0 = 0 := rfl
    have e1 : chs q m f x 0 = cmb q (q - 1) 13 0 (mu q m (f 0) x) := rfl
    rw [e, e, e0, mu_1r w (hc 0), mu_1r w (hf 0), cmb_one h2 (w.lt13 (hc 0)), cmb_one h2 (w.lt13 (hf 0)), e1, mu_comm w hy w.pos, mu_0l h2, mu_comm w hx (hf 0)]
  | succ N ih =>
    have e : ∀ f : Nat → Nat, pvk q m f y (N + 1 + 1) = cmb q 1 13 (pvk q m f y (N + 1)) (mu q m (f (N + 1)) (mu q m (gp q m y N) y)) := fun _ => rfl
    have e1 : chs q m f x (N + 1) = cmb q (q - 1) 13 (f N) (mu q m (f (N + 1)) x) := rfl
    rw [e, e, ih, e1]
    have h := pv_v w ⟨pvk q m f y N, pvk_lt w hy N⟩ ⟨pvk q m f y (N + 1), pvk_lt w hy (N + 1)⟩ ⟨f N, hf N⟩ ⟨f (N + 1), hf (N + 1)⟩ ⟨gp q m y N, gp_lt2 w hy N⟩ ⟨x, hx⟩ ⟨y, hy⟩
    exact h
theorem pvk_orb (w : Wd q m d n) {g : Nat} (hg : g < n) (e : Nat) : pvk q m (cfr q m g (e + 1)) g (e + 2) = 0 := by
  have h2 := w.q2
  have more : ∀ e, pvk q m (cfr q m g e) g (e + 2) = pvk q m (cfr q m g e) g (e + 1) := fun e => by
    show cmb q 1 13 (pvk q m (cfr q m g e) g (e + 1)) (mu q m (cfr q m g e (e + 1)) (gp q m g (e + 1))) = _
    rw [cfr_0 w hg e (e + 1) (by omega), mu_0l h2, cmb_0r h2 (w.lt13 (pvk_lt w hg _))]
  have hit : itr (fun v => tby q v m) e g < n := (itr_Ln (tby_Ln w) e).1 g hg
  have hs : pvk q m (cfr q m g (e + 1)) g (e + 2) = cmb q (q - 1) 13 (mu q m g (pvk q m (cfr q m g e) g (e + 1))) (mu q m (itr (fun v => tby q v m) e g) (pvk q m (cfr q m g e) g (e + 2))) := pvk_chs w (cfr_lt w hg e) hit hg (e + 1)
  rw [hs, more]
  cases e with
  | zero =>
    show cmb q (q - 1) 13 (mu q m g (pvk q m (cfr q m g 0) g 1)) (mu q m g (pvk q m (cfr q m g 0) g 1)) = 0
    exact cmb_self h2
  | succ e =>
    have ih := pvk_orb w hg e
    rw [ih, mu_comm w hg w.pos, mu_0l h2, mu_comm w hit w.pos, mu_0l h2]
    exact cmb_0r h2 (Nat.pow_pos (by omega))
/-- a figure times a rest -/
theorem mu_fgl (w : Wd q m d n) {c a : Nat} (hc : c < q) (ha : a < n) : mu q m c a = cmb q c 13 0 a := by
  have hqn := q_le_n w
  have key := k_scal w (kt (show 0 < n from w.pos)) (kt ha) c
  letI := kR w
  have e1 : (kt (show 0 < n from w.pos) + (OfNat.ofNat c : KT n) * kt ha) = kt (show c < n by omega) * kt ha := by
    have e2 : (OfNat.ofNat c : KT n) = kt (show c < n by omega) := by
      apply Subtype.ext
      show (rg_nat (α := KT n) _ _ _ c).1 = c
      rw [k_nat w, Nat.mod_eq_of_lt hc]
    have e3 : (kt (show 0 < n from w.pos) : KT n) = 0 := rfl
    rw [e2, e3]
    grind
  rw [e1] at key
  exact key
theorem pvk_lsm (w : Wd q m d n) {f : Nat → Nat} (hf : ∀ k, f k < q) {y : Nat} (hy : y < n) (N : Nat) : pvk q m f y N = lsm q f (gp q m y) N := by
  have h2 := w.q2
  induction N with
  | zero => rfl
  | succ N ih =>
    show cmb q 1 13 (pvk q m f y N) (mu q m (f N) (gp q m y N)) = cmb q (f N) 13 (lsm q f (gp q m y) N) (gp q m y N)
    rw [ih, mu_fgl w (hf N) (gp_lt2 w hy N), cmb_in h2, Nat.one_mul, cmb_0r h2 (lsm_lt13 h2 _ _ _)]
/-- the characteristic's figures make nothing of g -/
theorem orb_zero (hp : Pw q m d n) {g : Nat} (hg : g < n) : lsm q (cfr q m g (orb q m d g)) (gp q m g) (orb q m d g + 1) = 0 := by
  have w := hp.1
  obtain ⟨o1, o2, o3, o4⟩ := orb_is hp hg
  have hfig := cfr_fig hp hg
  rw [← pvk_lsm w hfig hg]
  generalize orb q m d g = e at *
  obtain ⟨r, rfl⟩ : ∃ r, e = r + 1 := ⟨e - 1, by omega⟩
  exact pvk_orb w hg r
end OR3
