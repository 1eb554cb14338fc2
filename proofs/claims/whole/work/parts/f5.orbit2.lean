/-! the product over the orbit: figures, and g is nothing in it -/
section ORG
variable {q m d n : Nat}
theorem k_sub1 (w : Wd q m d n) (a b : KT n) : letI := kR w; (a - b).1 = cmb q (q - 1) 13 a.1 b.1 := by
  show cmb q 1 13 a.1 (cmb q (q - 1) 13 0 b.1) = _
  rw [cmb_in w.q2, Nat.one_mul, cmb_0r w.q2 (w.lt13 a.2)]
theorem two_r {R : Type} [Lean.Grind.CommRing R] (A B C X Y : R) : (A - B * X) - (B - C * X) * Y = (A - B * Y) - (B - C * Y) * X := by grind
theorem two_v (w : Wd q m d n) (A B C X Y : KT n) : cmb q (q - 1) 13 (cmb q (q - 1) 13 A.1 (mu q m B.1 X.1)) (mu q m (cmb q (q - 1) 13 B.1 (mu q m C.1 X.1)) Y.1) = cmb q (q - 1) 13 (cmb q (q - 1) 13 A.1 (mu q m B.1 Y.1)) (mu q m (cmb q (q - 1) 13 B.1 (mu q m C.1 Y.1)) X.1) := by
  letI := kR w
  have h := congrArg Subtype.val (two_r A B C X Y)
  rw [k_sub1 w, k_sub1 w, k_mul1 w, k_mul1 w, k_sub1 w, k_mul1 w, k_sub1 w, k_sub1 w, k_mul1 w, k_mul1 w, k_sub1 w, k_mul1 w] at h
  exact h
theorem chs_comm (w : Wd q m d n) {f : Nat → Nat} (hf : ∀ k, f k < n) {x y : Nat} (hx : x < n) (hy : y < n) : chs q m (chs q m f x) y = chs q m (chs q m f y) x := funext fun k => by
  have h2 := w.q2
  have e0 : ∀ a b, chs q m (chs q m f a) b 0 = cmb q (q - 1) 13 0 (mu q m (cmb q (q - 1) 13 0 (mu q m (f 0) a)) b) := fun _ _ => rfl
  have e1 : ∀ a b, chs q m (chs q m f a) b 1 = cmb q (q - 1) 13 (cmb q (q - 1) 13 0 (mu q m (f 0) a)) (mu q m (cmb q (q - 1) 13 (f 0) (mu q m (f 1) a)) b) := fun _ _ => rfl
  have e3 : ∀ a b k, chs q m (chs q m f a) b (k + 2) = cmb q (q - 1) 13 (cmb q (q - 1) 13 (f k) (mu q m (f (k + 1)) a)) (mu q m (cmb q (q - 1) 13 (f (k + 1)) (mu q m (f (k + 2)) a)) b) := fun _ _ _ => rfl
  match k with
  | 0 =>
    have h := two_v w ⟨0, w.pos⟩ ⟨0, w.pos⟩ ⟨f 0, hf 0⟩ ⟨x, hx⟩ ⟨y, hy⟩
    have z : ∀ a, cmb q (q - 1) 13 0 (mu q m 0 a) = 0 := fun a => by rw [mu_0l h2, cmb_0r h2 (Nat.pow_pos (by omega))]
    dsimp only at h
    rw [z, z] at h
    rw [e0, e0]
    exact h
  | 1 =>
    rw [e1, e1]
    exact two_v w ⟨0, w.pos⟩ ⟨f 0, hf 0⟩ ⟨f 1, hf 1⟩ ⟨x, hx⟩ ⟨y, hy⟩
  | k + 2 =>
    rw [e3, e3]
    exact two_v w ⟨f k, hf k⟩ ⟨f (k + 1), hf (k + 1)⟩ ⟨f (k + 2), hf (k + 2)⟩ ⟨x, hx⟩ ⟨y, hy⟩
theorem chs_tby (w : Wd q m d n) {f : Nat → Nat} (hf : ∀ k, f k < n) {x : Nat} (hx : x < n) (k : Nat) : tby q (chs q m f x k) m = chs q m (fun k => tby q (f k) m) (tby q x m) k := by
  have hT := tby_Ln w
  unfold chs
  by_cases c : k = 0
  · rw [if_pos c, if_pos c]
    have h1 := hT.2 (q - 1) 0 (mu q m (f 0) x) w.pos (mu_lt w hx)
    have h2 : tby q (cmb q (q - 1) 13 0 (mu q m (f 0) x)) m = cmb q (q - 1) 13 (tby q 0 m) (tby q (mu q m (f 0) x) m) := h1
    have h3 : tby q 0 m = 0 := hT.zero w
    rw [h2, h3, tby_mul w (hf 0) hx]
  · rw [if_neg c, if_neg c]
    have h2 : tby q (cmb q (q - 1) 13 (f (k - 1)) (mu q m (f k) x)) m = cmb q (q - 1) 13 (tby q (f (k - 1)) m) (tby q (mu q m (f k) x) m) := hT.2 (q - 1) _ _ (hf _) (mu_lt w hx)
    rw [h2, tby_mul w (hf k) hx]
theorem cfr_tby (hp : Pw q m d n) {g : Nat} (hg : g < n) (e : Nat) : (fun k => tby q (cfr q m g e k) m) = cfr q m (tby q g m) e := by
  have w := hp.1
  induction e with
  | zero =>
    funext k
    show tby q (if k = 0 then 1 else 0) m = if k = 0 then 1 else 0
    by_cases c : k = 0
    · rw [if_pos c]
      exact tby_1 hp
    · rw [if_neg c]
      exact (tby_Ln w).zero w
  | succ e ih =>
    funext k
    have hit : itr (fun v => tby q v m) e g < n := (itr_Ln (tby_Ln w) e).1 g hg
    show tby q (chs q m (cfr q m g e) (itr (fun v => tby q v m) e g) k) m = chs q m (cfr q m (tby q g m) e) (itr (fun v => tby q v m) e (tby q g m)) k
    rw [chs_tby w (cfr_lt w hg e) hit, ih]
    have h1 : tby q (itr (fun v => tby q v m) e g) m = itr (fun v => tby q v m) e (tby q g m) := (itr_suc (fun v => tby q v m) e g).symm
    rw [h1]
theorem cfr_front (w : Wd q m d n) {g : Nat} (hg : g < n) (e : Nat) : cfr q m g (e + 1) = chs q m (cfr q m (tby q g m) e) g := by
  have htg : tby q g m < n := (tby_Ln w).1 g hg
  induction e with
  | zero => rfl
  | succ e ih =>
    have hit : itr (fun v => tby q v m) e (tby q g m) < n := (itr_Ln (tby_Ln w) e).1 _ htg
    have e1 : cfr q m g (e + 1 + 1) = chs q m (cfr q m g (e + 1)) (itr (fun v => tby q v m) e (tby q g m)) := rfl
    have e2 : cfr q m (tby q g m) (e + 1) = chs q m (cfr q m (tby q g m) e) (itr (fun v => tby q v m) e (tby q g m)) := rfl
    rw [e1, ih, e2]
    exact chs_comm w (cfr_lt w htg e) hg hit
/-- the coefficients are figures -/
theorem cfr_fig (hp : Pw q m d n) {g : Nat} (hg : g < n) (k : Nat) : cfr q m g (orb q m d g) k < q := by
  have w := hp.1
  obtain ⟨o1, o2, o3, o4⟩ := orb_is hp hg
  refine k_fig hp (cfr_lt w hg _ k) ?_
  have h1 := congrFun (cfr_tby hp hg (orb q m d g)) k
  have h2 : tby q (cfr q m g (orb q m d g) k) m = cfr q m (tby q g m) (orb q m d g) k := h1
  rw [h2]
  generalize orb q m d g = e at *
  obtain ⟨r, rfl⟩ : ∃ r, e = r + 1 := ⟨e - 1, by omega⟩
  have h3 : cfr q m (tby q g m) (r + 1) = chs q m (cfr q m (tby q g m) r) (itr (fun v => tby q v m) r (tby q g m)) := rfl
  have h4 : itr (fun v => tby q v m) r (tby q g m) = g := o3
  rw [h3, h4, cfr_front w hg r]
end ORG
