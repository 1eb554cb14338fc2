/-! what division leaves is linear -/
section RML
variable {q m d n : Nat}
theorem rl_z {f : Nat → Nat} : ∀ N k, rl f N ≤ k → k < N → f k = 0
  | 0, k, _, h => absurd h (Nat.not_lt_zero _)
  | N + 1, k, h, hk => by
    have e : rl f (N + 1) = if f N = 0 then rl f N else N + 1 := rfl
    rw [e] at h
    by_cases c : f N = 0
    · rw [if_pos c] at h
      by_cases c1 : k = N
      · rw [c1]
        exact c
      · exact rl_z N k h (by omega)
    · rw [if_neg c] at h
      omega
theorem dvi_0 (w : Wd q m d n) {h f : Nat → Nat} (hf : ∀ k, f k < n) (k : Nat) : dvi q m d h f 0 k = f := funext fun i => by
  show (if k ≤ i then cmb q (q - 1) 13 (f i) (mu q m 0 (tu q m d (h (i - k)) k)) else f i) = f i
  split
  · rw [mu_0l w.q2, cmb_0r w.q2 (w.lt13 (hf i))]
  · rfl
theorem dv_0 (w : Wd q m d n) (b : Nat) : dv q m n 0 b = 0 := mu_0l w.q2 m _
/-- steps where nothing stands change nothing -/
theorem dvl_more (w : Wd q m d n) {h : Nat → Nat} {low : Nat} {f : Nat → Nat} (hf : ∀ k, f k < n) (k : Nat) : ∀ (r : Nat) (v : Nat → Nat), (∀ i, k + low ≤ i → i < k + low + r → f i = 0) → ∃ v1, (dvl q m d n h low (k + r) f v).1 = (dvl q m d n h low k f v1).1 := by
  intro r
  induction r with
  | zero => exact fun v _ => ⟨v, rfl⟩
  | succ r ih =>
    intro v hz
    have e : dvl q m d n h low (k + r + 1) f v = dvl q m d n h low (k + r) (dvi q m d h f (dv q m n (f (k + r + low)) (tu q m d (h low) (k + r))) (k + r)) (up1 v (k + r) (dv q m n (f (k + r + low)) (tu q m d (h low) (k + r)))) := rfl
    rw [show k + (r + 1) = k + r + 1 by omega, e, hz (k + r + low) (by omega) (by omega), dv_0 w, dvi_0 w hf]
    exact ih _ (fun i h1 h3 => hz i h1 (by omega))
theorem dvl_w {h : Nat → Nat} {low : Nat} (k : Nat) : ∀ (f v v1 : Nat → Nat), (dvl q m d n h low k f v).1 = (dvl q m d n h low k f v1).1 := by
  induction k with
  | zero => exact fun f v v1 => rfl
  | succ k ih => exact fun f v v1 => ih _ _ _
/-- division with all its steps -/
theorem dvd_all (w : Wd q m d n) {h f : Nat → Nat} (hf : ∀ k, f k < n) (hL : 1 ≤ rl h 25) : (dvd q m d n 25 f h).1 = (dvl q m d n h (rl h 25 - 1) (25 - (rl h 25 - 1)) f (fun _ => 0)).1 := by
  have hl := rl_le h 25
  have hl2 := rl_le f 25
  have e : dvd q m d n 25 f h = dvl q m d n h (rl h 25 - 1) (rl f 25 - (rl h 25 - 1)) f (fun _ => 0) := rfl
  obtain ⟨v1, h1⟩ := dvl_more w (h := h) (low := rl h 25 - 1) hf (rl f 25 - (rl h 25 - 1)) (25 - (rl h 25 - 1) - (rl f 25 - (rl h 25 - 1))) (fun _ => 0) (fun i h1 h3 => rl_z 25 i (by omega) (by omega))
  rw [e]
  rw [show rl f 25 - (rl h 25 - 1) + (25 - (rl h 25 - 1) - (rl f 25 - (rl h 25 - 1))) = 25 - (rl h 25 - 1) by omega] at h1
  rw [h1]
  exact dvl_w _ _ _ _
theorem dvi_lin (w : Wd q m d n) {h f g : Nat → Nat} (hh : ∀ k, h k < n) (hf : ∀ k, f k < n) (hg : ∀ k, g k < n) {x y : Nat} (hx : x < n) (hy : y < n) (k i : Nat) : dvi q m d h (fun j => cmb q 1 13 (f j) (g j)) (cmb q 1 13 x y) k i = cmb q 1 13 (dvi q m d h f x k i) (dvi q m d h g y k i) := by
  have e : ∀ (f : Nat → Nat) x, dvi q m d h f x k i = if k ≤ i then cmb q (q - 1) 13 (f i) (mu q m x (tu q m d (h (i - k)) k)) else f i := fun _ _ => rfl
  rw [e, e, e]
  by_cases c : k ≤ i
  · rw [if_pos c, if_pos c, if_pos c, mu_addL w hx hy (tu_lt w (hh _))]
    exact cmb_lin w.q2
  · rw [if_neg c, if_neg c, if_neg c]
theorem dvl_lin (w : Wd q m d n) {h : Nat → Nat} {low : Nat} (hh : ∀ k, h k < n) (k : Nat) : ∀ (f g v v1 v2 : Nat → Nat), (∀ k, f k < n) → (∀ k, g k < n) → ∀ i, (dvl q m d n h low k (fun j => cmb q 1 13 (f j) (g j)) v).1 i = cmb q 1 13 ((dvl q m d n h low k f v1).1 i) ((dvl q m d n h low k g v2).1 i) := by
  induction k with
  | zero => exact fun f g v v1 v2 _ _ i => rfl
  | succ k ih =>
    intro f g v v1 v2 hf hg i
    have e : ∀ (f v : Nat → Nat), dvl q m d n h low (k + 1) f v = dvl q m d n h low k (dvi q m d h f (dv q m n (f (k + low)) (tu q m d (h low) k)) k) (up1 v k (dv q m n (f (k + low)) (tu q m d (h low) k))) := fun _ _ => rfl
    rw [e, e, e]
    have hr : ∀ b, rinv q m n b < n := fun b => rinv_lt w.pos
    have hx : dv q m n (cmb q 1 13 (f (k + low)) (g (k + low))) (tu q m d (h low) k) = cmb q 1 13 (dv q m n (f (k + low)) (tu q m d (h low) k)) (dv q m n (g (k + low)) (tu q m d (h low) k)) := mu_addL w (hf _) (hg _) (hr _)
    have hl : ∀ a b, dv q m n a b < n := fun a b => mu_lt w (hr b)
    have hfn : (dvi q m d h (fun j => cmb q 1 13 (f j) (g j)) (dv q m n (cmb q 1 13 (f (k + low)) (g (k + low))) (tu q m d (h low) k)) k) = fun j => cmb q 1 13 (dvi q m d h f (dv q m n (f (k + low)) (tu q m d (h low) k)) k j) (dvi q m d h g (dv q m n (g (k + low)) (tu q m d (h low) k)) k j) := funext fun j => by
      rw [hx]
      exact dvi_lin w hh hf hg (hl _ _) (hl _ _) k j
    rw [hfn]
    exact ih _ _ _ _ _ (dvi_lt w hf hh _ k) (dvi_lt w hg hh _ k) i
/-- what division leaves of a sum -/
theorem rem_add (w : Wd q m d n) {h f g : Nat → Nat} (hh : ∀ k, h k < n) (hf : ∀ k, f k < n) (hg : ∀ k, g k < n) (hL : 1 ≤ rl h 25) (i : Nat) : (dvd q m d n 25 (fun j => cmb q 1 13 (f j) (g j)) h).1 i = cmb q 1 13 ((dvd q m d n 25 f h).1 i) ((dvd q m d n 25 g h).1 i) := by
  rw [dvd_all w (fun k => cmb_ltn w (hf k) (hg k)) hL, dvd_all w hf hL, dvd_all w hg hL]
  exact dvl_lin w hh _ _ _ _ _ _ hf hg i
end RML
