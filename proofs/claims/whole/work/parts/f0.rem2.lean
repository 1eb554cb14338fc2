/-! what division leaves: multiples, sums, how far it reaches -/
section RM2
variable {q m d n : Nat}
theorem cmb_0s (w : Wd q m d n) {a b : Nat} (ha : a < n) : cmb q 0 13 a b = a := by
  have h2 := w.q2
  refine dg_ext h2 (cmb_lt _ h2 13 _ _) (w.lt13 ha) (fun k hk => ?_)
  rw [cmb_dg _ h2, if_pos hk, Nat.zero_mul, Nat.add_zero, Nat.mod_eq_of_lt (dg_lt (by omega))]
theorem rem_lin (w : Wd q m d n) {h f g : Nat → Nat} (hh : ∀ k, h k < n) (hf : ∀ k, f k < n) (hg : ∀ k, g k < n) (hL : 1 ≤ rl h 25) (i : Nat) (s : Nat) : (dvd q m d n 25 (fun j => cmb q s 13 (f j) (g j)) h).1 i = cmb q s 13 ((dvd q m d n 25 f h).1 i) ((dvd q m d n 25 g h).1 i) := by
  induction s with
  | zero =>
    have e : (fun j => cmb q 0 13 (f j) (g j)) = f := funext fun j => cmb_0s w (hf j)
    rw [e, cmb_0s w ((dvd_lt w hf hh).1 i)]
  | succ s ih =>
    have e : (fun j => cmb q (s + 1) 13 (f j) (g j)) = fun j => cmb q 1 13 (cmb q s 13 (f j) (g j)) (g j) := funext fun j => cmb_stp w.q2
    rw [e, rem_add w hh (fun k => cmb_ltn w (hf k) (hg k)) hg hL, ih]
    exact (cmb_stp w.q2).symm
theorem rem_top (hp : Pw q m d n) {h : Nat → Nat} (hh : ∀ k, h k < n) {low : Nat} (hl : h low ≠ 0) (hz : ∀ k, low < k → h k = 0) (k : Nat) : ∀ (f v : Nat → Nat), (∀ i, f i < n) → (∀ i, k + low ≤ i → f i = 0) → ∀ i, low ≤ i → (dvl q m d n h low k f v).1 i = 0 := by
  have w := hp.1
  have h2 := w.q2
  induction k with
  | zero => exact fun f v hf h0 i hi => h0 i (by omega)
  | succ k ih =>
    intro f v hf h0 i hi
    have hr : ∀ b, rinv q m n b < n := fun b => rinv_lt w.pos
    have htl : tu q m d (h low) k < n := tu_lt w (hh low)
    have hx : dv q m n (f (k + low)) (tu q m d (h low) k) < n := mu_lt w (hr _)
    refine ih (dvi q m d h f (dv q m n (f (k + low)) (tu q m d (h low) k)) k) _ (dvi_lt w hf hh _ k) (fun j hj => ?_) i hi
    show (if k ≤ j then cmb q (q - 1) 13 (f j) (mu q m (dv q m n (f (k + low)) (tu q m d (h low) k)) (tu q m d (h (j - k)) k)) else f j) = 0
    rw [if_pos (by omega)]
    by_cases c : j = k + low
    · rw [c, show k + low - k = low by omega, mu_dv hp (hf _) htl (tu_pos hp (by omega) (hh low))]
      exact cmb_self h2
    · have e0 : tu q m d 0 k = 0 := (tu_Ln w k).zero w
      rw [hz (j - k) (by omega), e0, mu_comm w hx w.pos, mu_0l h2, h0 j (by omega), cmb_0r h2 (Nat.pow_pos (by omega))]
theorem rl_led {f : Nat → Nat} : ∀ N, 1 ≤ rl f N → f (rl f N - 1) ≠ 0
  | 0, h => absurd h (by show ¬ 1 ≤ 0; omega)
  | N + 1, h => by
    have e : rl f (N + 1) = if f N = 0 then rl f N else N + 1 := rfl
    rw [e] at h ⊢
    by_cases c : f N = 0
    · rw [if_pos c] at h ⊢
      exact rl_led N h
    · rw [if_neg c, Nat.add_sub_cancel]
      exact c
theorem rem_hi (hp : Pw q m d n) {u f : Nat → Nat} (hu : Rma n u) (hf : ∀ k, f k < n) (hf0 : ∀ k, 25 ≤ k → f k = 0) {i : Nat} (hi : 7 ≤ i) : (dvd q m d n 25 f u).1 i = 0 := by
  have w := hp.1
  obtain ⟨u1, u2, u3⟩ := hu
  have hl := rl_le u 25
  have h8 : rl u 25 ≤ 8 := by
    apply Decidable.byContradiction
    intro z
    exact rl_led 25 u3 (u2 _ (by omega))
  rw [dvd_all w hf u3]
  refine rem_top hp u1 (low := rl u 25 - 1) (rl_led 25 u3) (fun k hk => ?_) _ f _ hf (fun j hj => hf0 j (by omega)) i (by omega)
  by_cases c : k < 25
  · exact rl_z 25 k (by omega) c
  · exact u2 k (by omega)
/-- of a sum with figures -/
theorem rem_lsm (w : Wd q m d n) {h : Nat → Nat} (hh : ∀ k, h k < n) (hL : 1 ≤ rl h 25) {x : Nat → Nat} {F : Nat → Nat → Nat} (hF : ∀ i k, F i k < n) (N : Nat) : ∀ i, (dvd q m d n 25 (fun j => lsm q x (fun k => F k j) N) h).1 i = lsm q x (fun k => (dvd q m d n 25 (F k) h).1 i) N := by
  have h2 := w.q2
  induction N with
  | zero =>
    intro i
    have h0 := rem_lin w hh (f := fun _ => 0) (g := fun _ => 0) (fun _ => w.pos) (fun _ => w.pos) hL i (q - 1)
    have e : (fun j : Nat => cmb q (q - 1) 13 0 0) = fun _ => 0 := funext fun _ => cmb_0r h2 (Nat.pow_pos (by omega))
    rw [e] at h0
    show (dvd q m d n 25 (fun _ => 0) h).1 i = 0
    rw [h0]
    exact cmb_self h2
  | succ N ih =>
    intro i
    show (dvd q m d n 25 (fun j => cmb q (x N) 13 (lsm q x (fun k => F k j) N) (F N j)) h).1 i = cmb q (x N) 13 (lsm q x (fun k => (dvd q m d n 25 (F k) h).1 i) N) ((dvd q m d n 25 (F N) h).1 i)
    rw [rem_lin w hh (fun j => lsm_lt w (fun k => hF k j) N) (hF N) hL, ih]
end RM2
