/-! the like of a module: coefficients scaled -/
section SCA
variable {q m d n : Nat}
/-- the k-th by s^(q^k - 1) -/
def sca (q m s : Nat) (f : Nat → Nat) : Nat → Nat := fun k => mu q m (f k) (gp q m s (q ^ k - 1))
theorem gp_mul (w : Wd q m d n) {s : Nat} (hs : s < n) (i : Nat) : ∀ j, mu q m (gp q m s i) (gp q m s j) = gp q m s (i + j) := fun j => by
  induction j with
  | zero => exact mu_1r w (gp_lt2 w hs i)
  | succ j ih =>
    have e : ∀ k, gp q m s (k + 1) = mu q m (gp q m s k) s := fun _ => rfl
    rw [e, show i + (j + 1) = i + j + 1 by omega, e, ← ih, mu_assoc w (gp_lt2 w hs i) (gp_lt2 w hs j) hs]
theorem gp_nz (hp : Pw q m d n) {s : Nat} (hs : s < n) (h1 : 1 ≤ s) : ∀ i, 1 ≤ gp q m s i
  | 0 => Nat.le_refl 1
  | i + 1 => mu_pos hp (gp_lt2 hp.1 hs i) hs (gp_nz hp hs h1 i) h1
theorem sca_lt (w : Wd q m d n) {s : Nat} (hs : s < n) {f : Nat → Nat} (k : Nat) : sca q m s f k < n := mu_lt w (gp_lt2 w hs _)
theorem sca_0 (hp : Pw q m d n) {s : Nat} (hs : s < n) (h1 : 1 ≤ s) {f : Nat → Nat} (hf : ∀ k, f k < n) (k : Nat) : sca q m s f k = 0 ↔ f k = 0 := by
  have w := hp.1
  refine ⟨fun h => ?_, fun h => ?_⟩
  · apply Decidable.byContradiction
    intro z
    have := mu_pos hp (hf k) (gp_lt2 w hs (q ^ k - 1)) (by omega) (gp_nz hp hs h1 _)
    unfold sca at h
    omega
  · unfold sca
    rw [h, mu_0l w.q2]
theorem ss_mulr (w : Wd q m d n) {t : Nat → Nat} {c : Nat} (hc : c < n) (ht : ∀ i, t i < n) : ∀ N, ss q (fun i => mu q m (t i) c) N = mu q m (ss q t N) c
  | 0 => (mu_0l w.q2 m c).symm
  | N + 1 => by
    show cmb q 1 13 (ss q (fun i => mu q m (t i) c) N) (mu q m (t N) c) = mu q m (cmb q 1 13 (ss q t N) (t N)) c
    rw [ss_mulr w hc ht N, mu_addL w (ss_ltn w ht N) (ht N) hc]
theorem ct_sca (hp : Pw q m d n) {s : Nat} (hs : s < n) {f h : Nat → Nat} (hf : ∀ k, f k < n) (hh : ∀ k, h k < n) (k i : Nat) : ct q m d (sca q m s f) (sca q m s h) k i = mu q m (ct q m d f h k i) (gp q m s (q ^ k - 1)) := by
  have w := hp.1
  have h2 := w.q2
  unfold ct
  by_cases c : i ≤ k
  · rw [if_pos c, if_pos c]
    have hg := fun j => gp_lt2 w hs j
    have ht : tu q m d (sca q m s h (k - i)) i = mu q m (tu q m d (h (k - i)) i) (gp q m s ((q ^ (k - i) - 1) * q ^ i)) := by
      unfold sca
      rw [tu_mul hp (hh _) (hg _), tu_gp hp hs]
    rw [ht]
    have hti : tu q m d (h (k - i)) i < n := tu_lt w (hh _)
    have he : (q ^ i - 1) + (q ^ (k - i) - 1) * q ^ i = q ^ k - 1 := by
      have e1 : q ^ (k - i) * q ^ i = q ^ k := by rw [← Nat.pow_add, Nat.sub_add_cancel c]
      have p1 : 0 < q ^ i := Nat.pow_pos (by omega)
      have p2 : 0 < q ^ (k - i) := Nat.pow_pos (by omega)
      rw [Nat.sub_mul, e1, Nat.one_mul]
      have : q ^ i ≤ q ^ k := Nat.pow_le_pow_right (by omega) c
      omega
    show mu q m (mu q m (f i) (gp q m s (q ^ i - 1))) (mu q m (tu q m d (h (k - i)) i) (gp q m s ((q ^ (k - i) - 1) * q ^ i))) = _
    rw [← he, ← gp_mul w hs]
    have hA := hg (q ^ i - 1)
    have hBn := hg ((q ^ (k - i) - 1) * q ^ i)
    generalize gp q m s (q ^ i - 1) = A at *
    generalize gp q m s ((q ^ (k - i) - 1) * q ^ i) = B at *
    rw [mu_assoc w (hf i) hA (mu_lt w hBn), ← mu_assoc w hA hti hBn, mu_comm w hA hti, mu_assoc w hti hA hBn, ← mu_assoc w (hf i) hti (mu_lt w hBn)]
  · rw [if_neg c, if_neg c, mu_0l h2]
theorem cv_sca (hp : Pw q m d n) {s : Nat} (hs : s < n) {f h : Nat → Nat} (hf : ∀ k, f k < n) (hh : ∀ k, h k < n) (k : Nat) : cv q m d (sca q m s f) (sca q m s h) k = sca q m s (cv q m d f h) k := by
  have w := hp.1
  have h2 := w.q2
  rw [cv_ss h2]
  show _ = mu q m (cv q m d f h k) (gp q m s (q ^ k - 1))
  rw [cv_ss h2, ss_ext (fun i _ => ct_sca hp hs hf hh k i)]
  exact ss_mulr w (gp_lt2 w hs _) (ct_lt w hh k) (k + 1)
theorem rl_alk {f g : Nat → Nat} : ∀ N, (∀ k, k < N → (f k = 0 ↔ g k = 0)) → rl f N = rl g N
  | 0, _ => rfl
  | N + 1, h => by
    show (if f N = 0 then rl f N else N + 1) = (if g N = 0 then rl g N else N + 1)
    have h1 := rl_alk N (fun k hk => h k (by omega))
    have h3 := h N (by omega)
    by_cases c : f N = 0
    · rw [if_pos c, if_pos (h3.mp c), h1]
    · rw [if_neg c, if_neg (fun z => c (h3.mpr z))]
theorem fns_same {f g : Nat → Nat} (h : ∀ k, f k = 0 ↔ g k = 0) : ∀ r i, fns f r i = fns g r i
  | 0, _ => rfl
  | r + 1, i => by
    show (if f i = 0 then fns f r (i + 1) else i) = (if g i = 0 then fns g r (i + 1) else i)
    by_cases c : f i = 0
    · rw [if_pos c, if_pos ((h i).mp c), fns_same h r (i + 1)]
    · rw [if_neg c, if_neg (fun z => c ((h i).mpr z))]
theorem trnl_sca (hp : Pw q m d n) {s : Nat} (hs : s < n) (h1 : 1 ≤ s) {g : Nat → Nat} (hg : ∀ k, g k < n) {a : Nat} (k : Nat) : ∀ f : Nat → Nat, (∀ k, f k < n) → (trnl q m d (sca q m s g) a k (sca q m s f)).1 = (trnl q m d g a k f).1 ∧ (trnl q m d (sca q m s g) a k (sca q m s f)).2 = sca q m s (trnl q m d g a k f).2 ∧ ∀ j, (trnl q m d g a k f).2 j < n := by
  have w := hp.1
  have h2 := w.q2
  have hqn := q_le_n w
  induction k with
  | zero => exact fun f hf => ⟨rfl, rfl, hf⟩
  | succ k ih =>
    intro f hf
    have e : ∀ g f : Nat → Nat, trnl q m d g a (k + 1) f = if 0 < rl f 25 ∧ 0 < rl g 25 ∧ 26 < rl f 25 + rl g 25 then (false, f) else trnl q m d g a k (up1 (cv q m d f g) 0 (cmb q 1 13 (cv q m d f g 0) (dg q a k))) := fun _ _ => rfl
    rw [e, e, rl_alk (f := sca q m s f) (g := f) 25 (fun k _ => sca_0 hp hs h1 hf k), rl_alk (f := sca q m s g) (g := g) 25 (fun k _ => sca_0 hp hs h1 hg k)]
    by_cases c : 0 < rl f 25 ∧ 0 < rl g 25 ∧ 26 < rl f 25 + rl g 25
    · rw [if_pos c, if_pos c]
      exact ⟨rfl, rfl, hf⟩
    · rw [if_neg c, if_neg c]
      have hcn : ∀ j, cv q m d f g j < n := cv_lt w hg
      have hd : dg q a k < n := Nat.lt_of_lt_of_le (dg_lt (by omega)) hqn
      have hun : ∀ j, up1 (cv q m d f g) 0 (cmb q 1 13 (cv q m d f g 0) (dg q a k)) j < n := fun j => by
        show (if j = 0 then cmb q 1 13 (cv q m d f g 0) (dg q a k) else cv q m d f g j) < n
        split
        · exact cmb_ltn w (hcn 0) hd
        · exact hcn j
      have hu : up1 (cv q m d (sca q m s f) (sca q m s g)) 0 (cmb q 1 13 (cv q m d (sca q m s f) (sca q m s g) 0) (dg q a k)) = sca q m s (up1 (cv q m d f g) 0 (cmb q 1 13 (cv q m d f g 0) (dg q a k))) := funext fun j => by
        have e0 : ∀ F : Nat → Nat, (∀ k, F k < n) → sca q m s F 0 = F 0 := fun F hF => by
          show mu q m (F 0) (gp q m s (q ^ 0 - 1)) = F 0
          rw [Nat.pow_zero, Nat.sub_self]
          exact mu_1r w (hF 0)
        by_cases c0 : j = 0
        · subst c0
          rw [e0 _ hun]
          show cmb q 1 13 (cv q m d (sca q m s f) (sca q m s g) 0) (dg q a k) = cmb q 1 13 (cv q m d f g 0) (dg q a k)
          rw [cv_sca hp hs hf hg, e0 _ hcn]
        · show (if j = 0 then _ else cv q m d (sca q m s f) (sca q m s g) j) = mu q m (if j = 0 then _ else cv q m d f g j) (gp q m s (q ^ j - 1))
          rw [if_neg c0, if_neg c0, cv_sca hp hs hf hg]
          rfl
      rw [hu]
      exact ih _ hun
theorem hgt_sca (hp : Pw q m d n) {s : Nat} (hs : s < n) (h1 : 1 ≤ s) {g : Nat → Nat} (hg : ∀ k, g k < n) (c : Nat) : hgt q m d (sca q m s g) c = hgt q m d g c := by
  have w := hp.1
  have e0 : sca q m s (fun _ => 0) = fun _ => 0 := funext fun k => mu_0l w.q2 m _
  obtain ⟨a1, a2, a3⟩ := trnl_sca hp hs h1 hg (a := c) (ln q 13 c) (fun _ => 0) (fun _ => w.pos)
  rw [e0] at a1 a2
  unfold hgt trn
  rw [a1, a2, fns_same (fun k => sca_0 hp hs h1 a3 k)]
end SCA
