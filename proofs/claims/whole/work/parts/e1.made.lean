/-! counting: no more than there is room -/
theorem pigeon : ∀ (M N : Nat) (f : Nat → Nat), (∀ i, i < N → f i < M) → (∀ i j, i < N → j < N → f i = f j → i = j) → N ≤ M
  | 0, N, f, h, _ => by
    cases N with
    | zero => exact Nat.le_refl _
    | succ N => exact absurd (h 0 (by omega)) (Nat.not_lt_zero _)
  | M + 1, N, f, h, hi => by
    by_cases c : ∃ i0, i0 < N ∧ f i0 = M
    · obtain ⟨i0, a1, a2⟩ := c
      have key := pigeon M (N - 1) (fun i => f (if i < i0 then i else i + 1)) (fun i hi1 => by
        show f (if i < i0 then i else i + 1) < M
        have l : (if i < i0 then i else i + 1) < N := by split <;> omega
        have h1 := h _ l
        have h2 : f (if i < i0 then i else i + 1) ≠ M := fun z => by
          have h3 := hi _ i0 l a1 (z.trans a2.symm)
          split at h3 <;> omega
        omega) (fun i j hi1 hj1 z => by
        have l1 : (if i < i0 then i else i + 1) < N := by split <;> omega
        have l2 : (if j < i0 then j else j + 1) < N := by split <;> omega
        have h3 := hi _ _ l1 l2 z
        split at h3 <;> split at h3 <;> omega)
      omega
    · have key := pigeon M N f (fun i hi1 => by
        have h1 := h i hi1
        have h2 : f i ≠ M := fun z => c ⟨i, hi1, z⟩
        omega) hi
      omega
section MAD
variable {q m d n : Nat}
theorem mu_addL (w : Wd q m d n) {a b c : Nat} (ha : a < n) (hb : b < n) (hc : c < n) : mu q m (cmb q 1 13 a b) c = cmb q 1 13 (mu q m a c) (mu q m b c) := by
  letI := kR w
  have h : (kt ha + kt hb) * kt hc = kt ha * kt hc + kt hb * kt hc := by grind
  exact congrArg Subtype.val h
theorem mu_addR (w : Wd q m d n) {a b c : Nat} (ha : a < n) (hb : b < n) (hc : c < n) : mu q m c (cmb q 1 13 a b) = cmb q 1 13 (mu q m c a) (mu q m c b) := by
  letI := kR w
  have h : kt hc * (kt ha + kt hb) = kt hc * kt ha + kt hc * kt hb := by grind
  exact congrArg Subtype.val h
theorem add_4 (w : Wd q m d n) {a b c e : Nat} : cmb q 1 13 (cmb q 1 13 a b) (cmb q 1 13 c e) = cmb q 1 13 (cmb q 1 13 a c) (cmb q 1 13 b e) := cmb_lin w.q2
theorem k_gp (w : Wd q m d n) {y : Nat} (hy : y < n) (i : Nat) : letI := kR w; ((kt hy) ^ i).1 = gp q m y i := by
  letI := kR w
  induction i with
  | zero => rfl
  | succ i ih =>
    have e : ((kt hy) ^ (i + 1)).1 = mu q m ((kt hy) ^ i).1 y := rfl
    rw [e, ih]
    rfl
theorem tby_gp1 (w : Wd q m d n) {y : Nat} (hy : y < n) : tby q y m = mu q m (gp q m y (q - 1)) y := by
  have h2 := w.q2
  have h1 := k_tby w (kt hy)
  have h3 := k_gp w hy q
  rw [h1] at h3
  have e : gp q m y q = mu q m (gp q m y (q - 1)) y := by
    obtain ⟨r, rfl⟩ : ∃ r, q = r + 1 := ⟨q - 1, by omega⟩
    rfl
  rw [← e]
  exact h3
theorem gp_lt2 (w : Wd q m d n) {y : Nat} (hy : y < n) : ∀ i, gp q m y i < n
  | 0 => by have := w.n2; show 1 < n; omega
  | i + 1 => mu_lt w hy
/-- a value of a sum, of a multiple, of what is moved up -/
theorem vls_addf (w : Wd q m d n) {f h : Nat → Nat} {v : Nat} (hv : v < n) (hf : ∀ k, f k < n) (hh : ∀ k, h k < n) : ∀ N, vls q m d (fun k => cmb q 1 13 (f k) (h k)) v N = cmb q 1 13 (vls q m d f v N) (vls q m d h v N)
  | 0 => by
    show 0 = cmb q 1 13 0 0
    rw [cmb_0r w.q2 (Nat.pow_pos (by have := w.q2; omega))]
  | N + 1 => by
    show cmb q 1 13 (vls q m d (fun k => cmb q 1 13 (f k) (h k)) v N) (mu q m (cmb q 1 13 (f N) (h N)) (tu q m d v N)) = cmb q 1 13 (cmb q 1 13 (vls q m d f v N) (mu q m (f N) (tu q m d v N))) (cmb q 1 13 (vls q m d h v N) (mu q m (h N) (tu q m d v N)))
    have ht := tu_lt (i := N) w hv
    rw [vls_addf w hv hf hh N, mu_addL w (hf N) (hh N) ht, add_4 w]
theorem vls_mulf (w : Wd q m d n) {f : Nat → Nat} {v c : Nat} (hv : v < n) (hc : c < n) (hf : ∀ k, f k < n) : ∀ N, vls q m d (fun k => mu q m c (f k)) v N = mu q m c (vls q m d f v N)
  | 0 => by
    show 0 = mu q m c 0
    rw [mu_comm w hc w.pos]
    exact (mu_0l w.q2 m c).symm
  | N + 1 => by
    show cmb q 1 13 (vls q m d (fun k => mu q m c (f k)) v N) (mu q m (mu q m c (f N)) (tu q m d v N)) = mu q m c (cmb q 1 13 (vls q m d f v N) (mu q m (f N) (tu q m d v N)))
    have ht := tu_lt (i := N) w hv
    rw [vls_mulf w hv hc hf N, mu_addR w (vls_lt w hv N) (mu_lt w ht) hc, mu_assoc w hc (hf N) ht]
theorem vls_up (hp : Pw q m d n) {f : Nat → Nat} {v : Nat} (hv : v < n) (hf : ∀ k, f k < n) : ∀ N, vls q m d (fun k => if k = 0 then 0 else tu q m d (f (k - 1)) 1) v (N + 1) = tby q (vls q m d f v N) m
  | 0 => by
    have w := hp.1
    show cmb q 1 13 0 (mu q m 0 (tu q m d v 0)) = tby q 0 m
    rw [mu_0l w.q2, cmb_0r w.q2 (Nat.pow_pos (by have := w.q2; omega)), (tby_Ln w).zero w]
  | N + 1 => by
    have w := hp.1
    have ht := tu_lt (i := N) w hv
    show cmb q 1 13 (vls q m d (fun k => if k = 0 then 0 else tu q m d (f (k - 1)) 1) v (N + 1)) (mu q m (tu q m d (f N) 1) (tu q m d v (N + 1))) = tby q (cmb q 1 13 (vls q m d f v N) (mu q m (f N) (tu q m d v N))) m
    rw [vls_up hp hv hf N, tby_add w (vls_lt w hv N) (mu_lt w ht), tby_mul w (hf N) ht, tby_tu hp hv, tu_itr hp (hf N) 1]
    rfl
end MAD
