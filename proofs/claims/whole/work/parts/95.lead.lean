/-! degrees of products of rows -/
theorem mu_pos {q m d n a b : Nat} (hp : Pw q m d n) (ha : a < n) (hb : b < n) (h1 : 1 ≤ a) (h2 : 1 ≤ b) : 1 ≤ mu q m a b := by
  have w := hp.1
  have hn2 := w.n2
  have hr := rinv_lt (q := q) (m := m) (b := b) (show 0 < n by omega)
  rcases Nat.eq_zero_or_pos (mu q m a b) with z | z
  · have e := mu_assoc w ha hb hr
    rw [z, mu_0l w.q2, mu_rinv hp hb h2, mu_1r w ha] at e
    omega
  · exact z
theorem ss_none {q : Nat} (h2 : 2 ≤ q) {t : Nat → Nat} : ∀ {n : Nat}, (∀ i, i < n → t i = 0) → ss q t n = 0
  | 0, _ => rfl
  | n + 1, h => by
    show cmb q 1 13 (ss q t n) (t n) = 0
    rw [ss_none h2 (fun i hi => h i (by omega)), h n (by omega), cmb_zero 1 h2]
theorem ss_single {q : Nat} (h2 : 2 ≤ q) {t : Nat → Nat} {j : Nat} (hj : t j < q ^ 13) : ∀ {n : Nat}, j < n → (∀ i, i < n → i ≠ j → t i = 0) → ss q t n = t j
  | 0, h, _ => absurd h (by omega)
  | n + 1, h, hz => by
    show cmb q 1 13 (ss q t n) (t n) = t j
    by_cases c : j = n
    · subst c
      rw [ss_none h2 (fun i hi => hz i (by omega) (by omega)), cmb_one h2 hj]
    · rw [ss_single h2 hj (show j < n by omega) (fun i hi hne => hz i (by omega) hne), hz n (by omega) (fun z => c z.symm), cmb_0r h2 hj]
theorem rl_is {f : Nat → Nat} {k : Nat} (hk : f k ≠ 0) : ∀ {N : Nat}, k < N → (∀ i, k < i → i < N → f i = 0) → rl f N = k + 1
  | 0, h, _ => absurd h (by omega)
  | N + 1, h, hz => by
    unfold rl
    by_cases c : k = N
    · subst c
      rw [if_neg hk]
    · rw [if_pos (hz N (by omega) (by omega))]
      exact rl_is hk (by omega) (fun i h1 h3 => hz i h1 (by omega))
theorem cv_lead {q m d n : Nat} (hp : Pw q m d n) {f h : Nat → Nat} (hf : ∀ k, f k < n) (hh : ∀ k, h k < n) {F L : Nat} (hfF : f F ≠ 0) (hhL : h L ≠ 0) (hf0 : ∀ k, F < k → f k = 0) (hh0 : ∀ k, L < k → h k = 0) :
    cv q m d f h (F + L) ≠ 0 ∧ ∀ k, F + L < k → cv q m d f h k = 0 := by
  have w := hp.1
  have h2 := w.q2
  refine ⟨?_, fun k hk => cv_top w (F := F + 1) (L := L + 1) (fun k hk => hf0 k (by omega)) (fun k hk => hh0 k (by omega)) (by omega)⟩
  have e1 : ct q m d f h (F + L) F = mu q m (f F) (tu q m d (h L) F) := by
    unfold ct
    rw [if_pos (by omega), show F + L - F = L by omega]
  rw [cv_ss h2, ss_single h2 (j := F) (w.lt13 (ct_lt w hh _ _)) (by omega) (fun i hi hne => ?_), e1]
  · have hL1 : 1 ≤ h L := by omega
    have := mu_pos hp (hf F) (tu_lt w (i := F) (hh L)) (by omega) (tu_pos hp hL1 (hh L))
    omega
  · unfold ct
    rw [if_pos (by omega)]
    rcases Nat.lt_or_ge i F with c | c
    · rw [hh0 _ (by omega), tu_0 h2, mu_0r h2]
    · rw [hf0 i (by omega), mu_0l h2]
