/-! columns that hang on those before: as rows -/
section DPS
variable {q m d n : Nat}
theorem lsm_0 (h2 : 2 ≤ q) {t : Nat → Nat} : ∀ N, lsm q (fun _ => 0) t N = 0 := fun N => by
  refine dg_ext h2 (lsm_lt13 h2 _ _ _) (Nat.pow_pos (by omega)) (fun k hk => ?_)
  rw [lsm_dg h2 _ _ hk, dg_zero, sg_zeros N (fun i _ => Nat.zero_mul _), Nat.zero_mod]
theorem dep_spn (w : Wd q m d n) {u : Nat → Nat → Nat} (hu : ∀ i j, j < 7 → u i j < n) {R C : Nat} {M : TBt} (H : ∀ x : Nat → Nat, (∀ k, x k < q) → ((∀ i, i < R → rzo q C (M i) x) ↔ ∀ c, c < 7 → lsm q x (fun k => u k c) C = 0)) {j : Nat} (hj : j < C) : dpn q R C M j ↔ Spn q u j (u j) := by
  have h2 := w.q2
  obtain ⟨r, hr⟩ : ∃ r, C = j + 1 + r := ⟨C - (j + 1), by omega⟩
  refine ⟨fun ⟨x, x1, x2, x3, x4⟩ => ?_, fun ⟨y, y1, y2⟩ => ?_⟩
  · have h0 := (H x x1).mp x4
    have hL : Spn q u j (fun c => lsm q x (fun k => u k c) j) := ⟨x, x1, fun c _ => rfl⟩
    have hz : ∀ c, c < 7 → cmb q 1 13 (lsm q x (fun k => u k c) j) (u j c) = 0 := fun c hc => by
      have h3 := h0 c hc
      rw [hr, lsm_more h2 (k := j + 1) (fun k hk => x3 k (by omega)) r] at h3
      have h4 : cmb q (x j) 13 (lsm q x (fun k => u k c) j) (u j c) = 0 := h3
      rw [x2] at h4
      exact h4
    refine ((Spn.zero w).add h2 hL).rq (rad_inv w (hu j) (hL.rn w hu) (fun k hk => ?_))
    show dg q (cmb q 1 13 (u j (k / 7)) (lsm q x (fun i => u i (k / 7)) j)) (k % 7) = 0
    rw [cmb_comm h2, hz (k / 7) (by omega), dg_zero]
  · have hq1 : q - 1 < q := by omega
    refine ⟨fun k => if k < j then (0 + (q - 1) * y k) % q else if k = j then 1 else 0, fun k => ?_, ?_, fun k hk => ?_, ?_⟩
    · show (if k < j then (0 + (q - 1) * y k) % q else if k = j then 1 else 0) < q
      split
      · exact Nat.mod_lt _ (by omega)
      · split <;> omega
    · show (if j < j then _ else if j = j then 1 else 0) = 1
      rw [if_neg (Nat.lt_irrefl _), if_pos rfl]
    · show (if k < j then _ else if k = j then 1 else 0) = 0
      rw [if_neg (by omega), if_neg (by omega)]
    · refine (H _ (fun k => ?_)).mpr (fun c hc => ?_)
      · show (if k < j then (0 + (q - 1) * y k) % q else if k = j then 1 else 0) < q
        split
        · exact Nat.mod_lt _ (by omega)
        · split <;> omega
      · rw [hr, lsm_more h2 (k := j + 1) (fun k hk => by rw [if_neg (by omega), if_neg (by omega)]) r]
        show cmb q (if j < j then (0 + (q - 1) * y j) % q else if j = j then 1 else 0) 13 (lsm q (fun k => if k < j then (0 + (q - 1) * y k) % q else if k = j then 1 else 0) (fun k => u k c) j) (u j c) = 0
        rw [if_neg (Nat.lt_irrefl _), if_pos rfl]
        have e : lsm q (fun k => if k < j then (0 + (q - 1) * y k) % q else if k = j then 1 else 0) (fun k => u k c) j = lsm q (fun k => (0 + (q - 1) * y k) % q) (fun k => u k c) j := lsm_ext (fun i hi => if_pos hi) (fun _ _ => rfl)
        rw [e, ← lsm_coef h2 (x := fun _ => 0) (y := y) (t := fun k => u k c) (s := q - 1) j, lsm_0 h2, ← y2 c hc]
        exact cmb_neg w (hu j c hc)
end DPS
