/-! the map that x makes -/
section MA2
variable {q m d n : Nat}
theorem fig_can (hq : q = 2 ∨ q = 3 ∨ q = 5) {s t a : Nat} (hs : s < q) (ht : t < q) (ha : a < q) (h0 : a ≠ 0) (h : s * a % q = t * a % q) : s = t := by
  have hi := iv_mul hq ha h0
  have e : ∀ u, u < q → u * a % q * iv q a % q = u := fun u hu => by
    rw [Nat.mod_mul_mod, Nat.mul_assoc, Nat.mul_mod, hi, Nat.mul_one, Nat.mod_mod, Nat.mod_eq_of_lt hu]
  rw [← e s hs, h, e t ht]
theorem cmb_can (w : Wd q m d n) {s t y : Nat} (hs : s < q) (ht : t < q) (hy : y < n) (h0 : y ≠ 0) (h : cmb q s 13 0 y = cmb q t 13 0 y) : s = t := by
  have h2 := w.q2
  have hy13 := w.lt13 hy
  have hex : ∃ k, k < 13 ∧ dg q y k ≠ 0 := by
    apply Decidable.byContradiction
    intro z
    apply h0
    refine dg_ext h2 hy13 (Nat.pow_pos (by omega)) (fun k hk => ?_)
    rw [dg_zero]
    apply Decidable.byContradiction
    intro z1
    exact z ⟨k, hk, z1⟩
  obtain ⟨k, hk, hk0⟩ := hex
  have h1 := congrArg (fun v => dg q v k) h
  have e : ∀ u, dg q (cmb q u 13 0 y) k = u * dg q y k % q := fun u => by
    rw [cmb_dg _ h2, if_pos hk, dg_zero, Nat.zero_add]
  have h3 : dg q (cmb q s 13 0 y) k = dg q (cmb q t 13 0 y) k := h1
  rw [e, e] at h3
  exact fig_can w.hq hs ht (dg_lt (by omega)) hk0 h3
theorem cmb_neg (w : Wd q m d n) {a : Nat} (ha : a < n) : cmb q 1 13 (cmb q (q - 1) 13 0 a) a = 0 := by
  rw [cmb_swap w.q2, cmb_one w.q2 (w.lt13 ha)]
  exact cmb_self w.q2
theorem lsm_z (w : Wd q m d n) {h t : Nat → Nat} : ∀ N, (∀ j, j < N → t j = 0) → lsm q h t N = 0
  | 0, _ => rfl
  | N + 1, hz => by
    show cmb q (h N) 13 (lsm q h t N) (t N) = 0
    rw [lsm_z w N (fun j hj => hz j (by omega)), hz N (by omega), cmb_0r w.q2 (Nat.pow_pos (by have := w.q2; omega))]
theorem mdr_next (hp : Pw q m d n) {g : Nat → Nat} {x : Nat} (hx : x < n) {i : Nat} (k : Nat) : mdr q m d g x (i + 1) k = cmb q 1 13 (mu q m (wyr q m (mdv q m d g x i) 0) (mdr q m d g x i k)) (if k = 0 then 0 else tu q m d (mdr q m d g x i (k - 1)) 1) := by
  have w := hp.1
  have h2 := w.q2
  obtain ⟨a1, a2, a3⟩ := mdr_ok hp (g := g) hx i
  show cv q m d (wyr q m (mdv q m d g x i)) (mdr q m d g x i) k = _
  rw [cv_top2 w (a := 2) (fun j hj => by
    unfold wyr
    rw [if_neg (by omega), if_neg (by omega)])]
  show cmb q 1 13 (cmb q 1 13 0 (ct q m d (wyr q m (mdv q m d g x i)) (mdr q m d g x i) k 0)) (ct q m d (wyr q m (mdv q m d g x i)) (mdr q m d g x i) k 1) = _
  have c0 : ct q m d (wyr q m (mdv q m d g x i)) (mdr q m d g x i) k 0 = mu q m (wyr q m (mdv q m d g x i) 0) (mdr q m d g x i k) := by
    unfold ct
    rw [if_pos (Nat.zero_le _), Nat.sub_zero, tu_0i]
  have c1 : ct q m d (wyr q m (mdv q m d g x i)) (mdr q m d g x i) k 1 = if k = 0 then 0 else tu q m d (mdr q m d g x i (k - 1)) 1 := by
    unfold ct
    by_cases z : k = 0
    · rw [if_neg (by omega), if_pos z]
    · rw [if_pos (by omega), if_neg z]
      have e1 : wyr q m (mdv q m d g x i) 1 = 1 := rfl
      rw [e1, mu_1l w (tu_lt w (a1 _))]
  rw [c0, c1, cmb_one h2 (w.lt13 (mu_lt w (a1 k)))]
/-- values of the next: y^q less y^(q-1) times it -/
theorem mdr_val (hp : Pw q m d n) {g : Nat → Nat} {x v : Nat} (hx : x < n) (hv : v < n) {i : Nat} (hi : i ≤ 20) : vl q m d (mdr q m d g x (i + 1)) v = cmb q 1 13 (mu q m (wyr q m (mdv q m d g x i) 0) (vl q m d (mdr q m d g x i) v)) (tby q (vl q m d (mdr q m d g x i) v) m) := by
  have w := hp.1
  have h2 := w.q2
  obtain ⟨a1, a2, a3⟩ := mdr_ok hp (g := g) hx i
  have hy : mdv q m d g x i < n := vl_lt w (by
    have : ∀ k z, z < n → itr (vl q m d g) k z < n := fun k => by
      induction k with
      | zero => exact fun z hz => hz
      | succ k ih => exact fun z hz => ih _ (vl_lt w hz)
    exact this i x hx)
  have hw := wyr_lt (m := m) w hy
  have e : ∀ k, mdr q m d g x (i + 1) k = cmb q 1 13 (mu q m (wyr q m (mdv q m d g x i) 0) (mdr q m d g x i k)) (if k = 0 then 0 else tu q m d (mdr q m d g x i (k - 1)) 1) := fun k => mdr_next hp hx k
  have hup : ∀ k, (if k = 0 then 0 else tu q m d (mdr q m d g x i (k - 1)) 1) < n := fun k => by
    split
    · exact w.pos
    · exact tu_lt w (a1 _)
  have hfe : mdr q m d g x (i + 1) = fun k => cmb q 1 13 (mu q m (wyr q m (mdv q m d g x i) 0) (mdr q m d g x i k)) (if k = 0 then 0 else tu q m d (mdr q m d g x i (k - 1)) 1) := funext e
  rw [hfe]
  unfold vl
  rw [vls_addf w hv (fun k => mu_lt w (a1 k)) hup 25, vls_mulf w hv (hw 0) a1 25]
  have h24 : vls q m d (mdr q m d g x i) v 24 = vls q m d (mdr q m d g x i) v 25 := (vls_ext w hv (by omega) (fun k hk => a2 k (by omega))).symm
  rw [vls_up hp hv a1 24, h24]
theorem itr_vl_lt (w : Wd q m d n) {g : Nat → Nat} {x : Nat} (hx : x < n) (k : Nat) : itr (vl q m d g) k x < n := by
  have : ∀ k z, z < n → itr (vl q m d g) k z < n := fun k => by
    induction k with
    | zero => exact fun z hz => hz
    | succ k ih => exact fun z hz => ih _ (vl_lt w hz)
  exact this k x hx
/-- it sends to 0 all that came before -/
theorem mdr_ker (hp : Pw q m d n) {g : Nat → Nat} {x : Nat} (hx : x < n) (i : Nat) : i ≤ 20 → ∀ j, j < i → vl q m d (mdr q m d g x i) (itr (vl q m d g) j x) = 0 := by
  induction i with
  | zero => exact fun _ j hj => absurd hj (Nat.not_lt_zero _)
  | succ i ih =>
    intro hi j hj
    have w := hp.1
    have h2 := w.q2
    have hv := itr_vl_lt (g := g) w hx j
    rw [mdr_val hp hx hv (by omega)]
    by_cases c : j = i
    · subst c
      have hy : mdv q m d g x j < n := vl_lt w hv
      have e : vl q m d (mdr q m d g x j) (itr (vl q m d g) j x) = mdv q m d g x j := rfl
      rw [e]
      have e1 : wyr q m (mdv q m d g x j) 0 = cmb q (q - 1) 13 0 (gp q m (mdv q m d g x j) (q - 1)) := rfl
      rw [e1, tby_gp1 w hy]
      have hg := gp_lt2 w hy (q - 1)
      rw [← mu_addL w (cmb_ltn w w.pos hg) hg hy]
      rw [cmb_neg w hg]
      exact mu_0l h2 m _
    · rw [ih (by omega) j (by omega)]
      have hy : mdv q m d g x i < n := vl_lt w (itr_vl_lt (g := g) w hx i)
      rw [(tby_Ln w).zero w, mu_comm w (wyr_lt (m := m) w hy 0) w.pos, mu_0l h2, cmb_0r h2 (Nat.pow_pos (by omega))]
theorem mdr_free (hp : Pw q m d n) {g : Nat → Nat} {x : Nat} (hx : x < n) (N : Nat) : N ≤ 20 → (∀ i, i < N → mdv q m d g x i ≠ 0) → ∀ h h1 : Nat → Nat, (∀ j, h j < q) → (∀ j, h1 j < q) → lsm q h (fun i => itr (vl q m d g) i x) N = lsm q h1 (fun i => itr (vl q m d g) i x) N → ∀ j, j < N → h j = h1 j := by
  induction N with
  | zero => exact fun _ _ h h1 _ _ _ j hj => absurd hj (Nat.not_lt_zero _)
  | succ N ih =>
    intro hN hne h h1 hh hh1 he j hj
    have w := hp.1
    have h2 := w.q2
    have ht := itr_vl_lt (g := g) w hx
    obtain ⟨a1, a2, a3⟩ := mdr_ok hp (g := g) hx N
    have hL := vl_Ln w a1
    have hx0 : ∀ u : Nat → Nat, vl q m d (mdr q m d g x N) (lsm q u (fun i => itr (vl q m d g) i x) (N + 1)) = cmb q (u N) 13 0 (mdv q m d g x N) := fun u => by
      show vl q m d (mdr q m d g x N) (cmb q (u N) 13 (lsm q u (fun i => itr (vl q m d g) i x) N) (itr (vl q m d g) N x)) = _
      rw [hL.2 _ _ _ (lsm_lt w ht N) (ht N), lsm_Ln w hL ht, lsm_z w N (fun j hj => mdr_ker hp hx N (by omega) j hj)]
      rfl
    have key : h N = h1 N := by
      have h3 := congrArg (vl q m d (mdr q m d g x N)) he
      rw [hx0, hx0] at h3
      exact cmb_can w (hh N) (hh1 N) (vl_lt w (ht N)) (hne N (by omega)) h3
    have he1 : cmb q (h N) 13 (lsm q h (fun i => itr (vl q m d g) i x) N) (itr (vl q m d g) N x) = cmb q (h1 N) 13 (lsm q h1 (fun i => itr (vl q m d g) i x) N) (itr (vl q m d g) N x) := he
    rw [key] at he1
    have he2 : lsm q h (fun i => itr (vl q m d g) i x) N = lsm q h1 (fun i => itr (vl q m d g) i x) N := by
      have hle : h1 N ≤ q := Nat.le_of_lt (hh1 N)
      rw [← cmb_undo h2 (lsm_lt13 h2 h _ N) hle (B := itr (vl q m d g) N x), he1, cmb_undo h2 (lsm_lt13 h2 h1 _ N) hle]
    by_cases c : j = N
    · rw [c]
      exact key
    · exact ih (by omega) (fun i hi => hne i (by omega)) h h1 hh hh1 he2 j (by omega)
/-- it ends in d steps -/
theorem mdv_ends (hp : Pw q m d n) {g : Nat → Nat} {x : Nat} (hx : x < n) : ∃ k, k ≤ d ∧ mdv q m d g x k = 0 ∧ ∀ i, i < k → mdv q m d g x i ≠ 0 := by
  have w := hp.1
  have h2 := w.q2
  have hd7 := w.d7
  have hex : ∃ k, k ≤ d ∧ mdv q m d g x k = 0 := by
    apply Decidable.byContradiction
    intro z
    have hne : ∀ i, i < d + 1 → mdv q m d g x i ≠ 0 := fun i hi z1 => z ⟨i, by omega, z1⟩
    have hdl : ∀ c j, dg q c j < q := fun c j => dg_lt (by omega)
    have h13 : q ^ (d + 1) ≤ q ^ 13 := Nat.pow_le_pow_right (by omega) (by omega)
    have key := pigeon n (q ^ (d + 1)) (fun c => lsm q (dg q c) (fun i => itr (vl q m d g) i x) (d + 1)) (fun c hc => lsm_lt w (itr_vl_lt (g := g) w hx) (d + 1)) (fun c c1 hc hc1 he => by
      have hj := mdr_free hp hx (d + 1) (by omega) hne (dg q c) (dg q c1) (hdl c) (hdl c1) he
      refine dg_ext h2 (Nat.lt_of_lt_of_le hc h13) (Nat.lt_of_lt_of_le hc1 h13) (fun k hk => ?_)
      by_cases c2 : k < d + 1
      · exact hj k c2
      · have e : ∀ u, u < q ^ (d + 1) → dg q u k = 0 := fun u hu => by
          unfold dg
          rw [Nat.div_eq_of_lt (Nat.lt_of_lt_of_le hu (Nat.pow_le_pow_right (by omega) (by omega))), Nat.zero_mod]
        rw [e c hc, e c1 hc1])
    rw [w.nq, Nat.pow_succ] at key
    have hpos : 0 < q ^ d := Nat.pow_pos (by omega)
    have : q ^ d * 2 ≤ q ^ d * q := Nat.mul_le_mul_left _ h2
    omega
  obtain ⟨k0, hk0, hz0⟩ := hex
  have least : ∀ N, (∃ k, k ≤ N ∧ k ≤ d ∧ mdv q m d g x k = 0) → ∃ k, k ≤ d ∧ mdv q m d g x k = 0 ∧ ∀ i, i < k → mdv q m d g x i ≠ 0 := fun N => by
    induction N with
    | zero =>
      rintro ⟨k, a, b, c⟩
      have : k = 0 := by omega
      subst this
      exact ⟨0, b, c, fun i hi => absurd hi (Nat.not_lt_zero _)⟩
    | succ N ih =>
      rintro ⟨k, a, b, c⟩
      by_cases c1 : ∃ k, k ≤ N ∧ k ≤ d ∧ mdv q m d g x k = 0
      · exact ih c1
      · exact ⟨k, b, c, fun i hi z => c1 ⟨i, by omega, by omega, z⟩⟩
  exact least k0 ⟨k0, Nat.le_refl _, hk0, hz0⟩
/-- step by step the class's -/
theorem mks_mdr (hp : Pw q m d n) {g : Nat → Nat} {x : Nat} (hx : x < n) {i : Nat} (hi : i ≤ 20) (h0 : mdv q m d g x i ≠ 0) : mks q m d (mdr q m d g x i) (dv q m n (tu q m d (mdv q m d g x i) 1) (mdv q m d g x i)) (i + 1) = mdr q m d g x (i + 1) := by
  have w := hp.1
  have h2 := w.q2
  obtain ⟨a1, a2, a3⟩ := mdr_ok hp (g := g) hx i
  have hy : mdv q m d g x i < n := vl_lt w (itr_vl_lt (g := g) w hx i)
  have hg := gp_lt2 w hy (q - 1)
  have hr : rinv q m n (mdv q m d g x i) < n := rinv_lt w.pos
  have hs : dv q m n (tu q m d (mdv q m d g x i) 1) (mdv q m d g x i) = gp q m (mdv q m d g x i) (q - 1) := by
    unfold dv
    have e1 : tu q m d (mdv q m d g x i) 1 = tby q (mdv q m d g x i) m := by rw [tu_itr hp hy 1]; rfl
    rw [e1, tby_gp1 w hy, mu_assoc w hg hy hr, mu_rinv hp hy (by omega), mu_1r w hg]
  rw [hs]
  funext k
  have e : mdr q m d g x (i + 1) k = cmb q 1 13 (mu q m (wyr q m (mdv q m d g x i) 0) (mdr q m d g x i k)) (if k = 0 then 0 else tu q m d (mdr q m d g x i (k - 1)) 1) := mdr_next hp hx k
  rw [e]
  unfold mks
  have e1 : wyr q m (mdv q m d g x i) 0 = cmb q (q - 1) 13 0 (gp q m (mdv q m d g x i) (q - 1)) := rfl
  rw [e1]
  have neg : ∀ a b, a < n → b < n → mu q m (cmb q (q - 1) 13 0 a) b = cmb q (q - 1) 13 0 (mu q m a b) := fun a b ha hb => congrArg Subtype.val ((kt_ok w).ngml ⟨a, ha⟩ ⟨b, hb⟩)
  by_cases c : k ≤ i + 1
  · rw [if_pos c, neg _ _ hg (a1 k), cmb_swap h2, cmb_one h2]
    split
    · exact Nat.pow_pos (by omega)
    · exact w.lt13 (tu_lt w (a1 _))
  · rw [if_neg c, a2 k (by omega), if_neg (by omega), a2 (k - 1) (by omega), mu_comm w (cmb_ltn w w.pos hg) w.pos, mu_0l h2]
    have : tu q m d 0 1 = 0 := (tu_Ln w 1).zero w
    rw [this, cmb_0r h2 (Nat.pow_pos (by omega))]
theorem madeOK : MadeOK := fun q m d n g x hp hg hx => by
  have w := hp.1
  have hd7 := w.d7
  obtain ⟨k, k1, k2, k3⟩ := mdv_ends hp (g := g) hx
  refine ⟨k, k1, k2, k3, ?_⟩
  have run : ∀ r i, i ≤ k → k ≤ i + r → r + i = d → mkl q m d n g r (i + 1) (itr (vl q m d g) i x) (mdr q m d g x i) = mdr q m d g x k := by
    intro r
    induction r with
    | zero =>
      intro i h1 h2 h3
      have : i = k := by omega
      subst this
      rfl
    | succ r ih =>
      intro i h1 h2 h3
      have e : mkl q m d n g (r + 1) (i + 1) (itr (vl q m d g) i x) (mdr q m d g x i) = if mdv q m d g x i = 0 then mdr q m d g x i else mkl q m d n g r (i + 1 + 1) (vl q m d g (itr (vl q m d g) i x)) (mks q m d (mdr q m d g x i) (dv q m n (tu q m d (mdv q m d g x i) 1) (mdv q m d g x i)) (i + 1)) := rfl
      rw [e]
      by_cases c : mdv q m d g x i = 0
      · rw [if_pos c]
        have : i = k := by
          apply Decidable.byContradiction
          intro z
          exact k3 i (by omega) c
        rw [this]
      · rw [if_neg c, mks_mdr hp hx (by omega) c, ← itr_suc (vl q m d g) i x]
        have hne : i ≠ k := fun z => c (by rw [z]; exact k2)
        exact ih (i + 1) (by omega) (by omega) (by omega)
  exact (run d 0 (Nat.zero_le _) (by omega) rfl).symm
end MA2
