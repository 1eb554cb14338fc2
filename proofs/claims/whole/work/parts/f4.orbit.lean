/-! powers of g with figures: none shorter than the orbit is nothing -/
section ORF
variable {q m d n : Nat}
theorem tby_1 (hp : Pw q m d n) : tby q 1 m = 1 := by
  have hn := hp.1.n2
  have := tu_one hp 1
  rw [tu_itr hp (by omega) 1] at this
  exact this
theorem tby_gpy (hp : Pw q m d n) {y : Nat} (hy : y < n) (i : Nat) : tby q (gp q m y i) m = gp q m (tby q y m) i := by
  have w := hp.1
  induction i with
  | zero => exact tby_1 hp
  | succ i ih =>
    have e : ∀ z, gp q m z (i + 1) = mu q m (gp q m z i) z := fun _ => rfl
    rw [e, e, tby_mul w (gp_lt2 w hy i) hy, ih]
theorem mu_Ln (w : Wd q m d n) {y : Nat} (hy : y < n) : Ln q n (fun v => mu q m y v) := Ln.of w (fun a ha => mu_lt w ha) (fun a b ha hb => mu_addR w ha hb hy)
theorem lsm_head (w : Wd q m d n) {h t : Nat → Nat} (ht : ∀ k, t k < n) (N : Nat) : lsm q h t (N + 1) = cmb q 1 13 (cmb q (h 0) 13 0 (t 0)) (lsm q (fun i => h (i + 1)) (fun i => t (i + 1)) N) := by
  have h2 := w.q2
  induction N with
  | zero =>
    show cmb q (h 0) 13 0 (t 0) = cmb q 1 13 (cmb q (h 0) 13 0 (t 0)) 0
    rw [cmb_0r h2 (cmb_lt _ h2 13 _ _)]
  | succ N ih =>
    show cmb q (h (N + 1)) 13 (lsm q h t (N + 1)) (t (N + 1)) = cmb q 1 13 (cmb q (h 0) 13 0 (t 0)) (cmb q (h (N + 1)) 13 (lsm q (fun i => h (i + 1)) (fun i => t (i + 1)) N) (t (N + 1)))
    rw [ih, cmb_in h2, Nat.one_mul]
def llk {n : Nat} (x : Nat → Nat) (hx : ∀ i, x i < n) : Nat → Nat → List (KT n)
  | 0, _ => []
  | N + 1, o => kt (hx o) :: llk x hx N (o + 1)
theorem llk_len {x : Nat → Nat} {hx : ∀ i, x i < n} : ∀ N o, (llk x hx N o).length = N
  | 0, _ => rfl
  | N + 1, o => by
    show (llk x hx N (o + 1)).length + 1 = N + 1
    rw [llk_len N (o + 1)]
theorem llk_mem {x : Nat → Nat} {hx : ∀ i, x i < n} : ∀ N o i, i < N → kt (hx (o + i)) ∈ llk x hx N o
  | 0, _, _, h => absurd h (Nat.not_lt_zero _)
  | N + 1, o, i, h => by
    show kt (hx (o + i)) ∈ kt (hx o) :: llk x hx N (o + 1)
    cases i with
    | zero => exact List.mem_cons_self ..
    | succ i =>
      have h1 := llk_mem (x := x) (hx := hx) N (o + 1) i (by omega)
      have e : o + 1 + i = o + (i + 1) := by omega
      have h3 : (kt (hx (o + 1 + i)) : KT n) = kt (hx (o + (i + 1))) := Subtype.ext (by show x (o + 1 + i) = x (o + (i + 1)); rw [e])
      rw [← h3]
      exact List.mem_cons_of_mem _ h1
theorem ev_lsm (w : Wd q m d n) {x : Nat → Nat} {hx : ∀ i, x i < n} (hxq : ∀ i, x i < q) {y : Nat} (hy : y < n) (N : Nat) : ∀ o, letI := kR w; (evL2 (kt hy) (llk x hx N o)).1 = lsm q (fun i => x (o + i)) (gp q m y) N := by
  have h2 := w.q2
  letI := kR w
  induction N with
  | zero => exact fun o => rfl
  | succ N ih =>
    intro o
    have e : (evL2 (kt hy) (llk x hx (N + 1) o)).1 = cmb q 1 13 (x o) (mu q m y (evL2 (kt hy) (llk x hx N (o + 1))).1) := rfl
    rw [e, ih (o + 1), lsm_head w (gp_lt2 w hy) N]
    have e0 : cmb q (x (o + 0)) 13 0 (gp q m y 0) = x o := by
      have : gp q m y 0 = 1 := rfl
      rw [this, Nat.add_zero, cmb_fig h2 (by omega) (by omega), Nat.zero_add, Nat.mul_one, Nat.mod_eq_of_lt (hxq o)]
    have e1 : mu q m y (lsm q (fun i => x (o + 1 + i)) (gp q m y) N) = lsm q (fun i => x (o + 1 + i)) (fun i => mu q m y (gp q m y i)) N := lsm_Ln w (mu_Ln w hy) (gp_lt2 w hy) N
    have e2 : lsm q (fun i => x (o + 1 + i)) (fun i => mu q m y (gp q m y i)) N = lsm q (fun i => x (o + (i + 1))) (fun i => gp q m y (i + 1)) N := lsm_ext (fun i _ => by rw [show o + 1 + i = o + (i + 1) by omega]) (fun i _ => mu_comm w hy (gp_lt2 w hy i))
    rw [e0, e1, e2]
theorem ev_frob (hp : Pw q m d n) {x : Nat → Nat} {y : Nat} (hy : y < n) {N : Nat} (h : lsm q x (gp q m y) N = 0) : lsm q x (gp q m (tby q y m)) N = 0 := by
  have w := hp.1
  have h1 : tby q (lsm q x (gp q m y) N) m = lsm q x (fun i => tby q (gp q m y i) m) N := lsm_Ln w (tby_Ln w) (gp_lt2 w hy) N
  rw [h, (tby_Ln w).zero w] at h1
  rw [h1]
  exact lsm_ext (fun _ _ => rfl) (fun i _ => (tby_gpy hp hy i).symm)
theorem orb_inj (hp : Pw q m d n) {g : Nat} (hg : g < n) : ∀ i j, i < orb q m d g → j < orb q m d g → itr (fun v => tby q v m) i g = itr (fun v => tby q v m) j g → i = j := by
  have w := hp.1
  obtain ⟨o1, o2, o3, o4⟩ := orb_is hp hg
  have half : ∀ i j, i < j → j < orb q m d g → itr (fun v => tby q v m) i g ≠ itr (fun v => tby q v m) j g := fun i j hij hj h => by
    have h1 := congrArg (itr (fun v => tby q v m) (d - i)) h
    rw [← itr_add, ← itr_add, show i + (d - i) = d by omega, show j + (d - i) = d + (j - i) by omega, itr_add _ _ (j - i) d, itr_d hp hg] at h1
    exact o4 (j - i) (by omega) (by omega) h1.symm
  intro i j hi hj h
  apply Decidable.byContradiction
  intro z
  by_cases c : i < j
  · exact half i j c hj h
  · exact half j i (by omega) hi h.symm
/-- the powers below the orbit's length are free -/
theorem orb_free (hp : Pw q m d n) {g : Nat} (hg : g < n) {N : Nat} (hN : N ≤ orb q m d g) {x : Nat → Nat} (hx : ∀ i, x i < q) (h : lsm q x (gp q m g) N = 0) : ∀ i, i < N → x i = 0 := by
  have w := hp.1
  have hqn := q_le_n w
  have hit : ∀ j, itr (fun v => tby q v m) j g < n := fun j => (itr_Ln (tby_Ln w) j).1 g hg
  have hz : ∀ j, lsm q x (gp q m (itr (fun v => tby q v m) j g)) N = 0 := fun j => by
    induction j with
    | zero => exact h
    | succ j ih =>
      rw [itr_suc (fun v => tby q v m) j g]
      exact ev_frob hp (hit j) ih
  have hxn : ∀ i, x i < n := fun i => Nat.lt_of_lt_of_le (hx i) hqn
  letI := kR w
  intro i hi
  have key := roots_le (R := KT n) (fun a b hab => k_nzd hp a b hab) N (llk x hxn N 0) (fun j => kt (hit j)) (llk_len N 0) (fun j hj => by
    apply Subtype.ext
    have h1 := ev_lsm w (x := x) (hx := hxn) hx (hit j) N 0
    rw [h1]
    show lsm q (fun i => x (0 + i)) _ N = 0
    have e : (fun i => x (0 + i)) = x := funext fun i => by rw [Nat.zero_add]
    rw [e]
    exact hz j) (fun a b ha hb hab => orb_inj hp hg a b (by omega) (by omega) (congrArg Subtype.val hab))
  have h2 := key _ (llk_mem (x := x) (hx := hxn) N 0 i hi)
  have h3 : x (0 + i) = 0 := congrArg Subtype.val h2
  rw [Nat.zero_add] at h3
  exact h3
end ORF
