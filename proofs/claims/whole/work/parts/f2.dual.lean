/-! the dual -/
section DUA
variable {q m d n : Nat}
theorem rl_bd {f : Nat → Nat} {M : Nat} : ∀ N, (∀ k, M ≤ k → k < N → f k = 0) → rl f N ≤ M
  | 0, _ => Nat.zero_le _
  | N + 1, h => by
    have e : rl f (N + 1) = if f N = 0 then rl f N else N + 1 := rfl
    rw [e]
    by_cases c : f N = 0
    · rw [if_pos c]
      exact rl_bd N (fun k h1 h3 => h k h1 (by omega))
    · rw [if_neg c]
      apply Decidable.byContradiction
      intro z
      exact c (h N (by omega) (by omega))
theorem mdi_some {u g : Nat → Nat} {v0 : Nat} (h0 : rl (dvd q m d n 25 (trn q m d g v0).2 u).1 25 = 0) : ∀ r v, v ≤ v0 → v0 < v + r → (∀ v1, v ≤ v1 → v1 < v0 → ¬ rl (dvd q m d n 25 (trn q m d g v1).2 u).1 25 = 0) → mdi q m d n u g r v = some v0 := by
  intro r
  induction r with
  | zero => exact fun v h1 h3 _ => by omega
  | succ r ih =>
    intro v h1 h3 h4
    have e : mdi q m d n u g (r + 1) v = if rl (dvd q m d n 25 (trn q m d g v).2 u).1 25 = 0 then some v else mdi q m d n u g r (v + 1) := rfl
    rw [e]
    by_cases c : v = v0
    · rw [c, if_pos h0]
    · rw [if_neg (h4 v (Nat.le_refl _) (by omega))]
      exact ih (v + 1) (by omega) (by omega) (fun v1 a b => h4 v1 (by omega) b)
theorem mdi_none {u g : Nat → Nat} : ∀ r v, (∀ v1, v ≤ v1 → v1 < v + r → ¬ rl (dvd q m d n 25 (trn q m d g v1).2 u).1 25 = 0) → mdi q m d n u g r v = none := by
  intro r
  induction r with
  | zero => exact fun v _ => rfl
  | succ r ih =>
    intro v h4
    have e : mdi q m d n u g (r + 1) v = if rl (dvd q m d n 25 (trn q m d g v).2 u).1 25 = 0 then some v else mdi q m d n u g r (v + 1) := rfl
    rw [e, if_neg (h4 v (Nat.le_refl _) (by omega))]
    exact ih (v + 1) (fun v1 a b => h4 v1 (by omega) (by omega))
/-- what the i-th power leaves -/
def rpw (q m d n : Nat) (u g : Nat → Nat) (i : Nat) : Nat → Nat := (dvd q m d n 25 (gpw q m d g i) u).1
def Zro (q m d n : Nat) (u g : Nat → Nat) (v : Nat) : Prop := ∀ j, j < 7 → lsm q (dg q v) (fun i => rpw q m d n u g i j) 13 = 0
theorem zro_is (hp : Pw q m d n) {u g : Nat → Nat} (hu : Rma n u) (hg : Rmo n g) {v : Nat} (hv : v < q ^ 5) : rl (dvd q m d n 25 (trn q m d g v).2 u).1 25 = 0 ↔ Zro q m d n u g v := by
  have w := hp.1
  have h2 := w.q2
  obtain ⟨g1, g2, g3⟩ := hg
  have hg4 : rl g 25 ≤ 4 := rl_bd 25 (fun k h1 _ => g2 k h1)
  obtain ⟨D, hD⟩ : ∃ D, rl g 25 = D + 1 := ⟨rl g 25 - 1, by omega⟩
  have hv13 : v < q ^ 13 := Nat.lt_of_lt_of_le hv (Nat.pow_le_pow_right (by omega) (by omega))
  have hln : ln q 13 v ≤ 5 := ln_le_lt h2 hv
  have hgD : g D ≠ 0 := by
    have := rl_led 25 (f := g) (by omega)
    rw [hD, Nat.add_sub_cancel] at this
    exact this
  have hgz : ∀ i, D < i → g i = 0 := fun i hi => by
    by_cases c : i < 25
    · exact rl_z 25 i (by omega) c
    · exact g2 i (by omega)
  have hfit : D * (ln q 13 v - 1) ≤ 24 := by
    have : D * (ln q 13 v - 1) ≤ 3 * 4 := Nat.mul_le_mul (by omega) (by omega)
    omega
  have ht : (trn q m d g v).2 = fun k => lsm q (dg q v) (fun i => gpw q m d g i k) 13 := funext fun k => trn_Ac hp hv13 g1 (fun i hi => g2 i (by omega)) hD (by omega) hfit k
  have hr : ∀ j, (dvd q m d n 25 (trn q m d g v).2 u).1 j = lsm q (dg q v) (fun i => rpw q m d n u g i j) 13 := fun j => by
    rw [ht]
    exact rem_lsm w hu.1 hu.2.2 (gpw_lt w g1) 13 j
  have hlt : ∀ k, (trn q m d g v).2 k < n := fun k => by
    rw [ht]
    exact lsm_lt w (fun i => gpw_lt w g1 i k) 13
  have hhi : ∀ k, 25 ≤ k → (trn q m d g v).2 k = 0 := fun k hk => by
    rw [ht]
    show lsm q (dg q v) (fun i => gpw q m d g i k) 13 = 0
    rw [lsm_13 h2 hv13]
    refine lsm_z w _ (fun i hi => (gpw_deg hp g1 hgD hgz i).2 k ?_)
    have : i * D ≤ 4 * 3 := Nat.mul_le_mul (by omega) (by omega)
    omega
  refine ⟨fun h j hj => ?_, fun h => ?_⟩
  · rw [← hr j]
    exact rl_z 25 j (by omega) (by omega)
  · have := rl_bd (M := 0) (f := (dvd q m d n 25 (trn q m d g v).2 u).1) 25 (fun k _ hk => by
      by_cases c : k < 7
      · rw [hr k]
        exact h k c
      · exact rem_hi hp hu hlt hhi (by omega))
    omega
theorem sub_dg (h2 : 2 ≤ q) {a b : Nat} (ha : a < q) (hb : b < q) (h : (a + (q - 1) * b) % q = 0) : a = b := by
  have h1 : ((a + (q - 1) * b) + b) % q = b := by
    rw [Nat.add_mod, h, Nat.zero_add, Nat.mod_mod, Nat.mod_eq_of_lt hb]
  obtain ⟨Q, rfl⟩ : ∃ Q, q = Q + 1 := ⟨q - 1, by omega⟩
  rw [Nat.add_sub_cancel, show a + Q * b + b = a + b * (Q + 1) by rw [Nat.mul_add, Nat.mul_one, Nat.mul_comm b Q]; omega, Nat.add_mul_mod_self_right, Nat.mod_eq_of_lt ha] at h1
  exact h1
/-- between q^k and twice that -/
theorem monic_dg (h2 : 2 ≤ q) {k v : Nat} (h1 : q ^ k ≤ v) (h3 : v < q ^ k + q ^ k) : v < q ^ (k + 1) ∧ dg q v k = 1 := by
  have hp : 0 < q ^ k := Nat.pow_pos (by omega)
  have hle : q ^ k * 2 ≤ q ^ k * q := Nat.mul_le_mul_left _ h2
  refine ⟨by rw [Nat.pow_succ]; omega, ?_⟩
  unfold dg
  have : v / q ^ k = 1 := by
    rw [Nat.div_eq_iff hp]
    omega
  rw [this, Nat.mod_eq_of_lt (by omega)]
theorem dg_monic (h2 : 2 ≤ q) {k v : Nat} (h1 : v < q ^ (k + 1)) (h3 : dg q v k = 1) : q ^ k ≤ v ∧ v < q ^ k + q ^ k := by
  have hp : 0 < q ^ k := Nat.pow_pos (by omega)
  have hlt : v / q ^ k < q := by
    rw [Nat.div_lt_iff_lt_mul hp, Nat.mul_comm, ← Nat.pow_succ]
    exact h1
  have : v / q ^ k = 1 := by
    unfold dg at h3
    rw [Nat.mod_eq_of_lt hlt] at h3
    exact h3
  rw [Nat.div_eq_iff hp] at this
  omega
theorem zro_one (hp : Pw q m d n) {u g : Nat → Nat} (hu : Rma n u) (hg : Rmo n g) {k : Nat} (hk : k ≤ 4) (hfree : ∀ i, i < k → ¬ Spn q (rpw q m d n u g) i (rpw q m d n u g i)) {a b : Nat} (ha : a < q ^ (k + 1)) (hb : b < q ^ (k + 1)) (ha1 : dg q a k = 1) (hb1 : dg q b k = 1) (za : Zro q m d n u g a) (zb : Zro q m d n u g b) : a = b := by
  have w := hp.1
  have h2 := w.q2
  have hU : ∀ i j, j < 7 → rpw q m d n u g i j < n := fun i j _ => (dvd_lt w (gpw_lt w hg.1 i) hu.1).1 j
  have hx : ∀ j, j < 7 → lsm q (fun i => (dg q a i + (q - 1) * dg q b i) % q) (fun i => rpw q m d n u g i j) 13 = 0 := fun j hj => by
    rw [← lsm_coef h2, za j hj, zb j hj]
    exact cmb_0r h2 (Nat.pow_pos (by omega))
  have hz : ∀ i, k ≤ i → (dg q a i + (q - 1) * dg q b i) % q = 0 := fun i hi => by
    by_cases c : i = k
    · rw [c, ha1, hb1, Nat.mul_one, show 1 + (q - 1) = q by omega, Nat.mod_self]
    · rw [dg_of h2 ha (by omega), dg_of h2 hb (by omega), Nat.mul_zero, Nat.zero_mod]
  have h0 := free_0 w hU k hfree (fun i => (dg q a i + (q - 1) * dg q b i) % q) (fun i => Nat.mod_lt _ (by omega)) (fun j hj => by
    have := hx j hj
    rw [show 13 = k + (13 - k) by omega, lsm_more h2 hz] at this
    exact this)
  have up : ∀ v, v < q ^ (k + 1) → v < q ^ 13 := fun v hv => Nat.lt_of_lt_of_le hv (Nat.pow_le_pow_right (by omega) (by omega))
  refine dg_ext h2 (up a ha) (up b hb) (fun i hi => ?_)
  by_cases c : i < k
  · exact sub_dg h2 (dg_lt (by omega)) (dg_lt (by omega)) (h0 i c)
  · exact sub_dg h2 (dg_lt (by omega)) (dg_lt (by omega)) (hz i (by omega))
theorem dnl_mdo (hp : Pw q m d n) {u g : Nat → Nat} (hu : Rma n u) (hg : Rmo n g) : ∀ (r k : Nat) (S : TSf), r + k = 5 → Tst q n (rpw q m d n u g) k S.1 S.2.1 → Ttg q (rpw q m d n u g) k S.1 S.2.1 S.2.2 → (∀ i, i < k → ¬ Spn q (rpw q m d n u g) i (rpw q m d n u g i)) → dnl q m d n u g r k (gpw q m d g k) S = mdo q m d n u g r k := by
  have w := hp.1
  have h2 := w.q2
  have hU : ∀ i j, j < 7 → rpw q m d n u g i j < n := fun i j _ => (dvd_lt w (gpw_lt w hg.1 i) hu.1).1 j
  intro r
  induction r with
  | zero => exact fun k S _ _ _ _ => rfl
  | succ r ih =>
    intro k S hk hT hG hfree
    have e1 : dnl q m d n u g (r + 1) k (gpw q m d g k) S = if (tF q S (rpw q m d n u g k) (q ^ k)).1 = 0 then some (tF q S (rpw q m d n u g k) (q ^ k)).2.1 else
      if 0 < rl (gpw q m d g k) 25 ∧ 0 < rl g 25 ∧ 26 < rl (gpw q m d g k) 25 + rl g 25 then none else dnl q m d n u g r (k + 1) (gpw q m d g (k + 1)) (tF q S (rpw q m d n u g k) (q ^ k)).2.2 := rfl
    have e2 : mdo q m d n u g (r + 1) k = match mdi q m d n u g (q ^ k) (q ^ k) with
      | some v => some v
      | none => mdo q m d n u g r (k + 1) := rfl
    rw [e1, e2]
    obtain ⟨s1, s2, s3⟩ := ties_step w (N := k) (tg := S.2.2) (t := q ^ k) hU hT
    obtain ⟨⟨t1, t2, t3⟩, t4⟩ := Ttg_step w hU (N := k) (by omega) hT.1 hG
    obtain ⟨a1, -, a5, -⟩ := ta_run w hT.1 (tg := S.2.2) 49 (rpw q m d n u g k) (q ^ k) (Nat.le_refl _) (hU k) (fun k h1 h3 => by omega)
    have h5 : ∀ v, v < q ^ (k + 1) → v < q ^ 5 := fun v hv => Nat.lt_of_lt_of_le hv (Nat.pow_le_pow_right (by omega) (by omega))
    by_cases c : (ta q S.1 S.2.1 S.2.2 49 (rpw q m d n u g k) (q ^ k)).1 = 0
    · have e3 : (tF q S (rpw q m d n u g k) (q ^ k)).1 = 0 := c
      have e4 : (tF q S (rpw q m d n u g k) (q ^ k)).2.1 = (ta q S.1 S.2.1 S.2.2 49 (rpw q m d n u g k) (q ^ k)).2.1 := rfl
      rw [if_pos e3, e4]
      have hz0 : Rq (ta q S.1 S.2.1 S.2.2 49 (rpw q m d n u g k) (q ^ k)).2.2 (fun _ => 0) := co_ext w a1 (fun _ _ => w.pos) (fun p hp1 => by
        rw [a5 c p hp1]
        exact (dg_zero ..).symm)
      have hZ : Zro q m d n u g (ta q S.1 S.2.1 S.2.2 49 (rpw q m d n u g k) (q ^ k)).2.1 := fun j hj => by
        exact (t3 j hj).symm.trans (hz0 j hj)
      generalize (ta q S.1 S.2.1 S.2.2 49 (rpw q m d n u g k) (q ^ k)).2.1 = t at *
      obtain ⟨l1, l2⟩ := dg_monic h2 t1 t2
      rw [mdi_some ((zro_is hp hu hg (h5 _ t1)).mpr hZ) (q ^ k) (q ^ k) l1 l2 (fun v1 h6 h7 h8 => by
        obtain ⟨m1, m2⟩ := monic_dg h2 h6 (Nat.lt_trans h7 l2)
        have := zro_one hp hu hg (by omega) hfree m1 t1 m2 t2 ((zro_is hp hu hg (h5 _ m1)).mp h8) hZ
        omega)]
    · have e3 : ¬ (tF q S (rpw q m d n u g k) (q ^ k)).1 = 0 := c
      obtain ⟨p, hpp⟩ : ∃ p, (ta q S.1 S.2.1 S.2.2 49 (rpw q m d n u g k) (q ^ k)).1 = p + 1 := ⟨(ta q S.1 S.2.1 S.2.2 49 (rpw q m d n u g k) (q ^ k)).1 - 1, by omega⟩
      have hfree1 : ∀ i, i < k + 1 → ¬ Spn q (rpw q m d n u g) i (rpw q m d n u g i) := fun i hi => by
        by_cases z : i = k
        · rw [z]
          exact fun y => c (s1.mpr y)
        · exact hfree i (by omega)
      have hno : mdi q m d n u g (q ^ k) (q ^ k) = none := mdi_none _ _ (fun v1 h6 h7 h8 => by
        obtain ⟨m1, m2⟩ := monic_dg h2 h6 h7
        have hZ := (zro_is hp hu hg (h5 _ m1)).mp h8
        have := free_0 w hU (k + 1) hfree1 (dg q v1) (fun i => dg_lt (by omega)) (fun j hj => by
          have h9 := hZ j hj
          rw [show 13 = k + 1 + (12 - k) by omega, lsm_more h2 (fun i hi => dg_of h2 m1 hi)] at h9
          exact h9) k (by omega)
        omega)
      rw [if_neg e3, hno]
      obtain ⟨g1, g2, g3⟩ := hg
      have hg4 : rl g 25 ≤ 4 := rl_bd 25 (fun k h1 _ => g2 k h1)
      obtain ⟨D, hD⟩ : ∃ D, rl g 25 = D + 1 := ⟨rl g 25 - 1, by omega⟩
      have hgD : g D ≠ 0 := by
        have := rl_led 25 (f := g) (by omega)
        rw [hD, Nat.add_sub_cancel] at this
        exact this
      have hgz : ∀ i, D < i → g i = 0 := fun i hi => by
        by_cases c : i < 25
        · exact rl_z 25 i (by omega) c
        · exact g2 i (by omega)
      have hk13 : rl (gpw q m d g k) 25 ≤ 13 := rl_bd 25 (fun i h1 _ => (gpw_deg hp g1 hgD hgz k).2 i (by
        have : k * D ≤ 4 * 3 := Nat.mul_le_mul (by omega) (by omega)
        omega))
      rw [if_neg (by omega)]
      have e5 : (tF q S (rpw q m d n u g k) (q ^ k)).2.2 = (kfl S.1 p, krw q S.2.1 p (ta q S.1 S.2.1 S.2.2 49 (rpw q m d n u g k) (q ^ k)).2.2, ktg q S.2.2 p (ta q S.1 S.2.1 S.2.2 49 (rpw q m d n u g k) (q ^ k)).2.1 (ta q S.1 S.2.1 S.2.2 49 (rpw q m d n u g k) (q ^ k)).2.2) := by
        show (if (ta q S.1 S.2.1 S.2.2 49 (rpw q m d n u g k) (q ^ k)).1 = 0 then S else _) = _
        rw [if_neg c, hpp, Nat.add_sub_cancel]
      rw [e5]
      exact ih (k + 1) _ (by omega) (s3 p hpp) (t4 p hpp) hfree1
theorem dualOK : DualOK := fun q m d n u g hp hu hg => dnl_mdo hp hu hg 5 0 tF0 rfl (Tst_0 hp.1) (fun p _ hf => absurd hf Bool.false_ne_true) (fun i hi => absurd hi (Nat.not_lt_zero _))
end DUA
