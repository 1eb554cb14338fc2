/-! the characteristic -/
section CHA
variable {q m d n : Nat}
theorem dg_all (q v : Nat) : ∀ N, sg (fun k => dg q v k * q ^ k) N = v % q ^ N
  | 0 => by
    rw [Nat.pow_zero, Nat.mod_one]
    rfl
  | N + 1 => by
    show sg (fun k => dg q v k * q ^ k) N + dg q v N * q ^ N = v % q ^ (N + 1)
    rw [dg_all q v N, Nat.mod_pow_succ, Nat.mul_comm (q ^ N)]
    rfl
theorem cfr_top (w : Wd q m d n) {g : Nat} (hg : g < n) : ∀ e, cfr q m g e e = 1
  | 0 => rfl
  | e + 1 => by
    have h2 := w.q2
    have e1 : cfr q m g (e + 1) (e + 1) = cmb q (q - 1) 13 (cfr q m g e e) (mu q m (cfr q m g e (e + 1)) (itr (fun v => tby q v m) e g)) := rfl
    have hn := w.n2
    rw [e1, cfr_0 w hg e (e + 1) (by omega), mu_0l h2, cfr_top w hg e, cmb_0r h2 (w.lt13 (by omega))]
/-- the number of what hangs at the orbit's length -/
theorem chr_num (hp : Pw q m d n) {g : Nat} (hg : g < n) {t : Nat} (t1 : t < q ^ (orb q m d g + 1)) (t2 : dg q t (orb q m d g) = 1) (t3 : lsm q (dg q t) (gp q m g) (orb q m d g + 1) = 0) : t = mch q m d g := by
  have w := hp.1
  have h2 := w.q2
  have hd7 := w.d7
  obtain ⟨o1, o2, o3, o4⟩ := orb_is hp hg
  have hz := orb_zero hp hg
  have hfig := cfr_fig hp hg
  have htop := cfr_top w hg (orb q m d g)
  have hx : lsm q (fun i => (dg q t i + (q - 1) * cfr q m g (orb q m d g) i) % q) (gp q m g) (orb q m d g + 1) = 0 := by
    rw [← lsm_coef h2, t3, hz]
    exact cmb_0r h2 (Nat.pow_pos (by omega))
  have htz : (dg q t (orb q m d g) + (q - 1) * cfr q m g (orb q m d g) (orb q m d g)) % q = 0 := by
    rw [t2, htop, Nat.mul_one, show 1 + (q - 1) = q by omega, Nat.mod_self]
  have hx2 : lsm q (fun i => (dg q t i + (q - 1) * cfr q m g (orb q m d g) i) % q) (gp q m g) (orb q m d g) = 0 := by
    have h3 : cmb q ((dg q t (orb q m d g) + (q - 1) * cfr q m g (orb q m d g) (orb q m d g)) % q) 13 (lsm q (fun i => (dg q t i + (q - 1) * cfr q m g (orb q m d g) i) % q) (gp q m g) (orb q m d g)) (gp q m g (orb q m d g)) = 0 := hx
    rw [htz, cmb_0s w (lsm_lt w (gp_lt2 w hg) _)] at h3
    exact h3
  have hfree := orb_free hp hg (Nat.le_refl _) (x := fun i => (dg q t i + (q - 1) * cfr q m g (orb q m d g) i) % q) (fun i => Nat.mod_lt _ (by omega)) hx2
  have heq : ∀ i, i < orb q m d g + 1 → dg q t i = cfr q m g (orb q m d g) i := fun i hi => by
    by_cases c : i = orb q m d g
    · rw [c, t2, htop]
    · exact sub_dg h2 (dg_lt (by omega)) (hfig i) (hfree i (by omega))
  have e : mch q m d g = sg (fun k => cfr q m g (orb q m d g) k * q ^ k) (orb q m d g + 1) := rfl
  rw [e, ← sg_ext (f := fun k => dg q t k * q ^ k) (fun i hi => by rw [heq i hi]), dg_all, Nat.mod_eq_of_lt t1]
theorem chl_mch (hp : Pw q m d n) {g : Nat} (hg : g < n) : ∀ (r k : Nat) (S : TSt) (rw : Nat → Nat → Nat), r + k = d + 1 → k ≤ orb q m d g → (fun a => rw a 0) = S.2.1 → Tst q n (fun i => r1 (gp q m g i)) k S.1 rw → Ttg q (fun i => r1 (gp q m g i)) k S.1 rw S.2.2 → chl q m g r k (gp q m g k) S = some (mch q m d g) ∧ ln q 13 (mch q m d g) = orb q m d g + 1 ∧ mch q m d g < q ^ (d + 1) := by
  have w := hp.1
  have h2 := w.q2
  have hd7 := w.d7
  obtain ⟨o1, o2, o3, o4⟩ := orb_is hp hg
  have hU : ∀ i j, j < 7 → r1 (gp q m g i) j < n := fun i j _ => by
    show (if j = 0 then gp q m g i else 0) < n
    split
    · exact gp_lt2 w hg i
    · exact w.pos
  intro r
  induction r with
  | zero => exact fun k S rw hk hko => by omega
  | succ r ih =>
    intro k S rw hk hko hS hT hG
    have e1 : chl q m g (r + 1) k (gp q m g k) S = if (tS q S (gp q m g k) (q ^ k)).1 = 0 then some (tS q S (gp q m g k) (q ^ k)).2.1 else chl q m g r (k + 1) (gp q m g (k + 1)) (tS q S (gp q m g k) (q ^ k)).2.2 := rfl
    rw [e1]
    obtain ⟨s1, s2, s3⟩ := ties_step w (N := k) (tg := S.2.2) (t := q ^ k) hU hT
    obtain ⟨⟨t1, t2, t3⟩, t4⟩ := Ttg_step w hU (N := k) (by omega) hT.1 hG
    obtain ⟨a1, -, a5, -⟩ := ta_run w hT.1 (tg := S.2.2) 49 (r1 (gp q m g k)) (q ^ k) (Nat.le_refl _) (hU k) (fun k h1 h3 => by omega)
    rw [ta_49, ta_one 7 _ _ (Nat.le_refl _), hS] at s1 s2 s3 t1 t2 t3 t4 a1 a5
    dsimp only at s1 s2 s3 t1 t2 t3 t4 a1 a5
    by_cases c : (ta1 q S.1 S.2.1 S.2.2 7 (gp q m g k) (q ^ k)).1 = 0
    · have e3 : (tS q S (gp q m g k) (q ^ k)).1 = 0 := c
      have e4 : (tS q S (gp q m g k) (q ^ k)).2.1 = (ta1 q S.1 S.2.1 S.2.2 7 (gp q m g k) (q ^ k)).2.1 := rfl
      rw [if_pos e3, e4]
      have hz0 : Rq (r1 (ta1 q S.1 S.2.1 S.2.2 7 (gp q m g k) (q ^ k)).2.2) (fun _ => 0) := co_ext w a1 (fun _ _ => w.pos) (fun p hp1 => by
        rw [a5 c p hp1]
        exact (dg_zero ..).symm)
      have hZ := (t3 0 (by omega)).symm.trans (hz0 0 (by omega))
      generalize (ta1 q S.1 S.2.1 S.2.2 7 (gp q m g k) (q ^ k)).2.1 = t at *
      have hZ2 : lsm q (dg q t) (gp q m g) 13 = 0 := hZ
      rw [show 13 = k + 1 + (12 - k) by omega, lsm_more h2 (fun i hi => dg_of h2 t1 hi)] at hZ2
      have hke : k = orb q m d g := by
        apply Decidable.byContradiction
        intro z
        have := orb_free hp hg (N := k + 1) (by omega) (x := dg q t) (fun i => dg_lt (by omega)) hZ2 k (by omega)
        omega
      rw [hke] at t1 t2 hZ2
      have hm := chr_num hp hg t1 t2 hZ2
      rw [← hm]
      exact ⟨rfl, (Mn_of h2 (by omega) t1 t2).2, Nat.lt_of_lt_of_le t1 (Nat.pow_le_pow_right (by omega) (by omega))⟩
    · have e3 : ¬ (tS q S (gp q m g k) (q ^ k)).1 = 0 := c
      obtain ⟨p, hpp⟩ : ∃ p, (ta1 q S.1 S.2.1 S.2.2 7 (gp q m g k) (q ^ k)).1 = p + 1 := ⟨(ta1 q S.1 S.2.1 S.2.2 7 (gp q m g k) (q ^ k)).1 - 1, by omega⟩
      have hp7 : p < 7 := by
        have := ta1_le (q := q) (fl := S.1) (v := S.2.1) (tg := S.2.2) 7 (gp q m g k) (q ^ k)
        omega
      have hks : ksc q p (r1 (ta1 q S.1 S.2.1 S.2.2 7 (gp q m g k) (q ^ k)).2.2) = iv q (dg q (ta1 q S.1 S.2.1 S.2.2 7 (gp q m g k) (q ^ k)).2.2 p) := by
        unfold ksc
        rw [show p / 7 = 0 by omega, show p % 7 = p by omega]
        rfl
      have e5 : (tS q S (gp q m g k) (q ^ k)).2.2 = tSk q S p (ta1 q S.1 S.2.1 S.2.2 7 (gp q m g k) (q ^ k)).2.2 (ta1 q S.1 S.2.1 S.2.2 7 (gp q m g k) (q ^ k)).2.1 := by
        show (if (ta1 q S.1 S.2.1 S.2.2 7 (gp q m g k) (q ^ k)).1 = 0 then S else _) = _
        rw [if_neg c, hpp, Nat.add_sub_cancel]
      have hlt : k + 1 ≤ orb q m d g := by
        apply Decidable.byContradiction
        intro z
        have hke : k = orb q m d g := by omega
        apply c
        apply s1.mpr
        rw [hke]
        have hz := orb_zero hp hg
        have hfig := cfr_fig hp hg
        have htop := cfr_top w hg (orb q m d g)
        generalize orb q m d g = E at *
        have hL : Spn q (fun i => r1 (gp q m g i)) E (fun j => lsm q (cfr q m g E) (fun i => r1 (gp q m g i) j) E) := ⟨cfr q m g E, hfig, fun _ _ => rfl⟩
        refine ((Spn.zero w).add h2 hL).rq (rad_inv w (hU E) (hL.rn w hU) (fun p1 hp1 => ?_))
        show dg q (cmb q 1 13 (r1 (gp q m g E) (p1 / 7)) (lsm q (cfr q m g E) (fun i => r1 (gp q m g i) (p1 / 7)) E)) (p1 % 7) = 0
        by_cases c9 : p1 / 7 = 0
        · rw [c9]
          have h8 : cmb q (cfr q m g E E) 13 (lsm q (cfr q m g E) (gp q m g) E) (gp q m g E) = 0 := hz
          rw [htop, cmb_comm h2] at h8
          have h9 : cmb q 1 13 (r1 (gp q m g E) 0) (lsm q (cfr q m g E) (fun i => r1 (gp q m g i) 0) E) = 0 := h8
          rw [h9, dg_zero]
        · have r0 : ∀ v, r1 v (p1 / 7) = 0 := fun v => if_neg c9
          rw [r0, lsm_z w E (fun i _ => r0 _), cmb_0r h2 (Nat.pow_pos (by omega)), dg_zero]
      rw [if_neg e3, e5]
      have hkv : kv1 q S.2.2 p (ta1 q S.1 S.2.1 S.2.2 7 (gp q m g k) (q ^ k)).2.2 (ta1 q S.1 S.2.1 S.2.2 7 (gp q m g k) (q ^ k)).2.1 = ktg q S.2.2 p (ta1 q S.1 S.2.1 S.2.2 7 (gp q m g k) (q ^ k)).2.1 (r1 (ta1 q S.1 S.2.1 S.2.2 7 (gp q m g k) (q ^ k)).2.2) := funext fun x => by
        show (if x = p then _ else S.2.2 x) = (if x = p then cmb q (ksc q p (r1 (ta1 q S.1 S.2.1 S.2.2 7 (gp q m g k) (q ^ k)).2.2)) 13 0 _ else S.2.2 x)
        rw [hks]
      refine ih (k + 1) _ (krw q rw p (r1 (ta1 q S.1 S.2.1 S.2.2 7 (gp q m g k) (q ^ k)).2.2)) (by omega) hlt ?_ (s3 p hpp) ?_
      · funext x
        show (if x = p then cmb q (ksc q p (r1 (ta1 q S.1 S.2.1 S.2.2 7 (gp q m g k) (q ^ k)).2.2)) 13 0 (ta1 q S.1 S.2.1 S.2.2 7 (gp q m g k) (q ^ k)).2.2 else rw x 0) = (if x = p then cmb q (iv q (dg q (ta1 q S.1 S.2.1 S.2.2 7 (gp q m g k) (q ^ k)).2.2 p)) 13 0 (ta1 q S.1 S.2.1 S.2.2 7 (gp q m g k) (q ^ k)).2.2 else S.2.1 x)
        rw [hks, ← hS]
      · have h9 := t4 p hpp
        rw [← hkv] at h9
        exact h9
theorem chrOK : ChrOK := fun q m d n g0 hp hg => by
  obtain ⟨h1, h2, h3⟩ := chl_mch hp hg (d + 1) 0 tS0 (fun _ _ => 0) rfl (Nat.zero_le _) rfl (Tst_0 hp.1) (fun p _ hf => absurd hf Bool.false_ne_true)
  exact ⟨h1, h2, h3⟩
end CHA
