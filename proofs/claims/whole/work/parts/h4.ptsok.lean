/-! the points: PtsOK -/
section PT3
variable {q m d n : Nat}
/-- the table as figures, nothing below it -/
theorem Wd.q0 (w : Wd q m d n) : 0 < q := by
  have := w.q2
  omega
def HK (w : Wd q m d n) (H : TBt) (i j : Nat) : KT q := if i < d then kt (Nat.mod_lt (H i j) w.q0) else kt w.q0
/-- a row of rests as a row of the ring's -/
def kB {n : Nat} {b : Nat → Nat} (hb : ∀ i, b i < n) (i : Nat) : KT n := kt (hb i)
theorem hk_in (w : Wd q m d n) {H : TBt} {i j : Nat} (hi : i < d) : (HK w H i j).1 = H i j % q := by
  exact congrArg Subtype.val (if_pos (c := i < d) (t := (kt (Nat.mod_lt (H i j) w.q0) : KT q)) (e := (kt w.q0 : KT q)) hi)
theorem hk_out (w : Wd q m d n) {H : TBt} {i j : Nat} (hi : ¬ i < d) : letI := kR (wd_q w); HK w H i j = 0 := by
  exact if_neg (c := i < d) (t := (kt (Nat.mod_lt (H i j) w.q0) : KT q)) (e := (kt w.q0 : KT q)) hi
theorem hbs_of (w : Wd q m d n) {f : Nat → Nat} (hf : Ln q n f) {H : TBt} {b : Nat → Nat} (hb : Bss q n d f H b) (hH : ∀ i j, i < d → j < d → H i j < q) (hz : ∀ i j, i < d → j < d → j + 1 < i → H i j = 0) : letI := kR (wd_q w); letI := kR w; HBs (fgm w) (lnm hf) (kB hb.1) (HK w H) d := by
  letI iq := kR (wd_q w)
  letI ik := kR w
  have h2 := w.q2
  have hL := fgm_Lop w hf
  obtain ⟨b1, b2, b3⟩ := hb
  refine ⟨fun j hj => Subtype.ext ?_, fun j hj => hk_out w (by omega), fun j hj s hs => ?_⟩
  · have e : fgm w (HK w H (j + 1) j) * kB b1 (j + 1) + lnc (fgm w) (fun i => HK w H i j) (kB b1) (j + 1) = lnc (fgm w) (fun i => HK w H i j) (kB b1) (j + 2) := by
      show _ = lnc (fgm w) (fun i => HK w H i j) (kB b1) (j + 1) + fgm w (HK w H (j + 1) j) * kB b1 (j + 1)
      generalize lnc (fgm w) (fun i => HK w H i j) (kB b1) (j + 1) = A
      grind
    rw [e, lnc_val w]
    show f (b j) = lsm q (fun i => (HK w H i j).1) b (j + 2)
    have hz1 : ∀ i, d ≤ i → (HK w H i j).1 = 0 := fun i hi => congrArg Subtype.val (hk_out w (by omega))
    have hz2 : ∀ i, j + 2 ≤ i → (HK w H i j).1 = 0 := fun i hi => by
      by_cases c : i < d
      · rw [hk_in w c, hz i j c hj (by omega), Nat.zero_mod]
      · exact hz1 i (by omega)
    have e1 : lsm q (fun i => H i j) b d = lsm q (fun i => (HK w H i j).1) b d := lsm_ext (fun i hi => by
      rw [hk_in w hi, Nat.mod_eq_of_lt (hH i j hi hj)]) (fun _ _ => rfl)
    rw [b3 j hj, e1]
    by_cases c : j + 2 ≤ d
    · have := lsm_more h2 (t := b) hz2 (d - (j + 2))
      rw [show j + 2 + (d - (j + 2)) = d by omega] at this
      exact this
    · have := lsm_more h2 (t := b) hz1 (j + 2 - d)
      rw [show d + (j + 2 - d) = j + 2 by omega] at this
      exact this.symm
  · obtain ⟨c, hc⟩ := sp_lnc j _ hs
    have e0 : lnc (fgm w) (fun i => if i < j then c i else -s) (kB b1) (j + 1) = 0 := by
      have e : ∀ k, k ≤ j → lnc (fgm w) (fun i => if i < j then c i else -s) (kB b1) k = lnc (fgm w) c (kB b1) k := fun k => by
        induction k with
        | zero => exact fun _ => rfl
        | succ k ih1 =>
          intro hk
          show lnc (fgm w) (fun i => if i < j then c i else -s) (kB b1) k + fgm w (if k < j then c k else -s) * kB b1 k = lnc (fgm w) c (kB b1) k + fgm w (c k) * kB b1 k
          rw [ih1 (by omega), if_pos (by omega)]
      show lnc (fgm w) (fun i => if i < j then c i else -s) (kB b1) j + fgm w (if j < j then c j else -s) * kB b1 j = 0
      rw [e j (Nat.le_refl _), if_neg (by omega), ← hc, hL.pn]
      generalize fgm w s = B
      generalize kB b1 j = C
      grind
    have e1 := lnc_val w (fun i => if i < j then c i else -s) (kB b1) (j + 1)
    rw [e0] at e1
    have e2 : lsm q (fun i => if i < j + 1 then (if i < j then c i else -s : KT q).1 else 0) b d = 0 := by
      have e3 := lsm_more h2 (h := fun i => if i < j + 1 then (if i < j then c i else -s : KT q).1 else 0) (t := b) (k := j + 1) (fun i hi => if_neg (by omega)) (d - (j + 1))
      rw [show j + 1 + (d - (j + 1)) = d by omega] at e3
      rw [e3]
      have e4 : lsm q (fun i => if i < j + 1 then (if i < j then c i else -s : KT q).1 else 0) b (j + 1) = lsm q (fun i => (if i < j then c i else -s : KT q).1) b (j + 1) := lsm_ext (fun i hi => if_pos hi) (fun _ _ => rfl)
      rw [e4]
      exact e1.symm
    have h5 := b2 _ e2 j hj
    rw [if_pos (by omega), if_neg (by omega), Nat.mod_eq_of_lt (-s).2] at h5
    have h6 : -s = 0 := Subtype.ext h5
    grind
/-- a basis reaches all -/
theorem bss_all (w : Wd q m d n) {f : Nat → Nat} {H : TBt} {b : Nat → Nat} (hb : Bss q n d f H b) {y : Nat} (hy : y < n) : ∃ c : Nat → Nat, (∀ i, c i < q) ∧ lsm q c b d = y := by
  have h2 := w.q2
  have hd7 := w.d7
  obtain ⟨b1, b2, b3⟩ := hb
  have inj : ∀ i j, i < n → j < n → lsm q (dg q i) b d = lsm q (dg q j) b d → i = j := fun i j hi hj e => by
    have e1 : lsm q (fun k => (dg q i k + (q - 1) * dg q j k) % q) b d = 0 := by
      rw [← lsm_coef h2, e]
      exact cmb_self h2
    have e3 := b2 _ e1
    refine dg_ext h2 (w.lt13 hi) (w.lt13 hj) (fun k hk => ?_)
    by_cases c : k < d
    · have := e3 k c
      rw [Nat.mod_mod] at this
      exact sub_dg h2 (dg_lt h2) (dg_lt h2) this
    · rw [w.nq] at hi hj
      rw [dg_of h2 hi (by omega), dg_of h2 hj (by omega)]
  apply Classical.byContradiction
  intro c
  have hne : ∀ i, lsm q (dg q i) b d ≠ y := fun i e => c ⟨dg q i, fun k => dg_lt h2, e⟩
  have hp := pigeon n (n + 1) (fun i => if i < n then lsm q (dg q i) b d else y) (fun i _ => by
    show (if i < n then lsm q (dg q i) b d else y) < n
    split
    · exact lsm_lt w b1 d
    · exact hy) (fun i j hi hj e => by
    have e : (if i < n then lsm q (dg q i) b d else y) = (if j < n then lsm q (dg q j) b d else y) := e
    by_cases ci : i < n
    · by_cases cj : j < n
      · rw [if_pos ci, if_pos cj] at e
        exact inj i j ci cj e
      · rw [if_pos ci, if_neg cj] at e
        exact absurd e (hne i)
    · by_cases cj : j < n
      · rw [if_neg ci, if_pos cj] at e
        exact absurd e.symm (hne j)
      · omega)
  omega
theorem hes_at {H : TBt} (i : Nat) : ∀ r, hes q H (i + r) i = hes q H i i := fun r => by
  induction r with
  | zero => rfl
  | succ r ih =>
    have e : hes q H (i + (r + 1)) i = up1 (hes q H (i + r)) (i + r + 1) (hst q H (hes q H (i + r)) (i + r)) i := rfl
    rw [e]
    unfold up1
    rw [if_neg (by omega)]
    exact ih
theorem hes_ij {H : TBt} {i N D : Nat} (h1 : i ≤ N) (h2 : i ≤ D) : hes q H N i = hes q H D i := by
  have e1 := hes_at (q := q) (H := H) i (N - i)
  have e2 := hes_at (q := q) (H := H) i (D - i)
  rw [show i + (N - i) = N by omega] at e1
  rw [show i + (D - i) = D by omega] at e2
  rw [e1, e2]
theorem fhs_of (w : Wd q m d n) {H : TBt} (hH : ∀ i j, i < d → j < d → H i j < q) : letI := kR (wd_q w); Fhs (HK w H) (fun i => Pn w (hes q H d i)) d := by
  letI iq := kR (wd_q w)
  letI := plR (KT q)
  have wq := wd_q w
  have h2 := w.q2
  have hd7 := w.d7
  -- minus a figure
  have hneg : ∀ (y : KT q) (hy : (q - y.1) % q < q), (kt hy : KT q) = -y := fun y hy => by
    have e : (kt hy : KT q) + y = 0 := Subtype.ext (by
      show cmb q 1 13 ((q - y.1) % q) y.1 = 0
      rw [cmb_fig h2 hy y.2, Nat.one_mul, Nat.mod_add_mod, show q - y.1 + y.1 = q by have := y.2; omega, Nat.mod_self])
    grind
  have hmn : ∀ (y : KT q) (v : PL (KT q)), mnm (-y) 0 * v = -(mnm y 0 * v) := fun y v => pl_ext (fun k => by
    rw [mnm_mul, pl_neg, mnm_mul, if_pos (Nat.zero_le _), if_pos (Nat.zero_le _)]
    grind)
  have hcm : ∀ (s : Nat) (y : KT q), s = q - y.1 → ∀ a b, Pn w (cmb q (s % q) 13 a b) = Pn w a + -(mnm y 0 * Pn w b) := fun s y hs a b => by
    have hs1 : (q - y.1) % q < q := Nat.mod_lt _ w.q0
    rw [hs, ← hmn, ← hneg y hs1]
    exact pn_cmb w (kt hs1) a b
  refine ⟨?_, fun N hN => ?_⟩
  · have e : hes q H d 0 = 1 := (hes_ij (N := d) (D := 0) (Nat.zero_le _) (Nat.le_refl _)).trans rfl
    show Pn w (hes q H d 0) = 1
    rw [e]
    exact pn_1 w
  · have key : ∀ k, k ≤ N → ∀ (b v : Nat) (hb : b < q), Pn w (hin q H (hes q H N) N k b v) = hip (HK w H) (fun i => Pn w (hes q H d i)) N k (kt hb) (Pn w v) := fun k => by
      induction k with
      | zero => exact fun _ b v hb => rfl
      | succ k ih =>
        intro hk b v hb
        have hy : b * H (k + 1) k % q * H k N % q < q := Nat.mod_lt _ (by omega)
        have e1 : hin q H (hes q H N) N (k + 1) b v = hin q H (hes q H N) N k (b * H (k + 1) k % q) (cmb q ((q - b * H (k + 1) k % q * H k N % q) % q) 13 v (hes q H N k)) := rfl
        rw [e1, ih (by omega) _ _ (Nat.mod_lt _ (by omega)), hip_s]
        have e2 : (kt hb : KT q) * HK w H (k + 1) k = kt (Nat.mod_lt (b * H (k + 1) k) w.q0) := Subtype.ext (by
          show mu q q b (HK w H (k + 1) k).1 = _
          rw [mu_fig wq hb (HK w H (k + 1) k).2, hk_in w (by omega), Nat.mul_mod_mod]
          rfl)
        have e3 : (kt hb : KT q) * HK w H (k + 1) k * HK w H k N = kt hy := Subtype.ext (by
          rw [e2]
          show mu q q (b * H (k + 1) k % q) (HK w H k N).1 = _
          rw [mu_fig wq (Nat.mod_lt _ (by omega)) (HK w H k N).2, hk_in w (by omega), Nat.mul_mod_mod]
          rfl)
        have e7 := hcm (q - b * H (k + 1) k % q * H k N % q) (kt hy) rfl v (hes q H N k)
        rw [e7, e3, e2, hes_ij (q := q) (H := H) (i := k) (N := N) (D := d) (by omega) (by omega)]
        congr 1
    have e0 : hes q H d (N + 1) = hst q H (hes q H N) N := by
      rw [hes_ij (q := q) (H := H) (N := d) (D := N + 1) (by omega) (Nat.le_refl _)]
      show up1 (hes q H N) (N + 1) (hst q H (hes q H N) N) (N + 1) = _
      unfold up1
      rw [if_pos rfl]
    show Pn w (hes q H d (N + 1)) = _
    rw [e0]
    have e1 : hst q H (hes q H N) N = hin q H (hes q H N) N N 1 (cmb q (q - H N N) 13 (hes q H N N * q) (hes q H N N)) := rfl
    rw [e1, key N (Nat.le_refl _) _ _ (show 1 < q by omega)]
    have hHN := hH N N hN hN
    have e6 := hcm (q - H N N) (kt hHN) rfl (hes q H N N * q) (hes q H N N)
    rw [cmb_mod h2] at e6
    have e3 : HK w H N N = kt hHN := Subtype.ext (by rw [hk_in w hN, Nat.mod_eq_of_lt hHN]
                                                     rfl)
    have hlt : hes q H N N < q ^ 12 := Nat.lt_of_lt_of_le (hes_lt h2 N N (Nat.le_refl _)) (Nat.pow_le_pow_right (by omega) (by omega))
    rw [e6, pn_shift w hlt, e3, hes_ij (q := q) (H := H) (i := N) (N := N) (D := d) (Nat.le_refl _) (by omega)]
    congr 1
theorem ptsOK : PtsOK := fun q m d n g H hp hg hH => by
  have w := hp.1
  letI iq := kR (wd_q w)
  letI ik := kR w
  have h2 := w.q2
  have hd7 := w.d7
  have hf := vl_Ln w hg
  have hL := fgm_Lop w hf
  obtain ⟨⟨⟨b, hb⟩, hz⟩, hlt⟩ := hH
  have hB := hbs_of w hf hb hlt (fun i j hi hj h => hz i j hi hj h)
  have hF := fhs_of w hlt
  obtain ⟨l1, c1, c2⟩ := hes_chn (q_ne w) (q_ivs w) hL hB hF
  have e0 : SPn (fgm w) (kB hb.1) 0 = fun x => x = 0 := funext fun x => rfl
  rw [e0] at c1 c2
  have hZ : Sbm (acp (fgm w) (lnm hf)) (fun x : KT n => x = 0) := by
    rw [← e0]
    exact sp_sbm hL hB (Nat.zero_le _) (fun k hk => absurd hk (by omega))
  obtain ⟨l3, c3, c4, c5⟩ := pto_chn w hg d 0 1 tS0 [] 0 rfl (Sok0 q d n 0) ((TSp_0 w).cg (fun x hx => ⟨fun ⟨hx1, h1⟩ => congrArg Subtype.val h1, fun h1 => ⟨hx, Subtype.ext h1⟩⟩)) (by
    show 1 < q ^ (0 + 1)
    rw [Nat.pow_one]
    omega) (by
    show dg q 1 0 = 1
    rw [dg_0, Nat.mod_eq_of_lt (by omega)]) (by
    rw [pn_1 w]
    exact rfl) (fun i hi => absurd hi (by omega))
  refine pn_inj w (Nat.lt_of_lt_of_le (hes_lt h2 d d (Nat.le_refl _)) (Nat.pow_le_pow_right (by omega) (by omega))) c4 ?_
  refine chn_all (q_ne w) (q_ivs w) (acp_ok hL) (q_tor w hf) hZ c1 c3 (fun x => ?_) (all_of_pw w hf (spl_sbm (acp_ok hL) _ _ hZ) c5)
  rw [c2]
  obtain ⟨c, d1, d2⟩ := bss_all w hb x.2
  have h5 := lnc_sp hL (kB d1) (b := kB hb.1) d
  have e : lnc (fgm w) (kB d1) (kB hb.1) d = x := Subtype.ext (by
    rw [lnc_val w]
    exact d2)
  rw [e] at h5
  exact h5
end PT3
