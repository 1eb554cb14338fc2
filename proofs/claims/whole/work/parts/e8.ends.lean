/-! ends: rank against ties -/
section ENS
variable {q m d n : Nat}
theorem div_at {d i k : Nat} (hk : k < d) : (i * d + k) / d = i ∧ (i * d + k) % d = k := by
  refine ⟨?_, ?_⟩
  · rw [Nat.mul_comm, Nat.mul_add_div (by omega), Nat.div_eq_of_lt hk, Nat.add_zero]
  · rw [Nat.mul_comm, Nat.mul_add_mod, Nat.mod_eq_of_lt hk]
theorem pdf_top (w : Wd q m d n) {g : Nat → Nat} (hg4 : ∀ k, 4 ≤ k → g k = 0) {x i t : Nat} (hx : x < n) (ht : i + 4 ≤ t) : pdf q m d g x i t = 0 := by
  have h2 := w.q2
  unfold pdf
  rw [if_pos (by omega), hg4 (t - i) (by omega)]
  have : tu q m d 0 i = 0 := (tu_Ln w i).zero w
  rw [this, mu_comm w hx w.pos, mu_0l h2, mu_0l h2, cmb_0r h2 (Nat.pow_pos (by omega))]
theorem cei_cnt (w : Wd q m d n) {g : Nat → Nat} {u : Nat → Nat → Nat} {b : Nat → Bool} (hbb : ∀ i, b i = true ↔ Spn q u i (u i)) (hu : ∀ i j, j < 7 → u i j < n) {i : Nat} (he : ∀ k, k < d → u (i * d + k) = pdf q m d g (q ^ k) i) : ∀ (r k : Nat) (S : TSf), r + k = d → Tst q n u (i * d + k) S.1 S.2.1 → ∃ S1, cei q m d g i r k (q ^ ctb b (i * d + k)) S = (q ^ ctb b (i * d + d), S1) ∧ Tst q n u (i * d + d) S1.1 S1.2.1 := by
  intro r
  induction r with
  | zero =>
    intro k S hk hT
    have : k = d := by omega
    subst this
    exact ⟨S, rfl, hT⟩
  | succ r ih =>
    intro k S hk hT
    have e : ∀ y, cei q m d g i (r + 1) k y S = cei q m d g i r (k + 1) (if (tF q S (pdf q m d g (q ^ k) i) 0).1 = 0 then y * q else y) (tF q S (pdf q m d g (q ^ k) i) 0).2.2 := fun _ => rfl
    rw [e]
    obtain ⟨s1, s2, s3⟩ := ties_step w (N := i * d + k) (tg := S.2.2) (t := 0) hu hT
    rw [he k (by omega)] at s1 s2 s3
    have hb := hbb (i * d + k)
    rw [he k (by omega)] at hb
    have hc : ctb b (i * d + k + 1) = ctb b (i * d + k) + if b (i * d + k) = true then 1 else 0 := rfl
    by_cases c : (ta q S.1 S.2.1 S.2.2 49 (pdf q m d g (q ^ k) i) 0).1 = 0
    · have e1 : (tF q S (pdf q m d g (q ^ k) i) 0).1 = 0 := c
      have e2 : (tF q S (pdf q m d g (q ^ k) i) 0).2.2 = S := by
        show (if (ta q S.1 S.2.1 S.2.2 49 (pdf q m d g (q ^ k) i) 0).1 = 0 then S else _) = S
        rw [if_pos c]
      rw [if_pos e1, e2]
      rw [if_pos (hb.mpr (s1.mp c))] at hc
      have e3 : q ^ ctb b (i * d + k) * q = q ^ ctb b (i * d + (k + 1)) := by
        rw [show i * d + (k + 1) = i * d + k + 1 by omega, hc, Nat.pow_succ]
      rw [e3]
      exact ih (k + 1) S (by omega) (by rw [show i * d + (k + 1) = i * d + k + 1 by omega]; exact s2 c)
    · have e1 : ¬ (tF q S (pdf q m d g (q ^ k) i) 0).1 = 0 := c
      obtain ⟨p, hp⟩ : ∃ p, (ta q S.1 S.2.1 S.2.2 49 (pdf q m d g (q ^ k) i) 0).1 = p + 1 := ⟨(ta q S.1 S.2.1 S.2.2 49 (pdf q m d g (q ^ k) i) 0).1 - 1, by omega⟩
      have e2 : (tF q S (pdf q m d g (q ^ k) i) 0).2.2 = (kfl S.1 p, krw q S.2.1 p (ta q S.1 S.2.1 S.2.2 49 (pdf q m d g (q ^ k) i) 0).2.2, ktg q S.2.2 p (ta q S.1 S.2.1 S.2.2 49 (pdf q m d g (q ^ k) i) 0).2.1 (ta q S.1 S.2.1 S.2.2 49 (pdf q m d g (q ^ k) i) 0).2.2) := by
        show (if (ta q S.1 S.2.1 S.2.2 49 (pdf q m d g (q ^ k) i) 0).1 = 0 then S else _) = _
        rw [if_neg c, hp, Nat.add_sub_cancel]
      rw [if_neg e1, e2]
      rw [if_neg (fun z => c (s1.mpr (hb.mp z)))] at hc
      have e3 : q ^ ctb b (i * d + k) = q ^ ctb b (i * d + (k + 1)) := by
        rw [show i * d + (k + 1) = i * d + k + 1 by omega, hc]
        rfl
      rw [e3]
      exact ih (k + 1) _ (by omega) (by rw [show i * d + (k + 1) = i * d + k + 1 by omega]; exact s3 p hp)
theorem ceo_cnt (w : Wd q m d n) {g : Nat → Nat} {u : Nat → Nat → Nat} {b : Nat → Bool} (hbb : ∀ i, b i = true ↔ Spn q u i (u i)) (hu : ∀ i j, j < 7 → u i j < n) (he : ∀ i k, k < d → u (i * d + k) = pdf q m d g (q ^ k) i) : ∀ (r i : Nat) (S : TSf), Tst q n u (i * d) S.1 S.2.1 → ceo q m d g r i (q ^ ctb b (i * d)) S = q ^ ctb b ((i + r) * d) := by
  intro r
  induction r with
  | zero => exact fun i S _ => rfl
  | succ r ih =>
    intro i S hT
    obtain ⟨S1, h1, h3⟩ := cei_cnt w hbb hu (i := i) (fun k hk => he i k hk) d 0 S rfl hT
    have e : ∀ y, ceo q m d g (r + 1) i y S = ceo q m d g r (i + 1) (cei q m d g i d 0 y S).1 (cei q m d g i d 0 y S).2 := fun _ => rfl
    rw [Nat.add_zero] at h1
    rw [e, h1]
    have e4 : i * d + d = (i + 1) * d := by rw [Nat.add_mul, Nat.one_mul]
    rw [e4] at h3 ⊢
    have := ih (i + 1) S1 h3
    rw [show i + 1 + r = i + (r + 1) by omega] at this
    exact this
theorem endsOK : EndsOK := fun q m d n g e r hp hg he2 hr => by
  have w := hp.1
  have h2 := w.q2
  have hd7 := w.d7
  have hd1 : 1 ≤ d := w.2.2.2.2.1
  have hn := w.nq
  obtain ⟨hg1, hg2, hg3⟩ := hg
  obtain ⟨u, hu0⟩ : ∃ u : Nat → Nat → Nat, u = fun K => pdf q m d g (q ^ (K % d)) (K / d) := ⟨_, rfl⟩
  have hpw : ∀ K, q ^ (K % d) < n := fun K => by rw [hn]; exact Nat.pow_lt_pow_right (by omega) (Nat.mod_lt _ (by omega))
  have hu : ∀ i j, j < 7 → u i j < n := fun i j hj => by
    rw [hu0]
    exact pdf_lt w (hpw i) hg1 j
  have hue : ∀ i k, k < d → u (i * d + k) = pdf q m d g (q ^ k) i := fun i k hk => by
    rw [hu0]
    show pdf q m d g (q ^ ((i * d + k) % d)) ((i * d + k) / d) = _
    rw [(div_at hk).1, (div_at hk).2]
  obtain ⟨b, hb⟩ := bdp_ex q u
  have hcen : cen q m d g e = q ^ ctb b ((e + 1) * d) := by
    have h0 : Tst q n u (0 * d) tF0.1 tF0.2.1 := by
      rw [Nat.zero_mul]
      exact Tst_0 w
    have := ceo_cnt w hb hu hue (e + 1) 0 tF0 h0
    rw [Nat.zero_mul, Nat.zero_add] at this
    exact this
  have H : ∀ x : Nat → Nat, (∀ k, x k < q) → ((∀ i, i < (e + 4) * d → rzo q ((e + 1) * d) (tbe q m d g i) x) ↔ ∀ c, c < 7 → lsm q x (fun k => u k c) ((e + 1) * d) = 0) := fun x hx => by
    have dgs : ∀ c k, k < d → dg q (lsm q x (fun i => u i c) ((e + 1) * d)) k = sg (fun j => tbe q m d g (c * d + k) j * x j) ((e + 1) * d) % q := fun c k hk => by
      rw [lsm_dg h2 _ _ (by omega)]
      have hs : ∀ N, sg (fun i => x i * dg q (u i c) k) N = sg (fun j => tbe q m d g (c * d + k) j * x j) N := fun N => sg_ext (fun i hi => by
        show x i * dg q (u i c) k = dg q (pdf q m d g (q ^ (i % d)) (i / d) ((c * d + k) / d)) ((c * d + k) % d) * x i
        rw [(div_at hk).1, (div_at hk).2, hu0]
        exact Nat.mul_comm _ _)
      rw [hs]
    refine ⟨fun h c hc => ?_, fun h i hi => ?_⟩
    · by_cases c0 : c < e + 4
      · have hlt := lsm_lt w (h := x) (fun i => hu i c hc) ((e + 1) * d)
        refine dg_ext h2 (w.lt13 hlt) (Nat.pow_pos (by omega)) (fun k hk => ?_)
        rw [dg_zero]
        by_cases c1 : k < d
        · rw [dgs c k c1]
          have hck : c * d + k < (e + 4) * d := by
            have : (c + 1) * d ≤ (e + 4) * d := Nat.mul_le_mul_right d (by omega)
            rw [Nat.add_mul, Nat.one_mul] at this
            omega
          exact h _ hck
        · rw [hn] at hlt
          unfold dg
          rw [Nat.div_eq_of_lt (Nat.lt_of_lt_of_le hlt (Nat.pow_le_pow_right (by omega) (by omega))), Nat.zero_mod]
      · exact lsm_z w _ (fun j hj => by
          have hje : j / d ≤ e := by
            have := (Nat.div_lt_iff_lt_mul (show 0 < d by omega)).mpr hj
            omega
          rw [hu0]
          exact pdf_top w hg2 (hpw j) (by omega))
    · have hi7 : i / d < e + 4 := (Nat.div_lt_iff_lt_mul (show 0 < d by omega)).mpr hi
      have hm : i % d < d := Nat.mod_lt _ (by omega)
      have h3 := h (i / d) (by omega)
      have h4 := dgs (i / d) (i % d) hm
      rw [h3, dg_zero, show i / d * d + i % d = i by rw [Nat.mul_comm]; exact Nat.div_add_mod i d] at h4
      exact h4.symm
  have h3 := rk_dep w.hq hr (b := b) (fun j hj => (hb j).trans (dep_spn w hu H hj).symm)
  refine ⟨by omega, ?_⟩
  rw [hcen, show (e + 1) * d - r = ctb b ((e + 1) * d) by omega]
end ENS
