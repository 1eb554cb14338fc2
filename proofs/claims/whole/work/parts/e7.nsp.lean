/-! the noughts: rank against ties -/
section NSP
variable {q m d n : Nat}
theorem bdp_ex (q : Nat) (u : Nat → Nat → Nat) : ∃ b : Nat → Bool, ∀ i, b i = true ↔ Spn q u i (u i) :=
  ⟨fun i => @decide (Spn q u i (u i)) (Classical.propDecidable _), fun i => @decide_eq_true_iff _ (Classical.propDecidable _)⟩
theorem nsl_cnt (w : Wd q m d n) {f : Nat → Nat} {a : Nat} {u : Nat → Nat → Nat} {b : Nat → Bool} (hbb : ∀ i, b i = true ↔ Spn q u i (u i)) (hu : ∀ i j, j < 7 → u i j < n) (he : ∀ i, i < d → u i = r1 (snd q m d f a (q ^ i))) : ∀ (r j : Nat) (S : TSt) (rw : Nat → Nat → Nat), j + r = d → (fun a => rw a 0) = S.2.1 → Tst q n u j S.1 rw → nsl q m d f a r j (ctb b j) S = ctb b d := by
  intro r
  induction r with
  | zero =>
    intro j S rw hj hS hT
    have : j = d := by omega
    rw [this]
    rfl
  | succ r ih =>
    intro j S rw hj hS hT
    have e : ∀ s, nsl q m d f a (r + 1) j s S = nsl q m d f a r (j + 1) (if (tS q S (snd q m d f a (q ^ j)) 0).1 = 0 then s + 1 else s) (tS q S (snd q m d f a (q ^ j)) 0).2.2 := fun _ => rfl
    rw [e]
    obtain ⟨s1, s2, s3⟩ := ties_step w (N := j) (tg := S.2.2) (t := 0) hu hT
    rw [he j (by omega), ta_49, ta_one 7 _ 0 (Nat.le_refl _), hS] at s1 s2 s3
    dsimp only at s1 s2 s3
    have hc : ctb b (j + 1) = ctb b j + if b j = true then 1 else 0 := rfl
    have hb := hbb j
    rw [he j (by omega)] at hb
    by_cases c : (ta1 q S.1 S.2.1 S.2.2 7 (snd q m d f a (q ^ j)) 0).1 = 0
    · have e1 : (tS q S (snd q m d f a (q ^ j)) 0).1 = 0 := c
      have e2 : (tS q S (snd q m d f a (q ^ j)) 0).2.2 = S := by
        show (if (ta1 q S.1 S.2.1 S.2.2 7 (snd q m d f a (q ^ j)) 0).1 = 0 then S else _) = S
        rw [if_pos c]
      rw [if_pos e1, e2]
      have h1 := hb.mpr (s1.mp c)
      rw [if_pos h1] at hc
      rw [← hc]
      exact ih (j + 1) S rw (by omega) hS (s2 c)
    · have e1 : ¬ (tS q S (snd q m d f a (q ^ j)) 0).1 = 0 := c
      obtain ⟨p, hp⟩ : ∃ p, (ta1 q S.1 S.2.1 S.2.2 7 (snd q m d f a (q ^ j)) 0).1 = p + 1 := ⟨(ta1 q S.1 S.2.1 S.2.2 7 (snd q m d f a (q ^ j)) 0).1 - 1, by omega⟩
      have hp7 : p < 7 := by
        have := ta1_le (q := q) (fl := S.1) (v := S.2.1) (tg := S.2.2) 7 (snd q m d f a (q ^ j)) 0
        omega
      have e2 : (tS q S (snd q m d f a (q ^ j)) 0).2.2 = tSk q S p (ta1 q S.1 S.2.1 S.2.2 7 (snd q m d f a (q ^ j)) 0).2.2 (ta1 q S.1 S.2.1 S.2.2 7 (snd q m d f a (q ^ j)) 0).2.1 := by
        show (if (ta1 q S.1 S.2.1 S.2.2 7 (snd q m d f a (q ^ j)) 0).1 = 0 then S else _) = _
        rw [if_neg c, hp, Nat.add_sub_cancel]
      rw [if_neg e1, e2]
      have h1 : ¬ b j = true := fun z => c (s1.mpr (hb.mp z))
      rw [if_neg h1] at hc
      have hc2 : ctb b (j + 1) = ctb b j := hc
      rw [← hc2]
      refine ih (j + 1) _ _ (by omega) ?_ (s3 p hp)
      funext x
      show (if x = p then cmb q (ksc q p (r1 (ta1 q S.1 S.2.1 S.2.2 7 (snd q m d f a (q ^ j)) 0).2.2)) 13 0 (ta1 q S.1 S.2.1 S.2.2 7 (snd q m d f a (q ^ j)) 0).2.2 else rw x 0) = (if x = p then cmb q (iv q (dg q (ta1 q S.1 S.2.1 S.2.2 7 (snd q m d f a (q ^ j)) 0).2.2 p)) 13 0 (ta1 q S.1 S.2.1 S.2.2 7 (snd q m d f a (q ^ j)) 0).2.2 else S.2.1 x)
      rw [← hS]
      have e3 : ksc q p (r1 (ta1 q S.1 (fun a => rw a 0) S.2.2 7 (snd q m d f a (q ^ j)) 0).2.2) = iv q (dg q (ta1 q S.1 (fun a => rw a 0) S.2.2 7 (snd q m d f a (q ^ j)) 0).2.2 p) := by
        unfold ksc
        rw [show p / 7 = 0 by omega, show p % 7 = p by omega]
        rfl
      rw [e3]
theorem sndl_ad (w : Wd q m d n) {f : Nat → Nat} (hf : ∀ k, f k < n) {a x y : Nat} (hx : x < n) (hy : y < n) (k : Nat) : ∀ s t, s < n → t < n → sndl q m d f a (cmb q 1 13 x y) k (cmb q 1 13 s t) = cmb q 1 13 (sndl q m d f a x k s) (sndl q m d f a y k t) := by
  have h2 := w.q2
  induction k with
  | zero => exact fun s t _ _ => rfl
  | succ k ih =>
    intro s t hs ht
    have e : ∀ x s, sndl q m d f a x (k + 1) s = sndl q m d f a x k (cmb q (dg q a k) 13 (vl q m d f s) x) := fun _ _ => rfl
    rw [e, e, e, (vl_Ln w hf).2 1 s t hs ht, cmb_lin h2]
    exact ih _ _ (cmb_ltn w (vl_lt w hs) hx) (cmb_ltn w (vl_lt w ht) hy)
theorem snd_ad (w : Wd q m d n) {f : Nat → Nat} (hf : ∀ k, f k < n) {a x y : Nat} (hx : x < n) (hy : y < n) : snd q m d f a (cmb q 1 13 x y) = cmb q 1 13 (snd q m d f a x) (snd q m d f a y) := by
  unfold snd
  have h0 : cmb q 1 13 0 0 = 0 := cmb_0r w.q2 (Nat.pow_pos (by have := w.q2; omega))
  have := sndl_ad w hf (a := a) hx hy (ln q 13 a) 0 0 w.pos w.pos
  rw [h0] at this
  exact this
theorem snd_ln (w : Wd q m d n) {f : Nat → Nat} (hf : ∀ k, f k < n) (a : Nat) : Ln q n (snd q m d f a) := Ln.of w (fun x hx => snd_lt w hx) (fun x y hx hy => snd_ad w hf hx hy)
theorem nspOK : NspOK := fun q m d n g a r hp hg ha hr => by
  have w := hp.1
  have h2 := w.q2
  have hd := w.d7
  have hn := w.nq
  obtain ⟨u, hu0⟩ : ∃ u : Nat → Nat → Nat, u = fun i => r1 (if i < d then snd q m d g a (q ^ i) else 0) := ⟨_, rfl⟩
  have hpw : ∀ i, i < d → q ^ i < n := fun i hi => by rw [hn]; exact Nat.pow_lt_pow_right (by omega) hi
  have hu : ∀ i j, j < 7 → u i j < n := fun i j hj => by
    rw [hu0]
    show (if j = 0 then (if i < d then snd q m d g a (q ^ i) else 0) else 0) < n
    split
    · split
      · next c => exact snd_lt w (hpw i c)
      · exact w.pos
    · exact w.pos
  have he : ∀ i, i < d → u i = r1 (snd q m d g a (q ^ i)) := fun i hi => by
    rw [hu0]
    show r1 (if i < d then snd q m d g a (q ^ i) else 0) = _
    rw [if_pos hi]
  obtain ⟨b, hb⟩ := bdp_ex q u
  have h1 : nsp q m d g a = ctb b d := nsl_cnt w hb hu he d 0 tS0 (fun _ _ => 0) (by omega) rfl (Tst_0 w)
  have H : ∀ x : Nat → Nat, (∀ k, x k < q) → ((∀ i, i < d → rzo q d (tb0 q (snd q m d g a) i) x) ↔ ∀ c, c < 7 → lsm q x (fun k => u k c) d = 0) := fun x hx => by
    have dgs : ∀ k, k < 13 → dg q (lsm q x (fun i => u i 0) d) k = sg (fun j => tb0 q (snd q m d g a) k j * x j) d % q := fun k hk => by
      rw [lsm_dg h2 _ _ hk]
      congr 1
      refine sg_ext (fun i hi => ?_)
      rw [he i hi]
      show x i * dg q (snd q m d g a (q ^ i)) k = dg q (snd q m d g a (q ^ i)) k * x i
      exact Nat.mul_comm _ _
    refine ⟨fun h c hc => ?_, fun h i hi => ?_⟩
    · by_cases c0 : c = 0
      · subst c0
        have hlt := lsm_lt w (h := x) (fun i => hu i 0 (by omega)) d
        refine dg_ext h2 (w.lt13 hlt) (Nat.pow_pos (by omega)) (fun k hk => ?_)
        rw [dg_zero]
        by_cases c1 : k < d
        · rw [dgs k hk]
          exact h k c1
        · rw [hn] at hlt
          unfold dg
          rw [Nat.div_eq_of_lt (Nat.lt_of_lt_of_le hlt (Nat.pow_le_pow_right (by omega) (by omega))), Nat.zero_mod]
      · exact lsm_z w d (fun j hj => by
          rw [he j hj]
          exact if_neg c0)
    · have h3 := congrArg (fun v => dg q v i) (h 0 (by omega))
      have h4 : dg q (lsm q x (fun i => u i 0) d) i = dg q 0 i := h3
      rw [dgs i (by omega), dg_zero] at h4
      exact h4
  have h3 := rk_dep w.hq hr (b := b) (fun j hj => (hb j).trans (dep_spn w hu H hj).symm)
  rw [h1]
  omega
end NSP
