/-! the ties: tags -/
section TGS
variable {q m d n : Nat}
/-- a row and its tag: the sum of rows with the tag's digits -/
def Tgr (q : Nat) (u : Nat → Nat → Nat) (c : Nat → Nat) (t : Nat) : Prop := Rq c (fun j => lsm q (dg q t) (fun i => u i j) 13)
theorem Tgr.add (h2 : 2 ≤ q) {u : Nat → Nat → Nat} {c e : Nat → Nat} {t z s : Nat} (h : Tgr q u c t) (h1 : Tgr q u e z) : Tgr q u (rad q s c e) (cmb q s 13 t z) := fun j hj => by
  show cmb q s 13 (c j) (e j) = lsm q (dg q (cmb q s 13 t z)) (fun i => u i j) 13
  rw [h j hj, h1 j hj, lsm_coef h2]
  refine lsm_ext (fun i hi => ?_) (fun _ _ => rfl)
  rw [cmb_dg _ h2, if_pos hi]
theorem Tgr.zero (h2 : 2 ≤ q) {u : Nat → Nat → Nat} : Tgr q u (fun _ => 0) 0 := fun j hj => by
  have e : lsm q (dg q 0) (fun i => u i j) 13 = lsm q (fun _ => 0) (fun i => u i j) 13 := lsm_ext (fun i _ => dg_zero ..) (fun _ _ => rfl)
  show 0 = lsm q (dg q 0) (fun i => u i j) 13
  rw [e, lsm_0 h2]
theorem Tgr.pow (w : Wd q m d n) {u : Nat → Nat → Nat} (hu : ∀ i j, j < 7 → u i j < n) {k : Nat} (hk : k < 13) : Tgr q u (u k) (q ^ k) := fun j hj => by
  have h2 := w.q2
  refine dg_ext h2 (w.lt13 (hu k j hj)) (lsm_lt13 h2 _ _ _) (fun b hb => ?_)
  rw [lsm_dg h2 _ _ hb]
  have hd : ∀ i, dg q (q ^ k) i = if i = k then 1 else 0 := fun i => by
    have := dg_mulpow (x := 1) (n := k) (k := i) h2
    rw [Nat.one_mul] at this
    rw [this]
    by_cases c : k ≤ i
    · rw [if_pos c]
      by_cases c1 : i = k
      · rw [if_pos c1, c1, Nat.sub_self]
        unfold dg
        rw [Nat.pow_zero, Nat.div_one, Nat.mod_eq_of_lt (by omega)]
      · rw [if_neg c1]
        unfold dg
        have h5 : q ^ 1 ≤ q ^ (i - k) := Nat.pow_le_pow_right (by omega) (by omega)
        rw [Nat.pow_one] at h5
        rw [Nat.div_eq_of_lt (by omega), Nat.zero_mod]
    · rw [if_neg c, if_neg (by omega)]
  rw [sg_only (a := k) 13 hk (fun i hi hne => by rw [hd, if_neg hne, Nat.zero_mul]), hd, if_pos rfl, Nat.one_mul, Nat.mod_eq_of_lt (dg_lt (by omega))]
/-- the tags of what is kept -/
def Ttg (q : Nat) (u : Nat → Nat → Nat) (N : Nat) (fl : Nat → Bool) (rw : Nat → Nat → Nat) (tg : Nat → Nat) : Prop := ∀ p, p < 49 → fl p = true → tg p < q ^ N ∧ Tgr q u (rw p) (tg p)
theorem dg_of (h2 : 2 ≤ q) {a N k : Nat} (ha : a < q ^ N) (hk : N ≤ k) : dg q a k = 0 := by
  unfold dg
  rw [Nat.div_eq_of_lt (Nat.lt_of_lt_of_le ha (Nat.pow_le_pow_right (by omega) hk)), Nat.zero_mod]
theorem ta_tgs (w : Wd q m d n) {u : Nat → Nat → Nat} {N : Nat} (hN : N ≤ 12) {fl : Nat → Bool} {rw : Nat → Nat → Nat} {tg : Nat → Nat} (h : Tok q n u N fl rw) (hg : Ttg q u N fl rw tg) (p : Nat) : ∀ (c : Nat → Nat) (t : Nat), p ≤ 49 → Rn n c → t < q ^ (N + 1) → dg q t N = 1 → Tgr q u c t → (ta q fl rw tg p c t).2.1 < q ^ (N + 1) ∧ dg q (ta q fl rw tg p c t).2.1 N = 1 ∧ Tgr q u (ta q fl rw tg p c t).2.2 (ta q fl rw tg p c t).2.1 := by
  have h2 := w.q2
  induction p with
  | zero => exact fun c t _ _ h1 h3 h4 => ⟨h1, h3, h4⟩
  | succ p ih =>
    intro c t hp hc h1 h3 h4
    have e : ta q fl rw tg (p + 1) c t = if co q c p = 0 then ta q fl rw tg p c t else if fl p = true then ta q fl rw tg p (tal q rw p c) (cmb q ((q - co q c p) % q) 13 t (tg p)) else (p + 1, t, c) := rfl
    rw [e]
    by_cases c0 : co q c p = 0
    · rw [if_pos c0]
      exact ih c t (by omega) hc h1 h3 h4
    · rw [if_neg c0]
      by_cases cf : fl p = true
      · rw [if_pos cf]
        obtain ⟨r1, r2, r3, r4⟩ := h p (by omega) cf
        obtain ⟨g1, g2⟩ := hg p (by omega) cf
        have ht := tal_rad w h (by omega) cf hc
        have hcn : Rn n (tal q rw p c) := fun j hj => by
          rw [ht j hj]
          exact rad_n w hc r1 j hj
        have hup : tg p < q ^ (N + 1) := Nat.lt_of_lt_of_le g1 (Nat.pow_le_pow_right (by omega) (by omega))
        refine ih _ _ (by omega) hcn (cmb_small h2 h1 hup) ?_ (fun j hj => (ht j hj).trans (h4.add h2 g2 j hj))
        rw [cmb_dg _ h2, if_pos (by omega), h3, dg_of h2 g1 (Nat.le_refl _), Nat.mul_zero, Nat.add_zero, Nat.mod_eq_of_lt (by omega)]
      · rw [if_neg cf]
        exact ⟨h1, h3, h4⟩
/-- the tags after one row more -/
theorem Ttg_step (w : Wd q m d n) {u : Nat → Nat → Nat} (hu : ∀ i j, j < 7 → u i j < n) {N : Nat} (hN : N ≤ 12) {fl : Nat → Bool} {rw : Nat → Nat → Nat} {tg : Nat → Nat} (h : Tok q n u N fl rw) (hg : Ttg q u N fl rw tg) :
    ((ta q fl rw tg 49 (u N) (q ^ N)).2.1 < q ^ (N + 1) ∧ dg q (ta q fl rw tg 49 (u N) (q ^ N)).2.1 N = 1 ∧ Tgr q u (ta q fl rw tg 49 (u N) (q ^ N)).2.2 (ta q fl rw tg 49 (u N) (q ^ N)).2.1) ∧ ∀ p, (ta q fl rw tg 49 (u N) (q ^ N)).1 = p + 1 → Ttg q u (N + 1) (kfl fl p) (krw q rw p (ta q fl rw tg 49 (u N) (q ^ N)).2.2) (ktg q tg p (ta q fl rw tg 49 (u N) (q ^ N)).2.1 (ta q fl rw tg 49 (u N) (q ^ N)).2.2) := by
  have h2 := w.q2
  have hd : dg q (q ^ N) N = 1 := by
    unfold dg
    rw [Nat.div_self (Nat.pow_pos (by omega)), Nat.mod_eq_of_lt (by omega)]
  obtain ⟨a1, a2, a3⟩ := ta_tgs w hN h hg 49 (u N) (q ^ N) (Nat.le_refl _) (hu N) (Nat.pow_lt_pow_right (by omega) (by omega)) hd (Tgr.pow w hu (by omega))
  refine ⟨⟨a1, a2, a3⟩, fun p hp p1 hp1 hf => ?_⟩
  generalize ta q fl rw tg 49 (u N) (q ^ N) = R at *
  obtain ⟨r0, t, c⟩ := R
  dsimp only at *
  by_cases c1 : p1 = p
  · subst c1
    have e1 : krw q rw p1 c p1 = rad q (ksc q p1 c) (fun _ => 0) c := funext fun j => if_pos rfl
    have e2 : ktg q tg p1 t c p1 = cmb q (ksc q p1 c) 13 0 t := if_pos rfl
    rw [e1, e2]
    exact ⟨cmb_small h2 (Nat.pow_pos (by omega)) a1, (Tgr.zero h2).add h2 a3⟩
  · have hf1 : fl p1 = true := by
      have : (if p1 = p then true else fl p1) = true := hf
      rw [if_neg c1] at this
      exact this
    have e1 : krw q rw p c p1 = rw p1 := funext fun j => if_neg c1
    have e2 : ktg q tg p t c p1 = tg p1 := if_neg c1
    rw [e1, e2]
    obtain ⟨g1, g2⟩ := hg p1 hp1 hf1
    exact ⟨Nat.lt_of_lt_of_le g1 (Nat.pow_le_pow_right (by omega) (by omega)), g2⟩
/-- where none hangs on those before, a sum is nothing only with noughts -/
theorem free_0 (w : Wd q m d n) {u : Nat → Nat → Nat} (hu : ∀ i j, j < 7 → u i j < n) (N : Nat) : (∀ i, i < N → ¬ Spn q u i (u i)) → ∀ x : Nat → Nat, (∀ k, x k < q) → (∀ j, j < 7 → lsm q x (fun i => u i j) N = 0) → ∀ i, i < N → x i = 0 := by
  have h2 := w.q2
  induction N with
  | zero => exact fun _ x _ _ i hi => absurd hi (Nat.not_lt_zero _)
  | succ N ih =>
    intro hn x hx hz i hi
    have hz1 : ∀ j, j < 7 → cmb q (x N) 13 (lsm q x (fun i => u i j) N) (u N j) = 0 := hz
    have hxN : x N = 0 := by
      apply Decidable.byContradiction
      intro c
      apply hn N (by omega)
      have hiv := iv_mul w.hq (hx N) c
      have hL : Spn q u N (fun j => lsm q x (fun i => u i j) N) := ⟨x, hx, fun _ _ => rfl⟩
      have hB : Rn n (rad q (x N) (fun _ => 0) (u N)) := rad_n w (fun _ _ => w.pos) (hu N)
      have h1 : Rq (rad q (q - 1) (fun _ => 0) (fun j => lsm q x (fun i => u i j) N)) (rad q (x N) (fun _ => 0) (u N)) := rad_inv w hB (hL.rn w hu) (fun k hk => by
        show dg q (cmb q 1 13 (cmb q (x N) 13 0 (u N (k / 7))) (lsm q x (fun i => u i (k / 7)) N)) (k % 7) = 0
        rw [cmb_swap h2, cmb_one h2 (lsm_lt13 h2 _ _ _), hz1 (k / 7) (by omega), dg_zero])
      have h5 : Rq (rad q (iv q (x N)) (fun _ => 0) (rad q (x N) (fun _ => 0) (u N))) (u N) := fun j hj => by
        show cmb q (iv q (x N)) 13 0 (cmb q (x N) 13 0 (u N j)) = u N j
        rw [cmb_in h2, cmb_0r h2 (Nat.pow_pos (by omega)), ← cmb_mod h2, Nat.mul_comm, hiv, cmb_one h2 (w.lt13 (hu N j hj))]
      exact ((Spn.zero w).add h2 (((Spn.zero w).add h2 hL).rq h1)).rq h5
    by_cases c : i = N
    · rw [c]
      exact hxN
    · refine ih (fun i hi => hn i (by omega)) x hx (fun j hj => ?_) i (by omega)
      have h3 := hz1 j hj
      rw [hxN, cmb_0s w (lsm_lt w (fun i => hu i j hj) N)] at h3
      exact h3
end TGS
