/-! the ties: one row more -/
section TI2
variable {q m d n : Nat}
theorem co_rq {a b : Nat → Nat} (h : Rq a b) {p : Nat} (hp : p < 49) : co q a p = co q b p := by
  unfold co
  rw [h (p / 7) (by omega)]
theorem Rq.sym {a b : Nat → Nat} (h : Rq a b) : Rq b a := fun j hj => (h j hj).symm
theorem Rq.tr {a b c : Nat → Nat} (h : Rq a b) (h1 : Rq b c) : Rq a c := fun j hj => (h j hj).trans (h1 j hj)
theorem rad_rq {a b c e : Nat → Nat} {s : Nat} (h : Rq a b) (h1 : Rq c e) : Rq (rad q s a c) (rad q s b e) := fun j hj => by
  show cmb q s 13 (a j) (c j) = cmb q s 13 (b j) (e j)
  rw [h j hj, h1 j hj]
/-- c and v are nothing: c is v turned -/
theorem rad_inv (w : Wd q m d n) {c v : Nat → Nat} (hc : Rn n c) (hv : Rn n v) (h : ∀ k, k < 49 → co q (rad q 1 c v) k = 0) : Rq (rad q (q - 1) (fun _ => 0) v) c := by
  have h2 := w.q2
  refine co_ext w (rad_n w (fun _ _ => w.pos) hv) hc (fun p hp => ?_)
  have h1 := h p hp
  rw [co_rad h2, Nat.one_mul] at h1
  have z : co q (fun _ => 0) p = 0 := dg_zero ..
  rw [co_rad h2, z, Nat.zero_add]
  have l1 := co_lt h2 c p
  have l2 := co_lt h2 v p
  generalize co q c p = x at *
  generalize co q v p = y at *
  by_cases c0 : y = 0
  · subst c0
    rw [Nat.add_zero, Nat.mod_eq_of_lt l1] at h1
    rw [Nat.mul_zero, Nat.zero_mod, h1]
  · have hx : x = q - y := by
      by_cases c1 : x + y < q
      · rw [Nat.mod_eq_of_lt c1] at h1
        omega
      · rw [Nat.mod_eq_sub_mod (by omega), Nat.mod_eq_of_lt (by omega)] at h1
        omega
    rw [hx]
    obtain ⟨r, rfl⟩ : ∃ r, y = r + 1 := ⟨y - 1, by omega⟩
    have e : ∀ Q, r < Q → (Q + 1 - 1) * (r + 1) = (Q + 1 - (r + 1)) + r * (Q + 1) := fun Q hQ => by
      rw [Nat.add_sub_cancel, Nat.mul_add, Nat.mul_add, Nat.mul_one, Nat.mul_one, Nat.mul_comm Q r]
      omega
    have e2 := e (q - 1) (by omega)
    rw [Nat.sub_add_cancel (by omega : 1 ≤ q)] at e2
    rw [e2, Nat.add_mul_mod_self_right, Nat.mod_eq_of_lt (by omega)]
theorem Spn.rn (w : Wd q m d n) {u : Nat → Nat → Nat} (hu : ∀ i j, j < 7 → u i j < n) {N : Nat} {c : Nat → Nat} (h : Spn q u N c) : Rn n c := fun j hj => by
  obtain ⟨x, x1, x2⟩ := h
  rw [x2 j hj]
  exact lsm_lt w (fun i => hu i j hj) N
def Tst (q n : Nat) (u : Nat → Nat → Nat) (N : Nat) (fl : Nat → Bool) (rw : Nat → Nat → Nat) : Prop := Tok q n u N fl rw ∧ Tld q n u N fl
theorem Tst_0 (w : Wd q m d n) {u : Nat → Nat → Nat} {rw : Nat → Nat → Nat} : Tst q n u 0 (fun _ => false) rw := by
  have h2 := w.q2
  refine ⟨fun p hp hf => absurd hf Bool.false_ne_true, fun c hc hs p hp h0 _ => ?_⟩
  exfalso
  apply h0
  obtain ⟨x, x1, x2⟩ := hs
  unfold co
  rw [x2 (p / 7) (by omega)]
  exact dg_zero ..
theorem ties_step (w : Wd q m d n) {u : Nat → Nat → Nat} {N : Nat} (hua : ∀ i j, j < 7 → u i j < n) {fl : Nat → Bool} {rw : Nat → Nat → Nat} {tg : Nat → Nat} {t : Nat} (h : Tst q n u N fl rw) :
    ((ta q fl rw tg 49 (u N) t).1 = 0 ↔ Spn q u N (u N)) ∧ ((ta q fl rw tg 49 (u N) t).1 = 0 → Tst q n u (N + 1) fl rw) ∧ ∀ p, (ta q fl rw tg 49 (u N) t).1 = p + 1 → Tst q n u (N + 1) (kfl fl p) (krw q rw p (ta q fl rw tg 49 (u N) t).2.2) := by
  have h2 := w.q2
  have hu : Rn n (u N) := hua N
  obtain ⟨hk, hl⟩ := h
  obtain ⟨a1, ⟨v, v1, v2, v3⟩, a5, a6⟩ := ta_run w hk (tg := tg) 49 (u N) t (Nat.le_refl _) hu (fun k h1 h3 => by omega)
  generalize ta q fl rw tg 49 (u N) t = R at *
  obtain ⟨r0, t1, c⟩ := R
  dsimp only at *
  have tied : r0 = 0 → Spn q u N (u N) := fun z => by
    have hz : ∀ k, k < 49 → co q (rad q 1 (u N) v) k = 0 := fun k hk => by
      rw [← co_rq v3 hk]
      exact a5 z k hk
    exact ((Spn.zero w).add h2 v1).rq (rad_inv w hu v2 hz)
  have back : Spn q u N (u N) → r0 = 0 := fun z => by
    apply Decidable.byContradiction
    intro z1
    obtain ⟨p, rfl⟩ : ∃ p, r0 = p + 1 := ⟨r0 - 1, by omega⟩
    obtain ⟨b1, b2, b3, b4⟩ := a6 p rfl
    have hc : Spn q u N c := (z.add h2 v1).rq v3.sym
    have := hl c a1 hc p b1 b3 b4
    rw [b2] at this
    exact Bool.false_ne_true this
  refine ⟨⟨tied, back⟩, fun z => ⟨fun p hp hf => ?_, fun e he hs p hp h0 hh => ?_⟩, fun p z => ?_⟩
  · obtain ⟨r1, r2, r3, r4⟩ := hk p hp hf
    exact ⟨r1, r2.up h2, r3, r4⟩
  · obtain ⟨b, s, s1, s2, s3⟩ := Spn.last w hs
    exact hl e he ((s2.add h2 (tied z)).rq s3.sym) p hp h0 hh
  · obtain ⟨b1, b2, b3, b4⟩ := a6 p z
    have hcl := co_lt h2 c p
    have hself : Spn q u (N + 1) (u N) := by
      refine ⟨fun k => if k = N then 1 else 0, fun k => ?_, fun j hj => ?_⟩
      · show (if k = N then 1 else 0) < q
        split <;> omega
      · show u N j = cmb q (if N = N then 1 else 0) 13 (lsm q (fun k => if k = N then 1 else 0) (fun i => u i j) N) (u N j)
        have e : lsm q (fun k => if k = N then 1 else 0) (fun i => u i j) N = 0 := by
          refine dg_ext h2 (lsm_lt13 h2 _ _ _) (Nat.pow_pos (by omega)) (fun k hk => ?_)
          rw [lsm_dg h2 _ _ hk, dg_zero, sg_zeros N (fun i hi => by rw [if_neg (by omega), Nat.zero_mul]), Nat.zero_mod]
        rw [if_pos rfl, e, cmb_one h2 (w.lt13 (hu j hj))]
    have hcs : Spn q u (N + 1) c := (hself.add h2 (v1.up h2)).rq v3.sym
    have hks : ksc q p c = iv q (co q c p) := rfl
    have hro : krw q rw p c p = rad q (iv q (co q c p)) (fun _ => 0) c := by
      funext j
      show (if p = p then cmb q (ksc q p c) 13 0 (c j) else rw p j) = _
      rw [if_pos rfl]
      rfl
    refine ⟨fun p1 hp1 hf => ?_, fun e he hs p0 hp0 h0 hh => ?_⟩
    · by_cases c1 : p1 = p
      · subst c1
        rw [hro]
        refine ⟨rad_n w (fun _ _ => w.pos) a1, (Spn.zero w).add h2 hcs, ?_, fun k k1 k2 => ?_⟩
        · have z0 : co q (fun _ => 0) p1 = 0 := dg_zero ..
          rw [co_rad h2, z0, Nat.zero_add, Nat.mul_comm]
          exact iv_mul w.hq hcl b3
        · have z0 : co q (fun _ => 0) k = 0 := dg_zero ..
          rw [co_rad h2, z0, b4 k k1 k2, Nat.mul_zero, Nat.zero_mod]
      · have hf1 : fl p1 = true := by
          have : (if p1 = p then true else fl p1) = true := hf
          rw [if_neg c1] at this
          exact this
        have e : krw q rw p c p1 = rw p1 := funext fun j => by
          show (if p1 = p then _ else rw p1 j) = _
          rw [if_neg c1]
        obtain ⟨r1, r2, r3, r4⟩ := hk p1 hp1 hf1
        rw [e]
        exact ⟨r1, r2.up h2, r3, r4⟩
    · show (if p0 = p then true else fl p0) = true
      by_cases c1 : p0 = p
      · rw [if_pos c1]
      · rw [if_neg c1]
        obtain ⟨b, s, s1, s2, s3⟩ := Spn.last w hs
        -- u N is c less v; e is b0 and s times c
        have hue : Rq (rad q s b (u N)) (rad q s (rad q ((q - 1) * s) b v) c) := fun j hj => by
          show cmb q s 13 (b j) (u N j) = cmb q s 13 (cmb q ((q - 1) * s) 13 (b j) (v j)) (c j)
          rw [v3 j hj]
          refine dg_ext h2 (cmb_lt _ h2 13 _ _) (cmb_lt _ h2 13 _ _) (fun k hk => ?_)
          show dg q (cmb q s 13 (b j) (u N j)) k = dg q (cmb q s 13 (cmb q ((q - 1) * s) 13 (b j) (v j)) (cmb q 1 13 (u N j) (v j))) k
          rw [cmb_dg _ h2, if_pos hk, cmb_dg _ h2, if_pos hk, cmb_dg _ h2, if_pos hk, cmb_dg _ h2, if_pos hk, Nat.one_mul]
          generalize dg q (b j) k = x
          generalize dg q (u N j) k = y
          generalize dg q (v j) k = z
          rw [Nat.add_mod ((x + (q - 1) * s * z) % q), Nat.mod_mod, Nat.mul_mod_mod, ← Nat.add_mod]
          obtain ⟨q1, rfl⟩ : ∃ q1, q = q1 + 1 := ⟨q - 1, by omega⟩
          rw [Nat.add_sub_cancel, show x + q1 * s * z + s * (y + z) = (x + s * y) + (s * z) * (q1 + 1) by
            rw [Nat.mul_add s y z, Nat.mul_add (s * z), Nat.mul_one, Nat.mul_comm (s * z) q1, Nat.mul_assoc]
            omega, Nat.add_mul_mod_self_right]
        have hb0 : Spn q u N (rad q ((q - 1) * s) b v) := s2.add h2 v1
        have hbn : Rn n (rad q ((q - 1) * s) b v) := rad_n w (s2.rn w hua) v2
        have heq := s3.tr hue
        have hco : ∀ k, k < 49 → co q e k = (co q (rad q ((q - 1) * s) b v) k + s * co q c k) % q := fun k hk => by
          rw [co_rq heq hk, co_rad h2]
        generalize rad q ((q - 1) * s) b v = B at *
        have hBl : ∀ k, co q B k < q := fun k => co_lt h2 B k
        by_cases c2 : p < p0
        · refine hl B hbn hb0 p0 hp0 ?_ (fun k k1 k2 => ?_)
          · rw [hco p0 hp0, b4 p0 c2 hp0, Nat.mul_zero, Nat.add_zero, Nat.mod_eq_of_lt (hBl _)] at h0
            exact h0
          · have h3 := hh k k1 k2
            rw [hco k k2, b4 k (by omega) k2, Nat.mul_zero, Nat.add_zero, Nat.mod_eq_of_lt (hBl _)] at h3
            exact h3
        · by_cases c3 : s = 0
          · refine hl B hbn hb0 p0 hp0 ?_ (fun k k1 k2 => ?_)
            · rw [hco p0 hp0, c3, Nat.zero_mul, Nat.add_zero, Nat.mod_eq_of_lt (hBl _)] at h0
              exact h0
            · have h3 := hh k k1 k2
              rw [hco k k2, c3, Nat.zero_mul, Nat.add_zero, Nat.mod_eq_of_lt (hBl _)] at h3
              exact h3
          · exfalso
            have h3 := hh p (by omega) b1
            rw [hco p b1] at h3
            have hB0 : co q B p ≠ 0 := fun z0 => by
              rw [z0, Nat.zero_add] at h3
              have := fig_can w.hq (t := 0) s1 (by omega) hcl b3 (by rw [h3, Nat.zero_mul, Nat.zero_mod])
              exact c3 this
            have := hl B hbn hb0 p b1 hB0 (fun k k1 k2 => by
              have h4 := hh k (by omega) k2
              rw [hco k k2, b4 k k1 k2, Nat.mul_zero, Nat.add_zero, Nat.mod_eq_of_lt (hBl _)] at h4
              exact h4)
            rw [b2] at this
            exact Bool.false_ne_true this
end TI2
