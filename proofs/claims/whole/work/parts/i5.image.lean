/-! images, and how many they are told by the ties -/
section IMG
variable {q m d n : Nat}
/-- what a polynomial makes of a rest -/
noncomputable def acv (w : Wd q m d n) {g : Nat → Nat} (hg : ∀ k, g k < n) (a : letI := kR (wd_q w); PL (KT q)) (x : KT n) : KT n := letI := kR (wd_q w); letI := kR w; acp (fgm w) (lnm (vl_Ln w hg)) a x
theorem acv_ok (w : Wd q m d n) {g : Nat → Nat} (hg : ∀ k, g k < n) : letI := kR (wd_q w); letI := kR w; Acts (KT q) (KT n) (acv w hg) := by
  letI := kR (wd_q w)
  letI := kR w
  exact acp_ok (fgm_Lop w (vl_Ln w hg))
theorem itl_0 {R M : Type} [Lean.Grind.CommRing R] [Lean.Grind.CommRing M] {φ : R → M} {T : M → M} (h : Lop φ T) (k : Nat) : itg T k (0 : M) = 0 := by
  induction k with
  | zero => rfl
  | succ k ih => rw [itg_s, ih, h.t0]
theorem itl_add {R M : Type} [Lean.Grind.CommRing R] [Lean.Grind.CommRing M] {φ : R → M} {T : M → M} (h : Lop φ T) (k : Nat) (u v : M) : itg T k (u + v) = itg T k u + itg T k v := by
  induction k with
  | zero => rfl
  | succ k ih => rw [itg_s, itg_s, itg_s, ih, h.2.2.2.1]
theorem itl_sc {R M : Type} [Lean.Grind.CommRing R] [Lean.Grind.CommRing M] {φ : R → M} {T : M → M} (h : Lop φ T) (c : R) (k : Nat) (u : M) : itg T k (φ c * u) = φ c * itg T k u := by
  induction k with
  | zero => rfl
  | succ k ih => rw [itg_s, itg_s, ih, h.2.2.2.2]
/-- one step of Horner's -/
theorem hor_acp {R M : Type} [Lean.Grind.CommRing R] [Lean.Grind.CommRing M] {φ : R → M} {T : M → M} (h : Lop φ T) (A : PL R) (c : R) (k : Nat) (x s : M) : letI := plR R; acp φ T A x + itg T k (T s + φ c * x) = acp φ T (A + mnm c 0 * mnm 1 k) x + itg T (k + 1) s := by
  letI := plR R
  have e3 : itg T (k + 1) s = itg T k (T s) := rfl
  have e4 : ∀ X : M, itg T 0 X = X := fun _ => rfl
  rw [itl_add h, itl_sc h, (acp_ok h).1, (acp_ok h).2.1, acp_mn h, acp_mn h, h.2.2.1, e4, e3]
  generalize acp φ T A x = A1
  generalize itg T k (T s) = B
  generalize itg T k x = C
  generalize φ c = D
  grind
theorem cmb_lnm (w : Wd q m d n) {g : Nat → Nat} (hg : ∀ k, g k < n) (c : Nat) (x s : KT n) : letI := kR w; cmb q c 13 (vl q m d g s.1) x.1 = (lnm (vl_Ln w hg) s + fgm w (kt (Nat.mod_lt c w.q0)) * x).1 := by
  letI := kR w
  have h1 := k_fgm w (kt (Nat.mod_lt c w.q0)) (lnm (vl_Ln w hg) s) x
  have f1 : (kt (Nat.mod_lt c w.q0) : KT q).1 = c % q := rfl
  have f2 : (lnm (vl_Ln w hg) s).1 = vl q m d g s.1 := rfl
  rw [f1, f2, cmb_mod w.q2] at h1
  exact h1.symm
theorem sndl_acv (w : Wd q m d n) {g : Nat → Nat} (hg : ∀ k, g k < n) (a : Nat) (x : KT n) (k : Nat) : k ≤ 13 → ∀ s : KT n, letI := kR (wd_q w); letI := kR w; sndl q m d g a x.1 k s.1 = (acp (fgm w) (lnm (vl_Ln w hg)) (Pn w (a % q ^ k)) x + itg (lnm (vl_Ln w hg)) k s).1 := by
  letI iq := kR (wd_q w)
  letI ik := kR w
  have hL := fgm_Lop w (vl_Ln w hg)
  induction k with
  | zero =>
    intro _ s
    rw [Nat.pow_zero, Nat.mod_one, pn_0 w, ac_0 (acp_ok hL)]
    have e : (0 : KT n) + itg (lnm (vl_Ln w hg)) 0 s = s := by
      show (0 : KT n) + s = s
      grind
    rw [e]
    rfl
  | succ k ih =>
    intro hk s
    have e1 : sndl q m d g a x.1 (k + 1) s.1 = sndl q m d g a x.1 k (cmb q (dg q a k) 13 (vl q m d g s.1) x.1) := rfl
    rw [e1, cmb_lnm w hg, ih (by omega), pn_modu w a (by omega), hor_acp hL]
theorem snd_acv (w : Wd q m d n) {g : Nat → Nat} (hg : ∀ k, g k < n) {a : Nat} (ha : a < q ^ 13) (x : KT n) : snd q m d g a x.1 = (acv w hg (Pn w a) x).1 := by
  letI iq := kR (wd_q w)
  letI ik := kR w
  have hL := fgm_Lop w (vl_Ln w hg)
  have h1 := sndl_acv w hg a x (ln q 13 a) (ln_le q 13 a) 0
  have h3 : ∀ N, N = a → (acp (fgm w) (lnm (vl_Ln w hg)) (Pn w N) x + itg (lnm (vl_Ln w hg)) (ln q 13 a) 0) = acv w hg (Pn w a) x := fun N hN => by
    rw [hN, itl_0 hL]
    have f2 : acv w hg (Pn w a) x = acp (fgm w) (lnm (vl_Ln w hg)) (Pn w a) x := rfl
    rw [f2]
    generalize acp (fgm w) (lnm (vl_Ln w hg)) (Pn w a) x = A
    grind
  rw [h3 _ (Nat.mod_eq_of_lt (ln_lt ha))] at h1
  exact h1
/-- the image -/
def Img (w : Wd q m d n) {g : Nat → Nat} (hg : ∀ k, g k < n) (a : letI := kR (wd_q w); PL (KT q)) (y : KT n) : Prop := ∃ x, y = acv w hg a x
theorem num_split (h2 : 2 ≤ q) {z j : Nat} (hj : j < 13) (hz : z < q ^ (j + 1)) : cmb q (dg q z j) 13 (z % q ^ j) (q ^ j) = z := by
  have up : z < q ^ 13 := Nat.lt_of_lt_of_le hz (Nat.pow_le_pow_right (by omega) (by omega))
  refine dg_ext h2 (cmb_lt _ h2 13 _ _) up (fun k hk => ?_)
  rw [cmb_dg _ h2, if_pos hk, dg_low h2, dg_pwk h2]
  have hl := dg_lt (q := q) (n := z) (k := k) h2
  by_cases c : k = j
  · rw [if_neg (by omega), if_pos c, Nat.zero_add, Nat.mul_one, c, Nat.mod_eq_of_lt (dg_lt h2)]
  · rw [if_neg c, Nat.mul_zero, Nat.add_zero]
    by_cases c1 : k < j
    · rw [if_pos c1, Nat.mod_eq_of_lt hl]
    · rw [if_neg c1, Nat.zero_mod, dg_of h2 hz (by omega)]
theorem nsp_tsp (w : Wd q m d n) {g : Nat → Nat} (hg : ∀ k, g k < n) {a : Nat} (ha : a < q ^ 13) : ∃ S, TSp q n S (Nu (Img w hg (Pn w a))) ∧ Sok q d n 0 S ∧ nsp q m d g a + nfl S.1 7 = d := by
  letI iq := kR (wd_q w)
  letI ik := kR w
  have h2 := w.q2
  have hd7 := w.d7
  have hA := acv_ok w hg
  have loop : ∀ r j s S, r + j = d → Sok q d n 0 S → s + nfl S.1 7 = j → TSp q n S (fun y => ∃ z, ∃ hz : z < n, z < q ^ j ∧ y = (acv w hg (Pn w a) (kt hz)).1) → ∃ S1, TSp q n S1 (fun y => ∃ z, ∃ hz : z < n, z < q ^ d ∧ y = (acv w hg (Pn w a) (kt hz)).1) ∧ Sok q d n 0 S1 ∧ nsl q m d g a r j s S + nfl S1.1 7 = d := by
    intro r
    induction r with
    | zero =>
      intro j s S hj hS hs1 hT
      have : j = d := by omega
      subst this
      exact ⟨S, hT, hS, hs1⟩
    | succ r ih =>
      intro j s S hj hS hs1 hT
      have hjn := pw_lt w (show j < d by omega)
      have e1 : nsl q m d g a (r + 1) j s S = nsl q m d g a r (j + 1) (if (tS q S (snd q m d g a (q ^ j)) 0).1 = 0 then s + 1 else s) (tS q S (snd q m d g a (q ^ j)) 0).2.2 := rfl
      have hsx : snd q m d g a (q ^ j) = (acv w hg (Pn w a) (kt hjn)).1 := snd_acv w hg ha (kt hjn)
      rw [e1, hsx]
      have hx := (acv w hg (Pn w a) (kt hjn)).2
      obtain ⟨f1, f2, f3⟩ := tie_feed w (t := 0) hT hx
      obtain ⟨t1, t2, t3, t4⟩ := tS_ok w hS hx (t := 0) (by rw [Nat.pow_zero]; omega)
      -- with one place more
      have hset : ∀ y, y < n → ((∃ z, ∃ hz : z < n, z < q ^ (j + 1) ∧ y = (acv w hg (Pn w a) (kt hz)).1) ↔ ∃ s z, s < q ∧ z < n ∧ (∃ u, ∃ hz : u < n, u < q ^ j ∧ z = (acv w hg (Pn w a) (kt hz)).1) ∧ y = cmb q s 13 z (acv w hg (Pn w a) (kt hjn)).1) := fun y hy => by
        have lin : ∀ (s u : Nat) (hs2 : s < q) (hu : u < n) (hc : cmb q s 13 u (q ^ j) < n), (acv w hg (Pn w a) (kt hc)).1 = cmb q s 13 (acv w hg (Pn w a) (kt hu)).1 (acv w hg (Pn w a) (kt hjn)).1 := fun s u hs2 hu hc => by
          have e3 : (kt hc : KT n) = kt hu + fgm w (kt hs2) * kt hjn := Subtype.ext (k_fgm w (kt hs2) (kt hu) (kt hjn)).symm
          have e4 : acv w hg (Pn w a) (fgm w (kt hs2) * kt hjn) = fgm w (kt hs2) * acv w hg (Pn w a) (kt hjn) := by
            have hL := fgm_Lop w (vl_Ln w hg)
            have e5 : ∀ X : KT n, acv w hg (mnm (kt hs2) 0) X = fgm w (kt hs2) * X := fun X => acp_mn hL (kt hs2) 0 X
            letI := plR (KT q)
            rw [← e5, ← hA.2.1, ← e5, ← hA.2.1]
            have e6 : Pn w a * mnm (kt hs2) 0 = mnm (kt hs2) 0 * Pn w a := by
              generalize Pn w a = A
              generalize (mnm (kt hs2) 0 : PL (KT q)) = B
              grind
            rw [e6]
          rw [e3, hA.2.2.2, e4, k_fgm w]
          rfl
        refine ⟨fun ⟨z, hz, hz1, hz2⟩ => ?_, fun ⟨s, z, hs2, hz, ⟨u, hu, hu1, hu2⟩, hy1⟩ => ?_⟩
        · have hu : z % q ^ j < n := Nat.lt_of_le_of_lt (Nat.mod_le _ _) hz
          have e3 := num_split h2 (show j < 13 by omega) hz1
          have hc : cmb q (dg q z j) 13 (z % q ^ j) (q ^ j) < n := by
            rw [e3]
            exact hz
          refine ⟨dg q z j, _, dg_lt h2, (acv w hg (Pn w a) (kt hu)).2, ⟨z % q ^ j, hu, Nat.mod_lt _ (Nat.pow_pos (by omega)), rfl⟩, ?_⟩
          rw [← lin (dg q z j) (z % q ^ j) (dg_lt h2) hu hc, hz2]
          have e4 : (kt hc : KT n) = kt hz := Subtype.ext e3
          rw [e4]
        · have hc : cmb q s 13 u (q ^ j) < n := cmb_ltn w hu hjn
          refine ⟨_, hc, cmb_small h2 (Nat.lt_of_lt_of_le hu1 (Nat.pow_le_pow_right (by omega) (by omega))) (Nat.pow_lt_pow_right (by omega) (by omega)), ?_⟩
          rw [hy1, hu2]
          exact (lin s u hs2 hu hc).symm
      by_cases c : (tS q S (acv w hg (Pn w a) (kt hjn)).1 0).1 = 0
      · rw [if_pos c, t3 c]
        refine ih (j + 1) (s + 1) S (by omega) hS (by omega) (hT.cg (fun y hy => ?_))
        rw [hset y hy]
        obtain ⟨u0, v1, v2, v3⟩ := f1.mp c
        refine ⟨fun ⟨s, z, hs2, hz, ⟨u, hu, hu1, hu2⟩, hy1⟩ => ?_, fun ⟨u, hu, hu1, hu2⟩ => ⟨0, y, by omega, hy, ⟨u, hu, hu1, hu2⟩, (cmb_0s w hy).symm⟩⟩
        have hc : cmb q s 13 u u0 < n := cmb_ltn w hu v1
        refine ⟨_, hc, cmb_small h2 hu1 v2, ?_⟩
        rw [hy1, hu2, v3]
        have e3 : (kt hc : KT n) = kt hu + fgm w (kt hs2) * kt v1 := Subtype.ext (k_fgm w (kt hs2) (kt hu) (kt v1)).symm
        have e4 : acv w hg (Pn w a) (fgm w (kt hs2) * kt v1) = fgm w (kt hs2) * acv w hg (Pn w a) (kt v1) := by
          have hL := fgm_Lop w (vl_Ln w hg)
          have e5 : ∀ X : KT n, acv w hg (mnm (kt hs2) 0) X = fgm w (kt hs2) * X := fun X => acp_mn hL (kt hs2) 0 X
          letI := plR (KT q)
          rw [← e5, ← hA.2.1, ← e5, ← hA.2.1]
          have e6 : Pn w a * mnm (kt hs2) 0 = mnm (kt hs2) 0 * Pn w a := by
            generalize Pn w a = A
            generalize (mnm (kt hs2) 0 : PL (KT q)) = B
            grind
          rw [e6]
        rw [e3, hA.2.2.2, e4, k_fgm w]
        rfl
      · rw [if_neg c]
        exact ih (j + 1) s _ (by omega) t1 (by rw [t4 c]; omega) ((f3 c).cg hset)
  obtain ⟨S, s1, s2, s3⟩ := loop d 0 0 tS0 rfl (Sok0 q d n 0) rfl ((TSp_0 w).cg (fun y hy => by
    have e0 : acv w hg (Pn w a) (kt w.pos) = 0 := by
      have h1 := hA.2.2.2 (Pn w a) 0 0
      have e : (0 : KT n) + 0 = 0 := by grind
      rw [e] at h1
      have e1 : (kt w.pos : KT n) = 0 := rfl
      rw [e1]
      generalize acv w hg (Pn w a) 0 = A at *
      grind
    refine ⟨fun ⟨z, hz, hz1, hz2⟩ => ?_, fun z => ⟨0, w.pos, by rw [Nat.pow_zero]; omega, by rw [e0, z]; rfl⟩⟩
    rw [Nat.pow_zero] at hz1
    have : z = 0 := by omega
    subst this
    rw [e0] at hz2
    exact hz2))
  refine ⟨S, s1.cg (fun y hy => ⟨fun ⟨h1, x, hx⟩ => ⟨x.1, x.2, by rw [← w.nq]; exact x.2, congrArg Subtype.val hx⟩, fun ⟨z, hz, _, hz2⟩ => ⟨hy, kt hz, Subtype.ext hz2⟩⟩), s2, s3⟩
/-- the places that are kept are those that lead -/
theorem TSp.fl (w : Wd q m d n) {S : TSt} {W : Nat → Prop} (h : TSp q n S W) {p : Nat} (hp : p < 7) : S.1 p = true ↔ ∃ x, x < n ∧ W x ∧ dg q x p ≠ 0 ∧ ∀ k, p < k → k < 7 → dg q x k = 0 := by
  have h2 := w.q2
  obtain ⟨u, N, rw, h1, hS, hT, h4⟩ := h
  have e7 : p / 7 = 0 := by omega
  have e8 : p % 7 = p := by omega
  refine ⟨fun hf => ?_, fun ⟨x, x1, x2, x3, x4⟩ => ?_⟩
  · obtain ⟨k1, k2, k3, k4⟩ := hT.1 p (by omega) hf
    have hk := TSp.kept w ⟨u, N, rw, h1, hS, hT, h4⟩ hp hf
    have e : rw p 0 = S.2.1 p := congrFun hS p
    refine ⟨S.2.1 p, hk.1, hk.2, ?_, fun k c1 c2 => ?_⟩
    · rw [← e]
      unfold co at k3
      rw [e7, e8] at k3
      omega
    · rw [← e]
      have := k4 k c1 (by omega)
      unfold co at this
      rw [show k / 7 = 0 by omega, show k % 7 = k by omega] at this
      exact this
  · refine hT.2 (r1 x) (fun j _ => ?_) ((h4 x x1).mp x2) p (by omega) ?_ (fun k c1 c2 => ?_)
    · show (if j = 0 then x else 0) < n
      split
      · exact x1
      · exact w.pos
    · unfold co
      rw [e7, e8]
      exact x3
    · unfold co
      by_cases z : k < 7
      · rw [show k / 7 = 0 by omega, show k % 7 = k by omega]
        exact x4 k c1 z
      · rw [show r1 x (k / 7) = 0 from if_neg (by omega)]
        exact dg_zero ..
theorem nfl_mono {fl gl : Nat → Bool} (N : Nat) : (∀ p, p < N → fl p = true → gl p = true) → nfl fl N ≤ nfl gl N := by
  induction N with
  | zero => exact fun _ => Nat.le_refl _
  | succ N ih =>
    intro h
    have h1 := ih (fun p hp => h p (by omega))
    have h3 := h N (by omega)
    show nfl fl N + (if fl N = true then 1 else 0) ≤ nfl gl N + (if gl N = true then 1 else 0)
    by_cases c : fl N = true
    · rw [if_pos c, if_pos (h3 c)]
      omega
    · rw [if_neg c]
      omega
theorem TSp.le (w : Wd q m d n) {S S1 : TSt} {W V : Nat → Prop} (h : TSp q n S W) (h1 : TSp q n S1 V) (hWV : ∀ x, x < n → W x → V x) : nfl S.1 7 ≤ nfl S1.1 7 := nfl_mono 7 (fun p hp hf => by
  obtain ⟨x, x1, x2, x3, x4⟩ := (h.fl w hp).mp hf
  exact (h1.fl w hp).mpr ⟨x, x1, hWV x x1 x2, x3, x4⟩)
end IMG
