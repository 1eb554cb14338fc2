/-! the points divide the great power's determinant -/
theorem rg_e3 {S : Type} [Lean.Grind.CommRing S] (x y : S) : x * y + -x * y = 0 := by grind
section CKR
variable {q m d n : Nat}
/-- what a module of two powers makes of rows -/
def dop (hp : Pw q m d n) (g0 g1 g2 : KT n) (y : PQ d (KT n)) : PQ d (KT n) := letI := kR hp.1; ⟨fun k => itg (frq q) k g0 * y.1 k + itg (frq q) k g1 * y.1 (k + 1) + itg (frq q) k g2 * y.1 (k + 2), fun i => by
  have e : ∀ x, itg (frq q) (i + d) x = itg (frq q) i x := fun x => by
    have := fri_mulp hp x i 1
    rw [Nat.mul_one] at this
    exact this
  have e1 : y.1 (i + d + 1) = y.1 (i + 1) := by
    rw [show i + d + 1 = i + 1 + d by omega]
    exact pqp y (i + 1)
  have e2 : y.1 (i + d + 2) = y.1 (i + 2) := by
    rw [show i + d + 2 = i + 2 + d by omega]
    exact pqp y (i + 2)
  have e3 : y.1 (i + d) = y.1 i := pqp y i
  show itg (frq q) (i + d) g0 * y.1 (i + d) + itg (frq q) (i + d) g1 * y.1 (i + d + 1) + itg (frq q) (i + d) g2 * y.1 (i + d + 2) = _
  rw [e, e, e, e1, e2, e3]⟩
theorem dop_lop (hp : Pw q m d n) (g0 g1 g2 : KT n) : letI := kR hp.1; letI := pqR d (KT n); Lop (pqC : KT n → PQ d (KT n)) (dop hp g0 g1 g2) := by
  letI := kR hp.1
  letI := pqR d (KT n)
  have hC := pqC_hom (S := KT n) d
  refine ⟨hC.1, hC.2.1, hC.2.2, fun x y => Subtype.ext (funext fun k => ?_), fun a x => Subtype.ext (funext fun k => ?_)⟩
  · show itg (frq q) k g0 * (x.1 k + y.1 k) + itg (frq q) k g1 * (x.1 (k + 1) + y.1 (k + 1)) + itg (frq q) k g2 * (x.1 (k + 2) + y.1 (k + 2)) = itg (frq q) k g0 * x.1 k + itg (frq q) k g1 * x.1 (k + 1) + itg (frq q) k g2 * x.1 (k + 2) + (itg (frq q) k g0 * y.1 k + itg (frq q) k g1 * y.1 (k + 1) + itg (frq q) k g2 * y.1 (k + 2))
    generalize itg (frq q) k g0 = a0
    generalize itg (frq q) k g1 = a1
    generalize itg (frq q) k g2 = a2
    generalize x.1 k = b0
    generalize x.1 (k + 1) = b1
    generalize x.1 (k + 2) = b2
    generalize y.1 k = c0
    generalize y.1 (k + 1) = c1
    generalize y.1 (k + 2) = c2
    clear hC
    grind
  · show itg (frq q) k g0 * (a * x.1 k) + itg (frq q) k g1 * (a * x.1 (k + 1)) + itg (frq q) k g2 * (a * x.1 (k + 2)) = a * (itg (frq q) k g0 * x.1 k + itg (frq q) k g1 * x.1 (k + 1) + itg (frq q) k g2 * x.1 (k + 2))
    generalize itg (frq q) k g0 = a0
    generalize itg (frq q) k g1 = a1
    generalize itg (frq q) k g2 = a2
    generalize x.1 k = b0
    generalize x.1 (k + 1) = b1
    generalize x.1 (k + 2) = b2
    clear hC
    grind
theorem dop_tor (hp : Pw q m d n) (g0 g1 g2 : KT n) : letI := kR hp.1; letI := pqR d (KT n); Tor (acp (pqC : KT n → PQ d (KT n)) (dop hp g0 g1 g2)) := by
  letI := kR hp.1
  letI := pqR d (KT n)
  have hd1 : 1 ≤ d := hp.1.2.2.2.2.1
  refine tor_of (dop_lop hp g0 g1 g2) (cd := fun y => rcd n d (fun i => (y.1 i).1)) (B := n ^ d) (fun y => rcd_lt hp.1.pos d _ (fun i => (y.1 i).2)) (fun x y h => ?_)
  have h1 := rcd_inj hp.1.pos d _ _ (fun i => (x.1 i).2) (fun i => (y.1 i).2) h
  have hper : ∀ (z : PQ d (KT n)) c r, z.1 (r + d * c) = z.1 r := fun z c r => by
    induction c with
    | zero => rfl
    | succ c ih =>
      rw [Nat.mul_succ, ← Nat.add_assoc]
      exact (pqp z _).trans ih
  refine Subtype.ext (funext fun k => ?_)
  have e := Nat.mod_add_div k d
  rw [← e]
  refine (hper x _ _).trans (Eq.trans ?_ (hper y _ _).symm)
  exact Subtype.ext (h1 _ (Nat.mod_lt _ (by omega)))
/-- what the module makes of a rest -/
theorem iot_T (hp : Pw q m d n) {g : Nat → Nat} (hg : ∀ k, g k < n) (h3 : ∀ k, 3 ≤ k → g k = 0) (x : KT n) : iot hp (lnm (vl_Ln hp.1 hg) x) = dop hp (kt (hg 0)) (kt (hg 1)) (kt (hg 2)) (iot hp x) := by
  have w := hp.1
  letI ik := kR hp.1
  have h2 := w.q2
  have hch := k_chq hp.1
  have ev : lnm (vl_Ln hp.1 hg) x = kt (hg 0) * x + kt (hg 1) * frq q x + kt (hg 2) * frq q (frq q x) := by
    refine Subtype.ext ?_
    have e1 : vl q m d g x.1 = vls q m d g x.1 3 := vls_ext w x.2 (by omega) h3
    have t : ∀ i, (itg (frq q) i x).1 = tu q m d x.1 i := fun i => by rw [fri_val hp.1, tu_itr hp x.2]
    have e2 : vls q m d g x.1 3 = (((0 : KT n) + kt (hg 0) * itg (frq q) 0 x) + kt (hg 1) * itg (frq q) 1 x + kt (hg 2) * itg (frq q) 2 x).1 := by
      show cmb q 1 13 (cmb q 1 13 (cmb q 1 13 0 (mu q m (g 0) (tu q m d x.1 0))) (mu q m (g 1) (tu q m d x.1 1))) (mu q m (g 2) (tu q m d x.1 2)) = cmb q 1 13 (cmb q 1 13 (cmb q 1 13 0 (mu q m (g 0) (itg (frq q) 0 x).1)) (mu q m (g 1) (itg (frq q) 1 x).1)) (mu q m (g 2) (itg (frq q) 2 x).1)
      rw [t, t, t]
    show vl q m d g x.1 = _
    rw [e1, e2]
    refine congrArg Subtype.val ?_
    have e3 : itg (frq q) 0 x = x := rfl
    have e4 : itg (frq q) 1 x = frq q x := rfl
    have e5 : itg (frq q) 2 x = frq q (frq q x) := rfl
    rw [e3, e4, e5]
    generalize frq q (frq q x) = A
    generalize frq q x = B
    grind
  refine Subtype.ext (funext fun k => ?_)
  show itg (frq q) k (lnm (vl_Ln hp.1 hg) x) = itg (frq q) k (kt (hg 0)) * itg (frq q) k x + itg (frq q) k (kt (hg 1)) * itg (frq q) (k + 1) x + itg (frq q) k (kt (hg 2)) * itg (frq q) (k + 2) x
  have e4 : itg (frq q) (k + 1) x = itg (frq q) k (frq q x) := rfl
  have e5 : itg (frq q) (k + 2) x = itg (frq q) k (frq q (frq q x)) := rfl
  rw [ev, fri_add hch, fri_add hch, fri_mul, fri_mul, fri_mul, e4, e5]
theorem iot_add (hp : Pw q m d n) (x y : KT n) : letI := kR hp.1; letI := pqR d (KT n); iot hp (x + y) = iot hp x + iot hp y := by
  letI := kR hp.1
  exact Subtype.ext (funext fun k => fri_add (k_chq hp.1) k x y)
theorem iot_sc (hp : Pw q m d n) (s : KT q) (x : KT n) : letI := kR hp.1; letI := pqR d (KT n); iot hp (fgm hp.1 s * x) = pqC (fgm hp.1 s) * iot hp x := by
  letI := kR hp.1
  refine Subtype.ext (funext fun k => ?_)
  show itg (frq q) k (fgm hp.1 s * x) = fgm hp.1 s * itg (frq q) k x
  rw [fri_mul, fgm_fri hp.1]
/-- a basis of steps, in rows -/
theorem hbs_iot (hp : Pw q m d n) {g : Nat → Nat} (hg : ∀ k, g k < n) (h3 : ∀ k, 3 ≤ k → g k = 0) {b : Nat → KT n} {H : Nat → Nat → KT q} (hB : letI := kR (wd_q hp.1); letI := kR hp.1; HBs (fgm hp.1) (lnm (vl_Ln hp.1 hg)) b H d) : letI := kR hp.1; letI := pqR d (KT n); HBs pqC (dop hp (kt (hg 0)) (kt (hg 1)) (kt (hg 2))) (fun i => iot hp (b i)) (fun i j => fgm hp.1 (H i j)) d := by
  letI iq := kR (wd_q hp.1)
  letI ik := kR hp.1
  letI ix := pqR d (KT n)
  have hC := pqC_hom (S := KT n) d
  have i0 : iot hp 0 = 0 := Subtype.ext (funext fun k => fri_0 (k_chq hp.1) k)
  refine ⟨fun j hj => ?_, fun j hj => ?_, fun j hj s hs => ?_⟩
  · have h1 := hB.1 j hj
    have e1 := lnc_map (φ := fgm hp.1) (ψ := (pqC : KT n → PQ d (KT n))) (F := iot hp) (f := fgm hp.1) i0 (iot_add hp) (iot_sc hp) (fun i => H i j) b (j + 1)
    rw [← iot_T hp hg h3, h1, iot_add, iot_sc, e1]
  · show fgm hp.1 (H (j + 1) j) = 0
    rw [hB.2.1 j hj]
    exact hom_0 (fgm_hom hp.1)
  · obtain ⟨c, hc⟩ := sp_lnc j _ hs
    have hf := iot_free hp hB.2.2 (j + 1) (by omega) (fun i => if i < j then c i else -s) (by
      show lnc pqC (fun i => if i < j then c i else -s) (fun i => iot hp (b i)) j + pqC (if j < j then c j else -s) * iot hp (b j) = 0
      rw [lnc_cg (c := c) j (fun i hi => if_pos hi), if_neg (Nat.lt_irrefl j), ← hc, hom_neg hC]
      exact rg_e3 _ _) j (by omega)
    rw [if_neg (Nat.lt_irrefl j)] at hf
    grind
/-- one at the places where k + j comes round -/
def unt (hp : Pw q m d n) (j : Nat) : PQ d (KT n) := letI := kR hp.1; ⟨fun k => if (k + j) % d = 0 then 1 else 0, fun i => by
  show (if (i + d + j) % d = 0 then (1 : KT n) else 0) = if (i + j) % d = 0 then 1 else 0
  rw [show i + d + j = i + j + d by omega, Nat.add_mod_right]⟩
/-- the q-th powers backwards -/
def gam (hp : Pw q m d n) (j : Nat) (x : KT n) : KT n := letI := kR hp.1; itg (frq q) ((d - 1) * j) x
theorem gam_at (hp : Pw q m d n) {k j : Nat} (h : (k + j) % d = 0) (x : KT n) : letI := kR hp.1; itg (frq q) k x = gam hp j x := by
  letI := kR hp.1
  have hd1 : 1 ≤ d := hp.1.2.2.2.2.1
  have e1 : (d - 1) * j + j = d * j := by
    rw [← Nat.succ_mul, show (d - 1).succ = d by omega]
  have e2 : k + j = d * ((k + j) / d) := by
    have := Nat.div_add_mod (k + j) d
    omega
  have h1 := fri_mulp hp x k j
  have h3 := fri_mulp hp x ((d - 1) * j) ((k + j) / d)
  have e3 : k + d * j = (d - 1) * j + d * ((k + j) / d) := by omega
  rw [e3, h3] at h1
  exact h1.symm
theorem unt_per (hp : Pw q m d n) (j : Nat) : unt hp (j + d) = unt hp j := by
  letI := kR hp.1
  refine Subtype.ext (funext fun k => ?_)
  show (if (k + (j + d)) % d = 0 then (1 : KT n) else 0) = if (k + j) % d = 0 then 1 else 0
  rw [← Nat.add_assoc, Nat.add_mod_right]
theorem unt_T (hp : Pw q m d n) (g0 g1 g2 : KT n) (j : Nat) : letI := kR hp.1; letI := pqR d (KT n); dop hp g0 g1 g2 (unt hp j) = pqC (gam hp j g0) * unt hp j + pqC (gam hp (j + 1) g1) * unt hp (j + 1) + pqC (gam hp (j + 2) g2) * unt hp (j + 2) := by
  letI := kR hp.1
  letI := pqR d (KT n)
  have key : ∀ (k j : Nat) (x : KT n), itg (frq q) k x * (if (k + j) % d = 0 then (1 : KT n) else 0) = gam hp j x * (if (k + j) % d = 0 then (1 : KT n) else 0) := fun k j x => by
    by_cases c : (k + j) % d = 0
    · rw [if_pos c, gam_at hp c]
    · rw [if_neg c]
      generalize itg (frq q) k x = A
      generalize gam hp j x = B
      grind
  refine Subtype.ext (funext fun k => ?_)
  have h1 := key k j g0
  have h3 := key k (j + 1) g1
  have h5 := key k (j + 2) g2
  have e1 : k + 1 + j = k + (j + 1) := by omega
  have e2 : k + 2 + j = k + (j + 2) := by omega
  show itg (frq q) k g0 * (if (k + j) % d = 0 then (1 : KT n) else 0) + itg (frq q) k g1 * (if (k + 1 + j) % d = 0 then (1 : KT n) else 0) + itg (frq q) k g2 * (if (k + 2 + j) % d = 0 then (1 : KT n) else 0) = gam hp j g0 * (if (k + j) % d = 0 then (1 : KT n) else 0) + gam hp (j + 1) g1 * (if (k + (j + 1)) % d = 0 then (1 : KT n) else 0) + gam hp (j + 2) g2 * (if (k + (j + 2)) % d = 0 then (1 : KT n) else 0)
  rw [e1, e2, h1, h3, h5]
/-- all rows are made of the units -/
theorem unt_all (hp : Pw q m d n) {U : PQ d (KT n) → Prop} (h0 : letI := kR hp.1; letI := pqR d (KT n); U 0) (h1 : letI := kR hp.1; letI := pqR d (KT n); ∀ x y, U x → U y → U (x + y)) (h3 : letI := kR hp.1; letI := pqR d (KT n); ∀ (c : KT n) x, U x → U (pqC c * x)) (hu : ∀ j, U (unt hp j)) (y : PQ d (KT n)) : U y := by
  letI := kR hp.1
  letI := pqR d (KT n)
  have hd1 : 1 ≤ d := hp.1.2.2.2.2.1
  have hper : ∀ (z : PQ d (KT n)) c r, z.1 (r + d * c) = z.1 r := fun z c r => by
    induction c with
    | zero => rfl
    | succ c ih =>
      rw [Nat.mul_succ, ← Nat.add_assoc]
      exact (pqp z _).trans ih
  have key : ∀ N, N ≤ d → ∀ y : PQ d (KT n), (∀ k, k < d → N ≤ k → y.1 k = 0) → U y := fun N => by
    induction N with
    | zero =>
      intro _ y hy
      have e : y = 0 := Subtype.ext (funext fun k => by
        have e := Nat.mod_add_div k d
        rw [← e]
        exact (hper y _ _).trans (hy _ (Nat.mod_lt _ (by omega)) (Nat.zero_le _)))
      rw [e]
      exact h0
    | succ N ih =>
      intro hN y hy
      have huv : ∀ k, k < d → (unt hp ((d - 1) * N)).1 k = if k = N then 1 else 0 := fun k hk => by
        show (if (k + (d - 1) * N) % d = 0 then (1 : KT n) else 0) = _
        have e1 : (d - 1) * N + N = d * N := by
          rw [← Nat.succ_mul, show (d - 1).succ = d by omega]
        by_cases c : k = N
        · rw [if_pos c, c, show N + (d - 1) * N = d * N by omega, Nat.mul_mod_right, if_pos rfl]
        · rw [if_neg c]
          refine if_neg (fun z => c ?_)
          have e2 : k + (d - 1) * N = d * ((k + (d - 1) * N) / d) := by
            have := Nat.div_add_mod (k + (d - 1) * N) d
            omega
          generalize (k + (d - 1) * N) / d = X at *
          -- k + d N = N + d X
          have e3 : k + d * N = N + d * X := by omega
          have e4 : (k + d * N) % d = (N + d * X) % d := by rw [e3]
          rw [Nat.add_mul_mod_self_left, Nat.add_mul_mod_self_left, Nat.mod_eq_of_lt hk, Nat.mod_eq_of_lt (by omega)] at e4
          exact e4
      have h5 := ih (by omega) (y - pqC (y.1 N) * unt hp ((d - 1) * N)) (fun k hk hNk => by
        have e : (y - pqC (y.1 N) * unt hp ((d - 1) * N)).1 k = y.1 k - y.1 N * (unt hp ((d - 1) * N)).1 k := by
          show y.1 k + -(y.1 N * (unt hp ((d - 1) * N)).1 k) = y.1 k - y.1 N * (unt hp ((d - 1) * N)).1 k
          generalize y.1 k = A
          generalize y.1 N * (unt hp ((d - 1) * N)).1 k = B
          grind
        rw [e, huv k hk]
        by_cases c : k = N
        · rw [if_pos c, c]
          generalize y.1 N = A
          grind
        · rw [if_neg c, hy k hk (by omega)]
          generalize y.1 N = A
          grind)
      have h7 := h1 _ _ h5 (h3 (y.1 N) _ (hu ((d - 1) * N)))
      have e : y - pqC (y.1 N) * unt hp ((d - 1) * N) + pqC (y.1 N) * unt hp ((d - 1) * N) = y := by
        generalize pqC (y.1 N) * unt hp ((d - 1) * N) = A
        grind
      rw [e] at h7
      exact h7
  exact key d (Nat.le_refl _) y (fun k h1 h3 => absurd h3 (by omega))
/-- the determinant of the d-th step less 1 -/
theorem pts_det (hp : Pw q m d n) {g : Nat → Nat} (hg : ∀ k, g k < n) (h3 : ∀ k, 3 ≤ k → g k = 0) {ig : KT n} (hig : letI := kR hp.1; ig * kt (hg 2) = 1) : letI := kR (wd_q hp.1); letI := kR hp.1; letI := plR (KT n); Dv (pmap (fgm_hom hp.1) (Pn hp.1 (pts q m d g))) (rcW (fun j => gam hp j (kt (hg 0))) (fun j => gam hp (j + 2) ig) d - rcA (fun j => gam hp j (kt (hg 0))) (fun j => gam hp (j + 1) (kt (hg 1))) (fun j => gam hp (j + 2) ig) d - rcB (fun j => gam hp j (kt (hg 0))) (fun j => gam hp (j + 1) (kt (hg 1))) (fun j => gam hp (j + 2) ig) (d + 1) + 1) := by
  have w := hp.1
  letI iq := kR (wd_q hp.1)
  letI ik := kR hp.1
  letI ix := pqR d (KT n)
  letI ip := plR (KT n)
  have h2 := w.q2
  have hf := vl_Ln hp.1 hg
  have hL := dop_lop hp (kt (hg 0)) (kt (hg 1)) (kt (hg 2))
  have hA := acp_ok hL
  have hR := k_ne hp.1
  have hI := k_ivs hp
  have hT := dop_tor hp (kt (hg 0)) (kt (hg 1)) (kt (hg 2))
  obtain ⟨H, hH⟩ := hes_ex hp.1 hg
  have hpt := ptsOK q m d n g H hp hg hH
  obtain ⟨⟨⟨b, hb⟩, hz⟩, hlt⟩ := hH
  have hB := hbs_iot hp hg h3 (hbs_of hp.1 hf hb hlt (fun i j hi hj h => hz i j hi hj h))
  have hF := fhs_map (fgm_hom hp.1) (fhs_of hp.1 hlt)
  obtain ⟨l1, c1, c2⟩ := hes_chn hR hI hL hB hF
  rw [hpt] at c1
  have e0 : SPn (pqC : KT n → PQ d (KT n)) (fun i => iot hp (kB hb.1 i)) 0 = fun x => x = 0 := funext fun x => rfl
  rw [e0] at c1 c2
  have hZ : Sbm (acp (pqC : KT n → PQ d (KT n)) (dop hp (kt (hg 0)) (kt (hg 1)) (kt (hg 2)))) (fun x : PQ d (KT n) => x = 0) := by
    rw [← e0]
    exact sp_sbm hL hB (Nat.zero_le _) (fun k hk => absurd hk (by omega))
  -- two units reach all
  have hgi : ∀ j, gam hp (j + 2) ig * gam hp (j + 2) (kt (hg 2)) = 1 := fun j => by
    show itg (frq q) _ ig * itg (frq q) _ (kt (hg 2)) = 1
    rw [← fri_mul, hig]
    have e := fgm_fri hp.1 1 ((d - 1) * (j + 2))
    rw [(fgm_hom hp.1).2.2] at e
    exact e
  have hrep := rc_rep hL (c0 := fun j => gam hp j (kt (hg 0))) (c1 := fun j => gam hp (j + 1) (kt (hg 1))) (c2 := fun j => gam hp (j + 2) (kt (hg 2))) (i2 := fun j => gam hp (j + 2) ig) hgi (u := unt hp) (fun j => unt_T hp (kt (hg 0)) (kt (hg 1)) (kt (hg 2)) j)
  have hall : ∀ x, Spl (acp (pqC : KT n → PQ d (KT n)) (dop hp (kt (hg 0)) (kt (hg 1)) (kt (hg 2)))) (fun x => x = 0) [unt hp 0, unt hp 1] x := fun x => by
    have hS := spl_sbm hA [unt hp 0, unt hp 1] _ hZ
    refine unt_all hp hS.1 hS.2.1 (fun c x hx => ?_) (fun j => ?_) x
    · have := hS.2.2 (mnm c 0) x hx
      rw [acp_m0 hL] at this
      exact this
    · rw [(hrep j).1]
      exact ⟨acp pqC (dop hp (kt (hg 0)) (kt (hg 1)) (kt (hg 2))) _ (unt hp 0), _, ⟨0, _, rfl, by
        generalize acp pqC (dop hp (kt (hg 0)) (kt (hg 1)) (kt (hg 2))) (rcA (fun j => gam hp j (kt (hg 0))) (fun j => gam hp (j + 1) (kt (hg 1))) (fun j => gam hp (j + 2) ig) j) (unt hp 0) = A
        grind⟩, rfl⟩
  obtain ⟨P2, hP2⟩ := chn_ex hI hA hT [unt hp 0, unt hp 1] _ hZ
  obtain ⟨P3, hP3⟩ := chn_ex hI hA hT [unt hp 0, unt hp 1] _ (spl_sbm hA l1 _ hZ)
  have k1 := chn_app l1 [unt hp 0, unt hp 1] _ _ _ c1 hP3
  have hall2 : ∀ x, Spl (acp (pqC : KT n → PQ d (KT n)) (dop hp (kt (hg 0)) (kt (hg 1)) (kt (hg 2)))) (fun x => x = 0) (l1 ++ [unt hp 0, unt hp 1]) x := fun x => by
    rw [spl_app]
    have hS1 := spl_sbm hA l1 _ hZ
    refine spl_mono _ _ _ (fun y hy => ?_) x (hall x)
    have hy : y = 0 := hy
    rw [hy]
    exact hS1.1
  have k3 := chn_all hR hI hA hT hZ hP2 k1 hall hall2
  have kd : Dv (pmap (fgm_hom hp.1) (Pn hp.1 (pts q m d g))) P2 := by
    rw [k3]
    exact Dv.self_l _ _
  refine kd.trans ?_
  have r1 := (hrep d).1
  have r2 := (hrep (d + 1)).1
  have p1 : unt hp d = unt hp 0 := by
    have := unt_per hp 0
    rw [Nat.zero_add] at this
    exact this
  have p2 : unt hp (d + 1) = unt hp 1 := by
    have := unt_per hp 1
    rw [Nat.add_comm 1 d] at this
    exact this
  rw [p1] at r1
  rw [p2] at r2
  have hW := rc_wr (fun j => gam hp j (kt (hg 0))) (fun j => gam hp (j + 1) (kt (hg 1))) (fun j => gam hp (j + 2) ig) d
  rw [← hW]
  generalize rcA (fun j => gam hp j (kt (hg 0))) (fun j => gam hp (j + 1) (kt (hg 1))) (fun j => gam hp (j + 2) ig) d = Ad at *
  generalize rcB (fun j => gam hp j (kt (hg 0))) (fun j => gam hp (j + 1) (kt (hg 1))) (fun j => gam hp (j + 2) ig) d = Bd at *
  generalize rcA (fun j => gam hp j (kt (hg 0))) (fun j => gam hp (j + 1) (kt (hg 1))) (fun j => gam hp (j + 2) ig) (d + 1) = Ae at *
  generalize rcB (fun j => gam hp j (kt (hg 0))) (fun j => gam hp (j + 1) (kt (hg 1))) (fun j => gam hp (j + 2) ig) (d + 1) = Be at *
  have h5 := lat_dv hA hP2 (a := Ad - 1) (b := Bd) (a1 := Ae) (b1 := Be - 1) (by
    rw [acp_sub hL, hA.2.2.1]
    generalize acp pqC (dop hp (kt (hg 0)) (kt (hg 1)) (kt (hg 2))) Ad (unt hp 0) = X at *
    generalize acp pqC (dop hp (kt (hg 0)) (kt (hg 1)) (kt (hg 2))) Bd (unt hp 1) = Y at *
    clear hall hall2 k3 k1 hP3 hP2 hrep hgi hZ c1 c2 hF hB hT hA hL r2
    grind) (by
    rw [acp_sub hL, hA.2.2.1]
    generalize acp pqC (dop hp (kt (hg 0)) (kt (hg 1)) (kt (hg 2))) Ae (unt hp 0) = X at *
    generalize acp pqC (dop hp (kt (hg 0)) (kt (hg 1)) (kt (hg 2))) Be (unt hp 1) = Y at *
    clear hall hall2 k3 k1 hP3 hP2 hrep hgi hZ c1 c2 hF hB hT hA hL r1
    grind)
  have e : (Ad - 1) * (Be - 1) - Ae * Bd = Ad * Be - Bd * Ae - Ad - Be + 1 := by
    clear h5 hall hall2 k3 k1 hP3 hP2 hrep hgi hZ c1 c2 hF hB hT hA hL r1 r2 hW kd
    grind
  rw [e] at h5
  exact h5
end CKR
