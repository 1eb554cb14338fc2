/-! the great power: its trace -/
section TRX
variable {q m d n : Nat}
/-- q-th powers, one place up -/
def tS1 (hp : Pw q m d n) (y : SQ (KT n)) : SQ (KT n) := letI := kR hp.1; fun k => match k with
  | 0 => 0
  | k + 1 => frq q (y k)
def shS (hp : Pw q m d n) (y : SQ (KT n)) : SQ (KT n) := letI := kR hp.1; fun k => match k with
  | 0 => 0
  | k + 1 => y k
/-- a rest from the right -/
def phS (hp : Pw q m d n) (c : KT n) : SQ (KT n) := letI := kR hp.1; fun k => itg (frq q) k c
def csS (c : KT n) : SQ (KT n) := fun _ => c
theorem sq_ext {S : Type} {x y : SQ S} (h : ∀ k, x k = y k) : x = y := funext h
theorem tS1_0 (hp : Pw q m d n) (y : SQ (KT n)) : letI := kR hp.1; tS1 hp y 0 = 0 := rfl
theorem tS1_k (hp : Pw q m d n) (y : SQ (KT n)) (k : Nat) : letI := kR hp.1; tS1 hp y (k + 1) = frq q (y k) := rfl
theorem shS_0 (hp : Pw q m d n) (y : SQ (KT n)) : letI := kR hp.1; shS hp y 0 = 0 := rfl
theorem shS_k (hp : Pw q m d n) (y : SQ (KT n)) (k : Nat) : shS hp y (k + 1) = y k := rfl
theorem tS1_add (hp : Pw q m d n) (x y : SQ (KT n)) : letI := kR hp.1; letI := sqR (KT n); tS1 hp (x + y) = tS1 hp x + tS1 hp y := by
  letI := kR hp.1
  letI := sqR (KT n)
  refine sq_ext (fun k => ?_)
  cases k with
  | zero =>
    show (0 : KT n) = 0 + 0
    grind
  | succ k => exact frq_add (k_chq hp.1) (x k) (y k)
theorem tS1_ph (hp : Pw q m d n) (c : KT n) (x : SQ (KT n)) : letI := kR hp.1; letI := sqR (KT n); tS1 hp (phS hp c * x) = phS hp c * tS1 hp x := by
  letI := kR hp.1
  letI := sqR (KT n)
  refine sq_ext (fun k => ?_)
  cases k with
  | zero =>
    show (0 : KT n) = phS hp c 0 * 0
    generalize phS hp c 0 = A
    grind
  | succ k =>
    show frq q (itg (frq q) k c * x k) = itg (frq q) (k + 1) c * frq q (x k)
    rw [frq_mul, itg_s]
theorem tS1_cs (hp : Pw q m d n) (c : KT n) (x : SQ (KT n)) : letI := kR hp.1; letI := sqR (KT n); tS1 hp (csS c * x) = csS (frq q c) * tS1 hp x := by
  letI := kR hp.1
  letI := sqR (KT n)
  refine sq_ext (fun k => ?_)
  cases k with
  | zero =>
    show (0 : KT n) = frq q c * 0
    generalize frq q c = A
    grind
  | succ k => exact frq_mul q c (x k)
theorem tS1_sh (hp : Pw q m d n) (x : SQ (KT n)) : tS1 hp (shS hp x) = shS hp (tS1 hp x) := by
  letI := kR hp.1
  refine sq_ext (fun k => ?_)
  cases k with
  | zero => rfl
  | succ k =>
    cases k with
    | zero => exact fri_0 (k_chq hp.1) 1
    | succ k => rfl
theorem shS_add (hp : Pw q m d n) (x y : SQ (KT n)) : letI := kR hp.1; letI := sqR (KT n); shS hp (x + y) = shS hp x + shS hp y := by
  letI := kR hp.1
  letI := sqR (KT n)
  refine sq_ext (fun k => ?_)
  cases k with
  | zero =>
    show (0 : KT n) = 0 + 0
    grind
  | succ k => rfl
theorem shS_cs (hp : Pw q m d n) (c : KT n) (x : SQ (KT n)) : letI := kR hp.1; letI := sqR (KT n); shS hp (csS c * x) = csS c * shS hp x := by
  letI := kR hp.1
  letI := sqR (KT n)
  refine sq_ext (fun k => ?_)
  cases k with
  | zero =>
    show (0 : KT n) = c * 0
    grind
  | succ k => rfl
/-- the module from the left -/
def lop (hp : Pw q m d n) (g0 g1 g2 : KT n) (y : SQ (KT n)) : SQ (KT n) := letI := kR hp.1; letI := sqR (KT n); csS g0 * y + csS g1 * tS1 hp y + csS g2 * tS1 hp (tS1 hp y)
/-- and from the right -/
def rop (hp : Pw q m d n) (g0 g1 g2 : KT n) (y : SQ (KT n)) : SQ (KT n) := letI := kR hp.1; letI := sqR (KT n); phS hp g0 * y + shS hp (phS hp g1 * y) + shS hp (shS hp (phS hp g2 * y))
theorem phS_hom (hp : Pw q m d n) : letI := kR hp.1; letI := sqR (KT n); Hom (phS hp) := by
  letI := kR hp.1
  letI := sqR (KT n)
  refine ⟨fun a b => sq_ext (fun k => fri_add (k_chq hp.1) k a b), fun a b => sq_ext (fun k => fri_mul q k a b), sq_ext (fun k => ?_)⟩
  letI := kR (wd_q hp.1)
  have e := fgm_fri hp.1 1 k
  rw [(fgm_hom hp.1).2.2] at e
  exact e
theorem lop_lop (hp : Pw q m d n) (g0 g1 g2 : KT n) : letI := kR hp.1; letI := sqR (KT n); Lop (phS hp) (lop hp g0 g1 g2) := by
  letI := kR hp.1
  letI := sqR (KT n)
  have hH := phS_hom hp
  refine ⟨hH.1, hH.2.1, hH.2.2, fun x y => ?_, fun a x => ?_⟩
  · show csS g0 * (x + y) + csS g1 * tS1 hp (x + y) + csS g2 * tS1 hp (tS1 hp (x + y)) = csS g0 * x + csS g1 * tS1 hp x + csS g2 * tS1 hp (tS1 hp x) + (csS g0 * y + csS g1 * tS1 hp y + csS g2 * tS1 hp (tS1 hp y))
    rw [tS1_add, tS1_add]
    generalize tS1 hp (tS1 hp x) = a2
    generalize tS1 hp (tS1 hp y) = b2
    generalize tS1 hp x = a1
    generalize tS1 hp y = b1
    generalize (csS g0 : SQ (KT n)) = c0
    generalize (csS g1 : SQ (KT n)) = c1
    generalize (csS g2 : SQ (KT n)) = c2
    clear hH
    grind
  · show csS g0 * (phS hp a * x) + csS g1 * tS1 hp (phS hp a * x) + csS g2 * tS1 hp (tS1 hp (phS hp a * x)) = phS hp a * (csS g0 * x + csS g1 * tS1 hp x + csS g2 * tS1 hp (tS1 hp x))
    rw [tS1_ph, tS1_ph]
    generalize tS1 hp (tS1 hp x) = a2
    generalize tS1 hp x = a1
    generalize (csS g0 : SQ (KT n)) = c0
    generalize (csS g1 : SQ (KT n)) = c1
    generalize (csS g2 : SQ (KT n)) = c2
    generalize phS hp a = p
    clear hH
    grind
theorem rop_add (hp : Pw q m d n) (g0 g1 g2 : KT n) (x y : SQ (KT n)) : letI := kR hp.1; letI := sqR (KT n); rop hp g0 g1 g2 (x + y) = rop hp g0 g1 g2 x + rop hp g0 g1 g2 y := by
  letI := kR hp.1
  letI := sqR (KT n)
  have dist : ∀ c : SQ (KT n), c * (x + y) = c * x + c * y := fun c => by grind
  show phS hp g0 * (x + y) + shS hp (phS hp g1 * (x + y)) + shS hp (shS hp (phS hp g2 * (x + y))) = phS hp g0 * x + shS hp (phS hp g1 * x) + shS hp (shS hp (phS hp g2 * x)) + (phS hp g0 * y + shS hp (phS hp g1 * y) + shS hp (shS hp (phS hp g2 * y)))
  rw [dist, dist, dist, shS_add, shS_add, shS_add]
  generalize shS hp (phS hp g1 * x) = a1
  generalize shS hp (phS hp g1 * y) = b1
  generalize shS hp (shS hp (phS hp g2 * x)) = a2
  generalize shS hp (shS hp (phS hp g2 * y)) = b2
  generalize phS hp g0 * x = a0
  generalize phS hp g0 * y = b0
  clear dist
  grind
theorem rop_cs (hp : Pw q m d n) (g0 g1 g2 c : KT n) (x : SQ (KT n)) : letI := kR hp.1; letI := sqR (KT n); rop hp g0 g1 g2 (csS c * x) = csS c * rop hp g0 g1 g2 x := by
  letI := kR hp.1
  letI := sqR (KT n)
  have cm : ∀ a : SQ (KT n), a * (csS c * x) = csS c * (a * x) := fun a => by
    generalize (csS c : SQ (KT n)) = C
    grind
  show phS hp g0 * (csS c * x) + shS hp (phS hp g1 * (csS c * x)) + shS hp (shS hp (phS hp g2 * (csS c * x))) = csS c * (phS hp g0 * x + shS hp (phS hp g1 * x) + shS hp (shS hp (phS hp g2 * x)))
  rw [cm, cm, cm, shS_cs, shS_cs, shS_cs]
  generalize shS hp (phS hp g1 * x) = a1
  generalize shS hp (shS hp (phS hp g2 * x)) = a2
  generalize phS hp g0 * x = a0
  generalize (csS c : SQ (KT n)) = C
  clear cm
  grind
theorem rop_tS (hp : Pw q m d n) (g0 g1 g2 : KT n) (x : SQ (KT n)) : tS1 hp (rop hp g0 g1 g2 x) = rop hp g0 g1 g2 (tS1 hp x) := by
  letI := kR hp.1
  letI := sqR (KT n)
  show tS1 hp (phS hp g0 * x + shS hp (phS hp g1 * x) + shS hp (shS hp (phS hp g2 * x))) = phS hp g0 * tS1 hp x + shS hp (phS hp g1 * tS1 hp x) + shS hp (shS hp (phS hp g2 * tS1 hp x))
  rw [tS1_add, tS1_add, tS1_ph, tS1_sh, tS1_ph, tS1_sh, tS1_sh, tS1_ph]
theorem lop_rop (hp : Pw q m d n) (g0 g1 g2 : KT n) (x : SQ (KT n)) : lop hp g0 g1 g2 (rop hp g0 g1 g2 x) = rop hp g0 g1 g2 (lop hp g0 g1 g2 x) := by
  letI := kR hp.1
  letI := sqR (KT n)
  show csS g0 * rop hp g0 g1 g2 x + csS g1 * tS1 hp (rop hp g0 g1 g2 x) + csS g2 * tS1 hp (tS1 hp (rop hp g0 g1 g2 x)) = rop hp g0 g1 g2 (csS g0 * x + csS g1 * tS1 hp x + csS g2 * tS1 hp (tS1 hp x))
  rw [rop_add, rop_add, rop_cs, rop_cs, rop_cs, rop_tS, rop_tS]
/-- one at j -/
def dlS (hp : Pw q m d n) (j : Nat) : SQ (KT n) := letI := kR hp.1; fun k => if k = j then 1 else 0
theorem dlS_t (hp : Pw q m d n) (j : Nat) : tS1 hp (dlS hp j) = dlS hp (j + 1) := by
  letI := kR hp.1
  refine sq_ext (fun k => ?_)
  cases k with
  | zero => exact (if_neg (by omega)).symm
  | succ k =>
    show frq q (if k = j then (1 : KT n) else 0) = if k + 1 = j + 1 then 1 else 0
    by_cases c : k = j
    · rw [if_pos c, if_pos (by omega)]
      letI := kR (wd_q hp.1)
      have e := fgm_frq hp.1 1
      rw [(fgm_hom hp.1).2.2] at e
      exact e
    · rw [if_neg c, if_neg (by omega)]
      exact fri_0 (k_chq hp.1) 1
theorem gam_bk (hp : Pw q m d n) (j : Nat) (x : KT n) : letI := kR hp.1; itg (frq q) j (gam hp j x) = x := by
  letI := kR hp.1
  have hd1 : 1 ≤ d := hp.1.2.2.2.2.1
  have e1 : j + (d - 1) * j = 0 + d * j := by
    have : (d - 1) * j + j = d * j := by
      rw [← Nat.succ_mul, show (d - 1).succ = d by omega]
    omega
  show itg (frq q) j (itg (frq q) ((d - 1) * j) x) = x
  rw [← itg_add, e1, fri_mulp hp]
  rfl
theorem dlS_T (hp : Pw q m d n) (g0 g1 g2 : KT n) (j : Nat) : letI := kR hp.1; letI := sqR (KT n); lop hp g0 g1 g2 (dlS hp j) = phS hp (gam hp j g0) * dlS hp j + phS hp (gam hp (j + 1) g1) * dlS hp (j + 1) + phS hp (gam hp (j + 2) g2) * dlS hp (j + 2) := by
  letI := kR hp.1
  letI := sqR (KT n)
  have key : ∀ (j : Nat) (x : KT n), csS x * dlS hp j = phS hp (gam hp j x) * dlS hp j := fun j x => sq_ext (fun k => by
    show x * (if k = j then (1 : KT n) else 0) = itg (frq q) k (gam hp j x) * (if k = j then (1 : KT n) else 0)
    by_cases c : k = j
    · rw [if_pos c, c, gam_bk hp]
    · rw [if_neg c]
      generalize itg (frq q) k (gam hp j x) = A
      grind)
  show csS g0 * dlS hp j + csS g1 * tS1 hp (dlS hp j) + csS g2 * tS1 hp (tS1 hp (dlS hp j)) = _
  rw [dlS_t, dlS_t, key, key, key]
/-- d places up -/
def upS (hp : Pw q m d n) (y : SQ (KT n)) : SQ (KT n) := itg (tS1 hp) d y
theorem upS_val (hp : Pw q m d n) (y : SQ (KT n)) (k : Nat) : upS hp y (k + d) = y k := by
  letI := kR hp.1
  have h : ∀ e, itg (tS1 hp) e y (k + e) = itg (frq q) e (y k) := fun e => by
    induction e with
    | zero => rfl
    | succ e ih =>
      rw [itg_s, ← Nat.add_assoc, tS1_k, ih, itg_s]
  exact (h d).trans (fri_d hp (y k))
theorem upS_add (hp : Pw q m d n) (x y : SQ (KT n)) : letI := kR hp.1; letI := sqR (KT n); upS hp (x + y) = upS hp x + upS hp y := by
  letI := kR hp.1
  letI := sqR (KT n)
  have h : ∀ e, itg (tS1 hp) e (x + y) = itg (tS1 hp) e x + itg (tS1 hp) e y := fun e => by
    induction e with
    | zero => rfl
    | succ e ih => rw [itg_s, ih, tS1_add, itg_s, itg_s]
  exact h d
theorem upS_ph (hp : Pw q m d n) (c : KT n) (x : SQ (KT n)) : letI := kR hp.1; letI := sqR (KT n); upS hp (phS hp c * x) = phS hp c * upS hp x := by
  letI := kR hp.1
  letI := sqR (KT n)
  have h : ∀ e, itg (tS1 hp) e (phS hp c * x) = phS hp c * itg (tS1 hp) e x := fun e => by
    induction e with
    | zero => rfl
    | succ e ih => rw [itg_s, ih, tS1_ph, itg_s]
  exact h d
theorem upS_cs (hp : Pw q m d n) (c : KT n) (x : SQ (KT n)) : letI := kR hp.1; letI := sqR (KT n); upS hp (csS c * x) = csS c * upS hp x := by
  letI := kR hp.1
  letI := sqR (KT n)
  have h : ∀ e, itg (tS1 hp) e (csS c * x) = csS (itg (frq q) e c) * itg (tS1 hp) e x := fun e => by
    induction e with
    | zero => rfl
    | succ e ih => rw [itg_s, ih, tS1_cs, itg_s, itg_s]
  have := h d
  rw [fri_d hp] at this
  exact this
theorem upS_t (hp : Pw q m d n) (x : SQ (KT n)) : upS hp (tS1 hp x) = tS1 hp (upS hp x) := itg_s (tS1 hp) d x
theorem upS_lop (hp : Pw q m d n) (g0 g1 g2 : KT n) (x : SQ (KT n)) : upS hp (lop hp g0 g1 g2 x) = lop hp g0 g1 g2 (upS hp x) := by
  letI := kR hp.1
  letI := sqR (KT n)
  show upS hp (csS g0 * x + csS g1 * tS1 hp x + csS g2 * tS1 hp (tS1 hp x)) = csS g0 * upS hp x + csS g1 * tS1 hp (upS hp x) + csS g2 * tS1 hp (tS1 hp (upS hp x))
  rw [upS_add, upS_add, upS_cs, upS_cs, upS_cs, upS_t, upS_t, upS_t]
theorem upS_dl (hp : Pw q m d n) (j : Nat) : upS hp (dlS hp j) = dlS hp (j + d) := by
  have h : ∀ e, itg (tS1 hp) e (dlS hp j) = dlS hp (j + e) := fun e => by
    induction e with
    | zero => rfl
    | succ e ih => rw [itg_s, ih, dlS_t, Nat.add_assoc]
  exact h d
theorem acp_com {R M : Type} [Lean.Grind.CommRing R] [Lean.Grind.CommRing M] {φ : R → M} {T F : M → M} (h : Lop φ T) (h0 : F 0 = 0) (h1 : ∀ x y, F (x + y) = F x + F y) (h3 : ∀ c x, F (φ c * x) = φ c * F x) (h5 : ∀ x, F (T x) = T (F x)) (f : PL R) (x : M) : F (acp φ T f x) = acp φ T f (F x) := by
  obtain ⟨N, hN⟩ := Dlt.ex f
  rw [acp_is h hN, acp_is h hN]
  have key : ∀ N (f : Nat → R) x, F (acn φ T N f x) = acn φ T N f (F x) := fun N => by
    induction N with
    | zero => exact fun _ _ => h0
    | succ N ih =>
      intro f x
      rw [acn_s, acn_s, h1, h3, ih, h5]
  exact key N f.1 x
theorem acn_last {R M : Type} [Lean.Grind.CommRing R] [Lean.Grind.CommRing M] (φ : R → M) (T : M → M) (N : Nat) : ∀ (f : Nat → R) (x : M), acn φ T (N + 1) f x = acn φ T N f x + φ (f N) * itg T N x := by
  induction N with
  | zero =>
    intro f x
    show φ (f 0) * x + 0 = 0 + φ (f 0) * x
    grind
  | succ N ih =>
    intro f x
    have e : itg T (N + 1) x = itg T N (T x) := rfl
    rw [acn_s, ih, acn_s φ T N, e]
    generalize acn φ T N (fun i => f (i + 1)) (T x) = A
    generalize itg T N (T x) = B
    grind
theorem acn_lnc {R M : Type} [Lean.Grind.CommRing R] [Lean.Grind.CommRing M] (φ : R → M) (T : M → M) (f : Nat → R) (x : M) (N : Nat) : acn φ T N f x = lnc φ f (fun i => itg T i x) N := by
  induction N with
  | zero => rfl
  | succ N ih =>
    rw [acn_last, ih]
    rfl
/-- the next power of the module: three terms -/
theorem gpw_step (w : Wd q m d n) {g : Nat → Nat} (hg : ∀ k, g k < n) (h3 : ∀ k, 3 ≤ k → g k = 0) (i k : Nat) : gpw q m d g (i + 1) k = cmb q 1 13 (cmb q 1 13 (mu q m (gpw q m d g i k) (tu q m d (g 0) k)) (if 1 ≤ k then mu q m (gpw q m d g i (k - 1)) (tu q m d (g 1) (k - 1)) else 0)) (if 2 ≤ k then mu q m (gpw q m d g i (k - 2)) (tu q m d (g 2) (k - 2)) else 0) := by
  have h2 := w.q2
  have e2 : gpw q m d g (i + 1) k = ss q (ct q m d (gpw q m d g i) g k) (k + 1) := cv_ss h2 k
  have ml : ∀ a b, mu q m (gpw q m d g i b) (tu q m d (g a) b) < n := fun a b => mu_lt w (tu_lt w (hg a))
  have hc : ∀ a b, b + a = k → ct q m d (gpw q m d g i) g k b = mu q m (gpw q m d g i b) (tu q m d (g a) b) := fun a b hab => by
    unfold ct
    rw [if_pos (by omega), show k - b = a by omega]
  have hz : ∀ N, N + 3 ≤ k + 1 → ss q (ct q m d (gpw q m d g i) g k) N = 0 := fun N => by
    induction N with
    | zero => exact fun _ => rfl
    | succ N ih2 =>
      intro hN
      have e3 : ct q m d (gpw q m d g i) g k N = 0 := by
        unfold ct
        rw [if_pos (by omega), h3 (k - N) (by omega)]
        have e5 : tu q m d 0 N = 0 := (tu_Ln w N).zero w
        rw [e5, mu_comm w (gpw_lt w hg i N) w.pos, mu_0l h2]
      have e4 : ss q (ct q m d (gpw q m d g i) g k) (N + 1) = cmb q 1 13 (ss q (ct q m d (gpw q m d g i) g k) N) (ct q m d (gpw q m d g i) g k N) := rfl
      rw [e4, ih2 (by omega), e3, cmb_zero 1 h2]
  have ss_s : ∀ N, ss q (ct q m d (gpw q m d g i) g k) (N + 1) = cmb q 1 13 (ss q (ct q m d (gpw q m d g i) g k) N) (ct q m d (gpw q m d g i) g k N) := fun N => rfl
  have ss_0 : ss q (ct q m d (gpw q m d g i) g k) 0 = 0 := rfl
  have c0 : ∀ A, A < n → cmb q 1 13 0 A = A := fun A hA => by rw [cmb_comm h2, cmb_0r h2 (w.lt13 hA)]
  rw [e2]
  by_cases k0 : k = 0
  · subst k0
    rw [if_neg (by omega), if_neg (by omega), ss_s, ss_0, hc 0 0 rfl, c0 _ (ml 0 0), cmb_0r h2 (w.lt13 (ml 0 0)), cmb_0r h2 (w.lt13 (ml 0 0))]
  · by_cases k1 : k = 1
    · subst k1
      rw [if_pos (by omega), if_neg (by omega), ss_s, ss_s, ss_0, hc 0 1 rfl, hc 1 0 rfl, c0 _ (ml 1 0), cmb_0r h2 (cmb_lt _ h2 13 _ _), cmb_comm h2]
    · obtain ⟨j, rfl⟩ : ∃ j, k = j + 2 := ⟨k - 2, by omega⟩
      rw [if_pos (by omega), if_pos (by omega), show j + 2 + 1 = j + 1 + 1 + 1 by omega, ss_s, ss_s, ss_s, hz j (by omega), hc 2 j rfl, hc 1 (j + 1) (by omega), hc 0 (j + 1 + 1) (by omega), c0 _ (ml 2 j), show j + 2 - 1 = j + 1 by omega, show j + 2 - 2 = j by omega]
      generalize mu q m (gpw q m d g i (j + 1)) (tu q m d (g 1) (j + 1)) = B
      generalize mu q m (gpw q m d g i j) (tu q m d (g 2) j) = C
      have e6 : mu q m (gpw q m d g i (j + 1 + 1)) (tu q m d (g 0) (j + 1 + 1)) = mu q m (gpw q m d g i (j + 2)) (tu q m d (g 0) (j + 2)) := rfl
      rw [e6]
      generalize mu q m (gpw q m d g i (j + 2)) (tu q m d (g 0) (j + 2)) = A
      rw [cmb_comm (a := cmb q 1 13 C B) h2, cmb_comm (a := C) h2, cmb_asc h2]
/-- the powers of the module -/
theorem gpw_lop (hp : Pw q m d n) {g : Nat → Nat} (hg : ∀ k, g k < n) (h3 : ∀ k, 3 ≤ k → g k = 0) (i : Nat) : ∀ k, (itg (lop hp (kt (hg 0)) (kt (hg 1)) (kt (hg 2))) i (dlS hp 0) k).1 = gpw q m d g i k := by
  have w := hp.1
  letI ik := kR hp.1
  letI is := sqR (KT n)
  have h2 := w.q2
  have hrd : rop hp (kt (hg 0)) (kt (hg 1)) (kt (hg 2)) (dlS hp 0) = lop hp (kt (hg 0)) (kt (hg 1)) (kt (hg 2)) (dlS hp 0) := by
    have z : ∀ (c : KT n) k, k ≠ 0 → (phS hp c * dlS hp 0) k = 0 := fun c k hk => by
      show itg (frq q) k c * (if k = 0 then (1 : KT n) else 0) = 0
      rw [if_neg hk]
      generalize itg (frq q) k c = A
      grind
    have o : ∀ c : KT n, (phS hp c * dlS hp 0) 0 = c := fun c => by
      show c * (1 : KT n) = c
      grind
    have lz : ∀ (c : KT n) j k, k ≠ j → (csS c * dlS hp j) k = 0 := fun c j k hk => by
      show c * (if k = j then (1 : KT n) else 0) = 0
      rw [if_neg hk]
      grind
    have lo : ∀ (c : KT n) j, (csS c * dlS hp j) j = c := fun c j => by
      show c * (if j = j then (1 : KT n) else 0) = c
      rw [if_pos rfl]
      grind
    have zz : ∀ x : KT n, x + 0 + 0 = x := fun x => by grind
    have zy : ∀ x : KT n, 0 + x + 0 = x := fun x => by grind
    have zx : ∀ x : KT n, 0 + 0 + x = x := fun x => by grind
    refine sq_ext (fun k => ?_)
    have e1 : lop hp (kt (hg 0)) (kt (hg 1)) (kt (hg 2)) (dlS hp 0) = csS (kt (hg 0)) * dlS hp 0 + csS (kt (hg 1)) * dlS hp 1 + csS (kt (hg 2)) * dlS hp 2 := by
      show csS (kt (hg 0)) * dlS hp 0 + csS (kt (hg 1)) * tS1 hp (dlS hp 0) + csS (kt (hg 2)) * tS1 hp (tS1 hp (dlS hp 0)) = _
      rw [dlS_t, dlS_t]
    rw [e1]
    show (phS hp (kt (hg 0)) * dlS hp 0) k + shS hp (phS hp (kt (hg 1)) * dlS hp 0) k + shS hp (shS hp (phS hp (kt (hg 2)) * dlS hp 0)) k = (csS (kt (hg 0)) * dlS hp 0) k + (csS (kt (hg 1)) * dlS hp 1) k + (csS (kt (hg 2)) * dlS hp 2) k
    match k with
    | 0 =>
      rw [o, lo, lz _ 1 0 (by omega), lz _ 2 0 (by omega), shS_0, shS_0]
    | 1 =>
      rw [z _ 1 (by omega), shS_k, o, shS_k, shS_0, lo, lz _ 0 1 (by omega), lz _ 2 1 (by omega)]
    | 2 =>
      rw [z _ 2 (by omega), shS_k, z _ 1 (by omega), shS_k, shS_k, o, lo, lz _ 0 2 (by omega), lz _ 1 2 (by omega)]
    | k + 3 =>
      rw [z _ (k + 3) (by omega), shS_k, z _ (k + 2) (by omega), shS_k, shS_k, z _ (k + 1) (by omega), lz _ 0 _ (by omega), lz _ 1 _ (by omega), lz _ 2 _ (by omega)]
  have hcom : ∀ i, itg (lop hp (kt (hg 0)) (kt (hg 1)) (kt (hg 2))) i (rop hp (kt (hg 0)) (kt (hg 1)) (kt (hg 2)) (dlS hp 0)) = rop hp (kt (hg 0)) (kt (hg 1)) (kt (hg 2)) (itg (lop hp (kt (hg 0)) (kt (hg 1)) (kt (hg 2))) i (dlS hp 0)) := fun i => by
    induction i with
    | zero => rfl
    | succ i ih => rw [itg_s, ih, lop_rop, itg_s]
  induction i with
  | zero =>
    intro k
    show (if k = 0 then (1 : KT n) else 0).1 = r1 1 k
    unfold r1
    split <;> rfl
  | succ i ih =>
    intro k
    have e1 : itg (lop hp (kt (hg 0)) (kt (hg 1)) (kt (hg 2))) (i + 1) (dlS hp 0) = rop hp (kt (hg 0)) (kt (hg 1)) (kt (hg 2)) (itg (lop hp (kt (hg 0)) (kt (hg 1)) (kt (hg 2))) i (dlS hp 0)) := by
      rw [← hcom, hrd]
      rfl
    rw [e1]
    have hv : ∀ a b, ((phS hp (kt (hg a)) * itg (lop hp (kt (hg 0)) (kt (hg 1)) (kt (hg 2))) i (dlS hp 0)) b).1 = mu q m (gpw q m d g i b) (tu q m d (g a) b) := fun a b => by
      show mu q m (itg (frq q) b (kt (hg a) : KT n)).1 (itg (lop hp (kt (hg 0)) (kt (hg 1)) (kt (hg 2))) i (dlS hp 0) b).1 = mu q m (gpw q m d g i b) (tu q m d (g a) b)
      rw [ih b, fri_val hp.1, tu_itr hp (hg a)]
      exact mu_comm w (itr_lt (fun a ha => tby_ltn w ha) _ _ (hg a)) (gpw_lt w hg i b)
    rw [gpw_step w hg h3 i k]
    have cz : ∀ A B : KT n, (A + B).1 = cmb q 1 13 A.1 B.1 := fun A B => rfl
    generalize itg (lop hp (kt (hg 0)) (kt (hg 1)) (kt (hg 2))) i (dlS hp 0) = y at *
    have er : rop hp (kt (hg 0)) (kt (hg 1)) (kt (hg 2)) y k = (phS hp (kt (hg 0)) * y) k + shS hp (phS hp (kt (hg 1)) * y) k + shS hp (shS hp (phS hp (kt (hg 2)) * y)) k := rfl
    have t1 : (shS hp (phS hp (kt (hg 1)) * y) k).1 = if 1 ≤ k then mu q m (gpw q m d g i (k - 1)) (tu q m d (g 1) (k - 1)) else 0 := by
      cases k with
      | zero =>
        rw [if_neg (by omega)]
        rfl
      | succ k => rw [if_pos (by omega), shS_k, hv 1 k, Nat.add_sub_cancel]
    have t2 : (shS hp (shS hp (phS hp (kt (hg 2)) * y)) k).1 = if 2 ≤ k then mu q m (gpw q m d g i (k - 2)) (tu q m d (g 2) (k - 2)) else 0 := by
      cases k with
      | zero =>
        rw [if_neg (by omega)]
        rfl
      | succ k =>
        cases k with
        | zero =>
          rw [if_neg (by omega)]
          rfl
        | succ k => rw [if_pos (by omega), shS_k, shS_k, hv 2 k, show k + 1 + 1 - 2 = k by omega]
    rw [er, cz, cz, hv 0 k, t1, t2]
/-- what a polynomial over the figures makes of 1 -/
theorem acp_Ac (hp : Pw q m d n) {g : Nat → Nat} (hg : ∀ k, g k < n) (h3 : ∀ k, 3 ≤ k → g k = 0) (a k : Nat) : letI := kR (wd_q hp.1); letI := kR hp.1; letI := sqR (KT n); (acp (phS hp) (lop hp (kt (hg 0)) (kt (hg 1)) (kt (hg 2))) (pmap (fgm_hom hp.1) (Pn hp.1 a)) (dlS hp 0) k).1 = Ac q m d g a k := by
  have w := hp.1
  letI iq := kR (wd_q hp.1)
  letI ik := kR hp.1
  letI is := sqR (KT n)
  have h2 := w.q2
  have hL := lop_lop hp (kt (hg 0)) (kt (hg 1)) (kt (hg 2))
  have hd : Dlt (pmap (fgm_hom hp.1) (Pn hp.1 a)) 13 := fun i hi => by
    show fgm hp.1 ((Pn hp.1 a).1 i) = 0
    rw [pn_hi hp.1 a hi]
    exact hom_0 (fgm_hom hp.1)
  rw [acp_is hL hd, acn_lnc]
  have ev : ∀ N, lnc (phS hp) (pmap (fgm_hom hp.1) (Pn hp.1 a)).1 (fun i => itg (lop hp (kt (hg 0)) (kt (hg 1)) (kt (hg 2))) i (dlS hp 0)) N k = lnc (fgm hp.1) (Pn hp.1 a).1 (fun i => itg (lop hp (kt (hg 0)) (kt (hg 1)) (kt (hg 2))) i (dlS hp 0) k) N := fun N => by
    induction N with
    | zero => rfl
    | succ N ih =>
      show lnc (phS hp) (pmap (fgm_hom hp.1) (Pn hp.1 a)).1 (fun i => itg (lop hp (kt (hg 0)) (kt (hg 1)) (kt (hg 2))) i (dlS hp 0)) N k + itg (frq q) k (fgm hp.1 ((Pn hp.1 a).1 N)) * itg (lop hp (kt (hg 0)) (kt (hg 1)) (kt (hg 2))) N (dlS hp 0) k = lnc (fgm hp.1) (Pn hp.1 a).1 (fun i => itg (lop hp (kt (hg 0)) (kt (hg 1)) (kt (hg 2))) i (dlS hp 0) k) N + fgm hp.1 ((Pn hp.1 a).1 N) * itg (lop hp (kt (hg 0)) (kt (hg 1)) (kt (hg 2))) N (dlS hp 0) k
      rw [ih, fgm_fri hp.1]
  rw [ev, lnc_val hp.1]
  exact lsm_ext (fun i hi => pn_at hp.1 a hi) (fun i _ => gpw_lop hp hg h3 i k)
end TRX
