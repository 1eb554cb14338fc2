/-! splitting: traces -/
def trq {S : Type} [Lean.Grind.CommRing S] (q : Nat) : Nat → S → S
  | 0, _ => 0
  | k + 1, y => trq q k y + itg (frq q) k y
theorem trq_s {S : Type} [Lean.Grind.CommRing S] (q k : Nat) (y : S) : trq q (k + 1) y = trq q k y + itg (frq q) k y := rfl
theorem trq_add {S : Type} [Lean.Grind.CommRing S] {q : Nat} (h : Chq S q) (k : Nat) (x y : S) : trq q k (x + y) = trq q k x + trq q k y := by
  induction k with
  | zero =>
    show (0 : S) = 0 + 0
    grind
  | succ k ih =>
    rw [trq_s, trq_s, trq_s, ih, fri_add h]
    grind
theorem trq_mul {S : Type} [Lean.Grind.CommRing S] {q : Nat} {c : S} (hc : frq q c = c) (k : Nat) (y : S) : trq q k (c * y) = c * trq q k y := by
  have hk : ∀ k, itg (frq q) k c = c := fun k => by
    induction k with
    | zero => rfl
    | succ k ih =>
      show itg (frq q) k (frq q c) = c
      rw [hc, ih]
  induction k with
  | zero =>
    show (0 : S) = c * 0
    grind
  | succ k ih =>
    rw [trq_s, trq_s, ih, fri_mul, hk]
    grind
theorem trq_0 {S : Type} [Lean.Grind.CommRing S] {q : Nat} (h : Chq S q) (k : Nat) : trq q k (0 : S) = 0 := by
  have h1 := trq_add h k 0 0
  have e : (0 : S) + 0 = 0 := by grind
  rw [e] at h1
  grind
theorem trq_head {S : Type} [Lean.Grind.CommRing S] (q k : Nat) : ∀ y : S, trq q (k + 1) y = y + trq q k (frq q y) := by
  induction k with
  | zero =>
    intro y
    show (0 : S) + y = y + 0
    grind
  | succ k ih =>
    intro y
    have e : itg (frq q) (k + 1) y = itg (frq q) k (frq q y) := rfl
    rw [trq_s, ih, e, trq_s]
    generalize trq q k (frq q y) = A
    generalize itg (frq q) k (frq q y) = B
    grind
theorem trq_frq {S : Type} [Lean.Grind.CommRing S] {q : Nat} (h : Chq S q) (k : Nat) (y : S) : frq q (trq q k y) + y = trq q k y + itg (frq q) k y := by
  induction k with
  | zero =>
    have e : frq q (0 : S) = 0 := fri_0 h 1
    show frq q (0 : S) + y = 0 + y
    rw [e]
  | succ k ih =>
    have e : frq q (itg (frq q) k y) = itg (frq q) (k + 1) y := (itg_s (frq q) k y).symm
    rw [trq_s, frq_add h, e]
    generalize itg (frq q) (k + 1) y = A at *
    generalize frq q (trq q k y) = B at *
    generalize trq q k y = C at *
    generalize itg (frq q) k y = D at *
    grind
section TRQ
variable {q m d n : Nat}
theorem tq_fri {R : Type} [Lean.Grind.CommRing R] (g : PL R) (q k : Nat) : ∀ f : PL R, letI := plR R; letI := qrR g; tq g (itg (frq q) k f) = itg (frq q) k (tq g f) := by
  letI := plR R
  letI := qrR g
  induction k with
  | zero => exact fun f => rfl
  | succ k ih =>
    intro f
    show tq g (itg (frq q) k (frq q f)) = itg (frq q) k (frq q (tq g f))
    rw [ih]
    have e : tq g (frq q f) = frq q (tq g f) := tq_pow g f q
    rw [e]
theorem tq_trq {R : Type} [Lean.Grind.CommRing R] (g : PL R) (q k : Nat) (f : PL R) : letI := plR R; letI := qrR g; tq g (trq q k f) = trq q k (tq g f) := by
  letI := plR R
  letI := qrR g
  induction k with
  | zero => rfl
  | succ k ih => rw [trq_s, trq_s, tq_add, ih, tq_fri]
theorem tby_tq (w : Wd q m d n) {a m0 top : Nat} (hl : ln q 13 m0 = top + 1) (hm : m0 < q ^ 13) (hm1 : dg q m0 top = 1) (ha : a < q ^ top) : letI := kR (wd_q w); letI := qrR (Pn w m0); tq (Pn w m0) (Pn w (tby q a m0)) = frq q (tq (Pn w m0) (Pn w a)) := by
  letI := kR (wd_q w)
  letI := plR (KT q)
  letI := qrR (Pn w m0)
  have h := tby_dv w hl hm hm1 ha
  have e : frq q (tq (Pn w m0) (Pn w a)) = tq (Pn w m0) (Pn w a ^ q) := (tq_pow _ _ q).symm
  rw [e]
  exact (tq_eq.mpr h).symm
theorem trl_tq (w : Wd q m d n) {m0 top : Nat} (hl : ln q 13 m0 = top + 1) (hm : m0 < q ^ 13) (hm1 : dg q m0 top = 1) (k : Nat) : ∀ s t, t < q ^ top → letI := kR (wd_q w); letI := qrR (Pn w m0); tq (Pn w m0) (Pn w (trl q m0 k s t)) = tq (Pn w m0) (Pn w s) + trq q k (frq q (tq (Pn w m0) (Pn w t))) := by
  letI := kR (wd_q w)
  letI := plR (KT q)
  letI := qrR (Pn w m0)
  induction k with
  | zero =>
    intro s t _
    show tq (Pn w m0) (Pn w s) = tq (Pn w m0) (Pn w s) + 0
    generalize tq (Pn w m0) (Pn w s) = A
    grind
  | succ k ih =>
    intro s t ht
    have e : trl q m0 (k + 1) s t = trl q m0 k (cmb q 1 13 s (tby q t m0)) (tby q t m0) := rfl
    rw [e, ih _ _ (tby_lt w.q2 hl hm hm1 ht), pn_add w, tq_add, tby_tq w hl hm hm1 ht, trq_head]
    generalize frq q (tq (Pn w m0) (Pn w t)) = A
    generalize tq (Pn w m0) (Pn w s) = B
    generalize trq q k (frq q A) = C
    grind
theorem trc_tq (w : Wd q m d n) {m0 top a k : Nat} (hl : ln q 13 m0 = top + 1) (hm : m0 < q ^ 13) (hm1 : dg q m0 top = 1) (ha : a < q ^ top) (hk : 1 ≤ k) : letI := kR (wd_q w); letI := qrR (Pn w m0); tq (Pn w m0) (Pn w (trc q a k m0)) = trq q k (tq (Pn w m0) (Pn w a)) := by
  letI := kR (wd_q w)
  letI := plR (KT q)
  letI := qrR (Pn w m0)
  have h := trl_tq w hl hm hm1 (k - 1) a a ha
  have e : trc q a k m0 = trl q m0 (k - 1) a a := rfl
  rw [e, h]
  obtain ⟨j, rfl⟩ : ∃ j, k = j + 1 := ⟨k - 1, by omega⟩
  rw [trq_head]
  rfl
/-- what its q-th power is: a constant -/
theorem frq_cst (w : Wd q m d n) {p : letI := kR (wd_q w); PL (KT q)} {e : Nat} (hp : letI := kR (wd_q w); Irr p e) (y : letI := kR (wd_q w); QRg p) (hy : letI := kR (wd_q w); letI := qrR p; frq q y = y) : letI := kR (wd_q w); ∃ c, y = cst p c := by
  letI := kR (wd_q w)
  letI := plR (KT q)
  letI := qrR p
  have h2 := w.q2
  have hR := q_ne w
  have hI := q_ivs w
  have hh := cst_hom p
  have nz := qr_nz hR hI hp
  have h1 : (1 : QRg p) ≠ 0 := fun z => irr_ne1 hR hp (tq_dv.mp z)
  apply Classical.byContradiction
  intro hno
  have hinj : ∀ a b : KT q, cst p a = cst p b → a = b := fun a b hab => by
    have h3 := tq_eq.mp hab
    have hd : Dlt (mnm a 0 - mnm b 0 : PL (KT q)) e := fun k hk => by
      have := hp.2.1
      rw [pl_sub]
      show (if k = 0 then a else 0) - (if k = 0 then b else 0) = 0
      rw [if_neg (by omega), if_neg (by omega)]
      grind
    have h5 := dv_small hp.1 hd h3
    have h6 : (mnm a 0 - mnm b 0 : PL (KT q)).1 0 = 0 := by
      rw [h5]
      rfl
    rw [pl_sub] at h6
    have h7 : a - b = 0 := h6
    grind
  have hd : Dlt (mnm 1 q - mnm 1 1 : PL (KT q)) (q + 1) := fun i hi => by
    rw [pl_sub]
    show (if i = q then (1 : KT q) else 0) - (if i = 1 then 1 else 0) = 0
    rw [if_neg (by omega), if_neg (by omega)]
    grind
  have hroot : ∀ z : QRg p, frq q z = z → evf (cst p) z (mnm 1 q - mnm 1 1) = 0 := fun z hz => by
    have hz1 : z ^ q = z := hz
    rw [evf_sub hh, evf_mn hh, evf_mn hh, hz1]
    grind
  have := rts nz hh hd (fun i => if h : i < q then cst p (kt h) else y) (fun i _ => by
    by_cases c : i < q
    · rw [dif_pos c]
      exact hroot _ (cst_frq w p _)
    · rw [dif_neg c]
      exact hroot _ hy) (fun i j hi hj hij => by
    by_cases c : i < q
    · by_cases c1 : j < q
      · rw [dif_pos c, dif_pos c1] at hij
        exact congrArg Subtype.val (hinj _ _ hij)
      · rw [dif_pos c, dif_neg c1] at hij
        exact absurd ⟨_, hij.symm⟩ hno
    · by_cases c1 : j < q
      · rw [dif_neg c, dif_pos c1] at hij
        exact absurd ⟨_, hij⟩ hno
      · omega) q (by omega)
  have e1 : (mnm 1 q - mnm 1 1 : PL (KT q)).1 q = 1 := by
    rw [pl_sub]
    show (if q = q then (1 : KT q) else 0) - (if q = 1 then 1 else 0) = 1
    rw [if_pos rfl, if_neg (by omega)]
    grind
  rw [e1, hh.2.2] at this
  exact h1 this
/-- somewhere the trace is not nothing -/
def tpl (w : Wd q m d n) : Nat → (letI := kR (wd_q w); PL (KT q))
  | 0 => letI := kR (wd_q w); letI := plR (KT q); 0
  | k + 1 => letI := kR (wd_q w); letI := plR (KT q); tpl w k + mnm 1 (q ^ k)
theorem tpl_s (w : Wd q m d n) (k : Nat) : letI := kR (wd_q w); letI := plR (KT q); tpl w (k + 1) = tpl w k + mnm 1 (q ^ k) := rfl
theorem tpl_dlt (w : Wd q m d n) (k : Nat) : letI := kR (wd_q w); Dlt (tpl w k) (q ^ k) := by
  letI := kR (wd_q w)
  letI := plR (KT q)
  have h2 := w.q2
  induction k with
  | zero => exact fun i _ => rfl
  | succ k ih =>
    rw [tpl_s]
    have hp : 1 ≤ q ^ k := Nat.pow_pos (by omega)
    have hle : q ^ k + 1 ≤ q ^ (k + 1) := Nat.pow_lt_pow_right (by omega) (by omega)
    exact (ih.mono (by omega)).add (fun i hi => if_neg (by omega))
theorem trq_ne (w : Wd q m d n) {p : letI := kR (wd_q w); PL (KT q)} {k : Nat} (hp : letI := kR (wd_q w); Irr p k) (hk : k ≤ 13) : letI := kR (wd_q w); letI := qrR p; ∃ y : QRg p, trq q k y ≠ 0 := by
  letI := kR (wd_q w)
  letI := plR (KT q)
  letI := qrR p
  have h2 := w.q2
  have hR := q_ne w
  have hI := q_ivs w
  have hh := cst_hom p
  have nz := qr_nz hR hI hp
  have h1 : (1 : QRg p) ≠ 0 := fun z => irr_ne1 hR hp (tq_dv.mp z)
  apply Classical.byContradiction
  intro hno
  have hall : ∀ y : QRg p, trq q k y = 0 := fun y => Classical.byContradiction (fun z => hno ⟨y, z⟩)
  obtain ⟨j, rfl⟩ : ∃ j, k = j + 1 := ⟨k - 1, by have := hp.2.1; omega⟩
  have hev : ∀ (y : QRg p) i, evf (cst p) y (tpl w i) = trq q i y := fun y i => by
    induction i with
    | zero => exact evf_0 hh y
    | succ i ih =>
      rw [tpl_s, evf_add hh, evf_mn hh, ih, trq_s, fri_pow, hh.2.2]
      generalize y ^ (q ^ i) = A
      grind
  have hd := tpl_dlt w j
  have hlt : q ^ j + 1 ≤ q ^ (j + 1) := Nat.pow_lt_pow_right (by omega) (by omega)
  have := rts nz hh (f := tpl w (j + 1)) (N := q ^ j + 1) (by
    rw [tpl_s]
    exact (hd.mono (by omega)).add (fun i hi => if_neg (by omega))) (fun i => tq p (Pn w i)) (fun i _ => by
    rw [hev]
    exact hall _) (fun a b ha hb hab => qr_inj w hp.1 hk (by omega) (by omega) hab) (q ^ j) (by omega)
  have e1 : (tpl w (j + 1)).1 (q ^ j) = 1 := by
    rw [tpl_s, pl_add, hd _ (Nat.le_refl _)]
    show (0 : KT q) + (if q ^ j = q ^ j then 1 else 0) = 1
    rw [if_pos rfl]
    grind
  rw [e1, hh.2.2] at this
  exact h1 this
end TRQ
