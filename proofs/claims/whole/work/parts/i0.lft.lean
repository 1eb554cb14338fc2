/-! the least factor; what a number is made of -/
section LFP
variable {q m d n : Nat}
/-- monic, not to be divided -/
def Irn (w : Wd q m d n) (a : Nat) : Prop := Mn q a ∧ 2 ≤ ln q 13 a ∧ letI := kR (wd_q w); Irr (Pn w a) (ln q 13 a - 1)
theorem mnc_mn (w : Wd q m d n) {f : letI := kR (wd_q w); PL (KT q)} {K : Nat} (hK : K ≤ 12) (hf : letI := kR (wd_q w); Mnc f K) : ∃ u, Mn q u ∧ ln q 13 u = K + 1 ∧ Pn w u = f := by
  letI := kR (wd_q w)
  have h2 := w.q2
  obtain ⟨u, u1, u2⟩ := pn_surj w (K + 1) f (by omega) hf.2
  have hd : dg q u K = 1 := by
    have h1 := hf.1
    rw [← u2] at h1
    have h3 := congrArg Subtype.val h1
    rw [pn_at w _ (by omega)] at h3
    exact h3
  obtain ⟨a, b⟩ := Mn_of h2 (by omega) u1 hd
  exact ⟨u, a, b, u2⟩
theorem mn_num (h2 : 2 ≤ q) {u v : Nat} (hu : Mn q u) (hv : Mn q v) (hl : ln q 13 u < ln q 13 v) : u < v := by
  obtain ⟨k, k1, k2, k3⟩ := hu
  obtain ⟨j, j1, j2, j3⟩ := hv
  have h1 := ln_lt k3
  have h3 := ln_ge j1
  have : q ^ ln q 13 u ≤ q ^ j := Nat.pow_le_pow_right (by omega) (by omega)
  omega
/-- the other factor, as a number -/
theorem cof (w : Wd q m d n) {x u : Nat} (hx : Mn q x) (hu : Mn q u) (h : rst q x u = 0) : Mn q (quo q x u) ∧ ln q 13 u ≤ ln q 13 x ∧ ln q 13 (quo q x u) = ln q 13 x - ln q 13 u + 1 ∧ rst q x (quo q x u) = 0 := by
  letI := kR (wd_q w)
  letI := plR (KT q)
  have h2 := w.q2
  have hl : ln q 13 u ≤ ln q 13 x := by
    rcases Nat.lt_or_ge (ln q 13 x) (ln q 13 u) with c | c
    · rw [rst_short c] at h
      have := hx.pos h2
      omega
    · exact c
  obtain ⟨a, b⟩ := quo_ln w.hq hx hu hl
  refine ⟨a, hl, b, ?_⟩
  rw [rst_0 w hx.lt13 a, quo_dv w hx.lt13 hu h]
  exact Dv.self_l _ _
theorem lfo_min (w : Wd q m d n) {x : Nat} (hx : Mn q x) (hl : 2 ≤ ln q 13 x) (r : Nat) : ∀ e, 1 ≤ e → r + e = 7 → (∀ u, Mn q u → 2 ≤ ln q 13 u → rst q x u = 0 → e + 1 ≤ ln q 13 u) → rst q x (lfo q x r e) = 0 ∧ ∀ u, Mn q u → 2 ≤ ln q 13 u → rst q x u = 0 → lfo q x r e ≤ u := by
  letI := kR (wd_q w)
  have h2 := w.q2
  have hxx : rst q x x = 0 := (rst_0 w hx.lt13 hx).mpr (Dv.refl _)
  have big : ∀ e, (∀ u, Mn q u → 2 ≤ ln q 13 u → rst q x u = 0 → e + 1 ≤ ln q 13 u) → ln q 13 x - 1 < 2 * e → rst q x x = 0 ∧ ∀ u, Mn q u → 2 ≤ ln q 13 u → rst q x u = 0 → x ≤ u := fun e he hb => by
    refine ⟨hxx, fun u hu hu2 hr => ?_⟩
    obtain ⟨c1, c2, c3, c4⟩ := cof w hx hu hr
    have h3 := he u hu hu2 hr
    by_cases c : 2 ≤ ln q 13 (quo q x u)
    · have := he _ c1 c c4
      omega
    · have e1 : ln q 13 u = ln q 13 x := by omega
      have h5 := mn_pn w hu
      rw [e1] at h5
      have := mnc_dveq (q_ne w) h5 (mn_pn w hx) ((rst_0 w hx.lt13 hu).mp hr)
      rw [pn_inj w hu.lt13 hx.lt13 this]
      exact Nat.le_refl _
  induction r with
  | zero =>
    intro e h1 h7 he
    have := ln_le q 13 x
    exact big e he (by omega)
  | succ r ih =>
    intro e h1 h7 he
    have e1 : lfo q x (r + 1) e = if ln q 13 x - 1 < 2 * e then x else match lfi q x (q ^ e) (q ^ e) with
      | some v => v
      | none => lfo q x r (e + 1) := rfl
    rw [e1]
    by_cases c : ln q 13 x - 1 < 2 * e
    · rw [if_pos c]
      exact big e he c
    · rw [if_neg c]
      cases hh : lfi q x (q ^ e) (q ^ e) with
      | none =>
        refine ih (e + 1) (by omega) (by omega) (fun u hu hu2 hr => ?_)
        have h3 := he u hu hu2 hr
        apply Decidable.byContradiction
        intro z
        obtain ⟨b1, b2⟩ := (Mn_deg h2 (e := e) (by omega)).mpr ⟨hu, by omega⟩
        exact lfi_no _ _ hh u b1 (by omega) hr
      | some v =>
        obtain ⟨a1, a2, a3, a4⟩ := lfi_is _ _ _ hh
        show rst q x v = 0 ∧ ∀ u, Mn q u → 2 ≤ ln q 13 u → rst q x u = 0 → v ≤ u
        refine ⟨a3, fun u hu hu2 hr => ?_⟩
        obtain ⟨b1, b2⟩ := (Mn_deg h2 (e := e) (by omega)).mp ⟨a1, by omega⟩
        have h3 := he u hu hu2 hr
        by_cases z : ln q 13 u = e + 1
        · obtain ⟨c1, c2⟩ := (Mn_deg h2 (e := e) (by omega)).mpr ⟨hu, z⟩
          apply Decidable.byContradiction
          intro z1
          exact a4 u c1 (by omega) hr
        · exact Nat.le_of_lt (mn_num h2 b1 hu (by omega))
theorem lft_irn (w : Wd q m d n) {x : Nat} (hx : Mn q x) (hl : 2 ≤ ln q 13 x) : Irn w (lft q x) ∧ rst q x (lft q x) = 0 ∧ ∀ u, Mn q u → 2 ≤ ln q 13 u → rst q x u = 0 → lft q x ≤ u := by
  letI := kR (wd_q w)
  have h2 := w.q2
  obtain ⟨a1, a2⟩ := lfo_min w hx hl 6 1 (Nat.le_refl _) (by omega) (fun u _ h _ => h)
  obtain ⟨⟨b1, b2, b3⟩, -⟩ := lft_is h2 hx hl
  refine ⟨⟨b1, b2, mn_pn w b1, by omega, fun f K hf hd => ?_⟩, a1, a2⟩
  have hle := mnc_dvle (q_ne w) hf (mn_pn w b1) hd
  have hle13 := ln_le q 13 (lft q x)
  apply Decidable.byContradiction
  intro z
  obtain ⟨u, u1, u2, u3⟩ := mnc_mn w (K := K) (by omega) hf
  have hr : rst q x u = 0 := by
    rw [rst_0 w hx.lt13 u1, u3]
    exact hd.trans ((rst_0 w hx.lt13 b1).mp a1)
  have h5 := a2 u u1 (by omega) hr
  have h6 := mn_num h2 u1 b1 (by omega)
  have e1 : lft q x = lfo q x 6 1 := rfl
  omega
/-- the product of N from o on -/
def pp (w : Wd q m d n) (F : Nat → Nat) : Nat → Nat → (letI := kR (wd_q w); PL (KT q))
  | _, 0 => letI := kR (wd_q w); letI := plR (KT q); 1
  | o, N + 1 => letI := kR (wd_q w); letI := plR (KT q); Pn w (F o) * pp w F (o + 1) N
theorem pp_s (w : Wd q m d n) (F : Nat → Nat) (o N : Nat) : letI := kR (wd_q w); letI := plR (KT q); pp w F o (N + 1) = Pn w (F o) * pp w F (o + 1) N := rfl
theorem pp_last (w : Wd q m d n) (F : Nat → Nat) (N : Nat) : ∀ o, letI := kR (wd_q w); letI := plR (KT q); pp w F o (N + 1) = pp w F o N * Pn w (F (o + N)) := by
  letI := kR (wd_q w)
  letI := plR (KT q)
  induction N with
  | zero =>
    intro o
    show Pn w (F o) * 1 = 1 * Pn w (F (o + 0))
    rw [Nat.add_zero]
    generalize Pn w (F o) = A
    grind
  | succ N ih =>
    intro o
    rw [pp_s, ih (o + 1), pp_s w F o N, show o + 1 + N = o + (N + 1) by omega]
    generalize Pn w (F (o + (N + 1))) = A
    generalize Pn w (F o) = B
    generalize pp w F (o + 1) N = C
    grind
theorem pp_cg (w : Wd q m d n) {F G : Nat → Nat} (N : Nat) : ∀ o, (∀ i, i < N → F (o + i) = G (o + i)) → pp w F o N = pp w G o N := by
  letI := kR (wd_q w)
  letI := plR (KT q)
  induction N with
  | zero => exact fun _ _ => rfl
  | succ N ih =>
    intro o h
    have h0 := h 0 (by omega)
    rw [Nat.add_zero] at h0
    rw [pp_s, pp_s, h0, ih (o + 1) (fun i hi => by
      have := h (i + 1) (by omega)
      rw [show o + (i + 1) = o + 1 + i by omega] at this
      exact this)]
theorem dv_pp (w : Wd q m d n) {F : Nat → Nat} {p : letI := kR (wd_q w); PL (KT q)} {K : Nat} (hp : letI := kR (wd_q w); Irr p K) (N : Nat) : ∀ o, (∀ i, i < N → Irn w (F (o + i))) → (letI := kR (wd_q w); Dv p (pp w F o N)) → ∃ i, i < N ∧ p = Pn w (F (o + i)) := by
  letI := kR (wd_q w)
  letI := plR (KT q)
  induction N with
  | zero => exact fun o _ h => absurd h (irr_ne1 (q_ne w) hp)
  | succ N ih =>
    intro o hF h
    rw [pp_s] at h
    have h0 := hF 0 (by omega)
    rw [Nat.add_zero] at h0
    rcases irr_prm (q_ne w) (q_ivs w) hp h with z | z
    · exact ⟨0, by omega, irr_eq (q_ne w) hp h0.2.2 z⟩
    · obtain ⟨i, i1, i2⟩ := ih (o + 1) (fun i hi => by
        have := hF (i + 1) (by omega)
        rw [show o + (i + 1) = o + 1 + i by omega] at this
        exact this) z
      refine ⟨i + 1, by omega, ?_⟩
      rw [i2, show o + (i + 1) = o + 1 + i by omega]
theorem mnc_can {R : Type} [Lean.Grind.CommRing R] {a b p : PL R} {K : Nat} (hp : Mnc p K) (h : letI := plR R; a * p = b * p) : a = b := by
  letI := plR R
  apply Classical.byContradiction
  intro c
  have hne : a - b ≠ 0 := fun z => c (by
    have e : a = a - b + b := by grind
    rw [e, z]
    grind)
  obtain ⟨j, j1, j2⟩ := pl_top (a - b) hne
  have h3 : ((a - b) * p).1 (j + K) = (a - b).1 j * p.1 K := cvq_lead j (a - b).1 p.1 (fun i hi => j2 i (by omega)) (fun i hi => hp.2 i (by omega))
  have e : (a - b) * p = 0 := by grind
  rw [e, hp.1] at h3
  have e2 : (0 : PL R).1 (j + K) = 0 := rfl
  rw [e2] at h3
  apply j1
  grind
/-- sorted primes: the first is the least factor -/
theorem lft_first (w : Wd q m d n) {x N o : Nat} {F : Nat → Nat} (hx : Mn q x) (hF : ∀ i, i < N + 1 → Irn w (F (o + i))) (hs1 : ∀ i, i < N + 1 → F o ≤ F (o + i)) (hP : Pn w x = pp w F o (N + 1)) : 2 ≤ ln q 13 x ∧ lft q x = F o ∧ Mn q (quo q x (F o)) ∧ Pn w (quo q x (F o)) = pp w F (o + 1) N := by
  letI := kR (wd_q w)
  letI := plR (KT q)
  have h2 := w.q2
  have h0 := hF 0 (by omega)
  rw [Nat.add_zero] at h0
  have hr : rst q x (F o) = 0 := by
    rw [rst_0 w hx.lt13 h0.1, hP, pp_s]
    exact Dv.self_l _ _
  obtain ⟨c1, c2, c3, c4⟩ := cof w hx h0.1 hr
  have hl : 2 ≤ ln q 13 x := by
    have := h0.2.1
    omega
  obtain ⟨l1, l2, l3⟩ := lft_irn w hx hl
  have hle := l3 (F o) h0.1 h0.2.1 hr
  have hd := (rst_0 w hx.lt13 l1.1).mp l2
  rw [hP] at hd
  obtain ⟨i, i1, i2⟩ := dv_pp w l1.2.2 (N + 1) o hF hd
  have e := pn_inj w l1.1.lt13 (hF i i1).1.lt13 i2
  have h5 := hs1 i i1
  refine ⟨hl, by omega, c1, ?_⟩
  have h6 := quo_dv w hx.lt13 h0.1 hr
  rw [hP, pp_s] at h6
  refine mnc_can (mn_pn w h0.1) ?_
  rw [← h6]
  generalize Pn w (F o) = A
  generalize pp w F (o + 1) N = B
  grind
theorem pp_nil (w : Wd q m d n) {x : Nat} (hx : Mn q x) (hP : letI := kR (wd_q w); letI := plR (KT q); Pn w x = 1) : ln q 13 x ≤ 1 := by
  letI := kR (wd_q w)
  have h1 := mn_pn w hx
  rw [hP] at h1
  have := mnc_deg (q_ne w) h1 (Mnc.one (R := KT q))
  omega
/-- the factors in a row: as the reference finds them -/
theorem mfc_all (w : Wd q m d n) {F : Nat → Nat} {v : Int32} (N : Nat) : ∀ r o x, N < r → r + o ≤ 14 → Mn q x → (∀ i, i < N → Irn w (F (o + i))) → (∀ i j, i ≤ j → j < N → F (o + i) ≤ F (o + j)) → Pn w x = pp w F o N → (v = NONE → mfc q v r x o = nI (o + N)) ∧ (v ≠ NONE → (∀ i, i < N → nI (o + i) ≠ v) → mfc q v r x o = NONE) ∧ ∀ i, i < N → nI (o + i) = v → mfc q v r x o = nI (F (o + i)) := by
  letI := kR (wd_q w)
  letI := plR (KT q)
  have h2 := w.q2
  induction N with
  | zero =>
    intro r o x hr _ hx _ _ hP
    obtain ⟨r, rfl⟩ : ∃ r1, r = r1 + 1 := ⟨r - 1, by omega⟩
    have e1 : mfc q v (r + 1) x o = if ln q 13 x ≤ 1 then (if v = NONE then nI o else NONE) else if nI o = v then nI (lft q x) else mfc q v r (quo q x (lft q x)) (o + 1) := rfl
    rw [e1, if_pos (pp_nil w hx hP)]
    exact ⟨fun z => by rw [if_pos z, Nat.add_zero], fun z _ => if_neg z, fun i hi => absurd hi (Nat.not_lt_zero _)⟩
  | succ N ih =>
    intro r o x hr hro hx hF hs1 hP
    obtain ⟨r, rfl⟩ : ∃ r1, r = r1 + 1 := ⟨r - 1, by omega⟩
    obtain ⟨l1, l2, l3, l4⟩ := lft_first w hx hF (fun i hi => by
      have := hs1 0 i (by omega) hi
      rw [Nat.add_zero] at this
      exact this) hP
    have e1 : mfc q v (r + 1) x o = if ln q 13 x ≤ 1 then (if v = NONE then nI o else NONE) else if nI o = v then nI (lft q x) else mfc q v r (quo q x (lft q x)) (o + 1) := rfl
    have sh : ∀ i, o + (i + 1) = o + 1 + i := fun i => by omega
    obtain ⟨i1, i2, i3⟩ := ih r (o + 1) (quo q x (F o)) (by omega) (by omega) l3 (fun i hi => by
      rw [← sh]
      exact hF (i + 1) (by omega)) (fun i j hij hj => by
      rw [← sh, ← sh]
      exact hs1 (i + 1) (j + 1) (by omega) (by omega)) l4
    rw [e1, if_neg (by omega), l2]
    refine ⟨fun z => ?_, fun z hne => ?_, fun i hi hv => ?_⟩
    · rw [if_neg (by rw [z]; exact nI_neg1 (by omega)), i1 z, show o + 1 + N = o + (N + 1) by omega]
    · rw [if_neg (by
        have := hne 0 (by omega)
        rw [Nat.add_zero] at this
        exact this)]
      exact i2 z (fun i hi => by
        have := hne (i + 1) (by omega)
        rw [sh] at this
        exact this)
    · cases i with
      | zero =>
        have hv : nI o = v := hv
        rw [if_pos hv]
        rfl
      | succ i =>
        rw [if_neg (by
          intro z
          have h8 := congrArg Int32.toInt (z.trans hv.symm)
          rw [nI_toInt (by omega), nI_toInt (by omega)] at h8
          omega)]
        rw [sh] at hv
        rw [sh i]
        exact i3 i (by omega) hv
end LFP
