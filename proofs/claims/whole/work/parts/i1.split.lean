/-! splitting: pieces -/
section SPT
variable {q m d n : Nat}
/-- made of different primes of degree k -/
def CK (w : Wd q m d n) (C k : Nat) : Prop := Mn q C ∧ 1 ≤ k ∧ (letI := kR (wd_q w); letI := plR (KT q); Dv (Pn w C) (mnm 1 (q ^ k) - mnm 1 1)) ∧ letI := kR (wd_q w); ∀ p e, Irr p e → Dv p (Pn w C) → e = k
theorem mnm_pow {R : Type} [Lean.Grind.CommRing R] (k : Nat) : letI := plR R; (mnm (1 : R) 1) ^ k = mnm 1 k := by
  letI := plR R
  induction k with
  | zero =>
    have e : (mnm (1 : R) 1) ^ 0 = 1 := by
      generalize (mnm (1 : R) 1) = A
      grind
    rw [e]
    rfl
  | succ k ih =>
    have e : (mnm (1 : R) 1) ^ (k + 1) = (mnm (1 : R) 1) ^ k * mnm 1 1 := by
      generalize (mnm (1 : R) 1) = A
      grind
    rw [e, ih, mnm_mn1]
/-- q^k-th power of t, by g -/
theorem fix_dv (w : Wd q m d n) {g : letI := kR (wd_q w); PL (KT q)} {k : Nat} : letI := kR (wd_q w); letI := plR (KT q); letI := qrR g; itg (frq q) k (tq g (mnm 1 1)) = tq g (mnm 1 1) ↔ Dv g (mnm 1 (q ^ k) - mnm 1 1) := by
  letI := kR (wd_q w)
  letI := plR (KT q)
  letI := qrR g
  rw [fri_pow, ← tq_pow, mnm_pow, tq_eq]
theorem ck_sq (w : Wd q m d n) {C k : Nat} (h : CK w C k) {p : letI := kR (wd_q w); PL (KT q)} {e : Nat} (hp : letI := kR (wd_q w); Irr p e) : letI := kR (wd_q w); letI := plR (KT q); ¬ Dv (p * p) (Pn w C) := by
  letI := kR (wd_q w)
  letI := plR (KT q)
  letI := qrR (p * p)
  have h2 := w.q2
  intro hd
  have hf := (fix_dv w (g := p * p) (k := k)).mpr (hd.trans h.2.2.1)
  have h3 := fix_all w hf (tq (p * p) p)
  rw [fri_pow, ← tq_pow] at h3
  have hqk : 2 ≤ q ^ k := by
    have : q ^ 1 ≤ q ^ k := Nat.pow_le_pow_right (by omega) h.2.1
    rw [Nat.pow_one] at this
    omega
  have h5 : tq (p * p) (p ^ (q ^ k)) = tq (p * p) 0 := by
    rw [tq_0, tq_dv]
    obtain ⟨r, hr⟩ : ∃ r, q ^ k = r + 2 := ⟨q ^ k - 2, by omega⟩
    rw [hr]
    refine ⟨p ^ r, ?_⟩
    have e1 := Lean.Grind.Semiring.pow_add p r 2
    rw [e1]
    grind
  rw [h5, tq_0] at h3
  have h6 := tq_dv.mp h3.symm
  have h7 := mnc_dvle (q_ne w) (hp.1.mul hp.1) hp.1 h6
  have := hp.2.1
  omega
/-- pieces of C -/
def Pcs (w : Wd q m d n) (C L : Nat) (f : Nat → Nat) : Prop := (∀ i, i < L → Mn q (f i) ∧ 2 ≤ ln q 13 (f i)) ∧ pp w f 0 L = Pn w C
theorem pp_deg (w : Wd q m d n) {f : Nat → Nat} {k : Nat} (L : Nat) : ∀ o, (∀ i, i < L → Mn q (f (o + i)) ∧ k + 1 ≤ ln q 13 (f (o + i))) → letI := kR (wd_q w); ∃ D, Mnc (pp w f o L) D ∧ L * k ≤ D ∧ ∀ i, i < L → L * k + ln q 13 (f (o + i)) ≤ D + k + 1 := by
  letI := kR (wd_q w)
  letI := plR (KT q)
  induction L with
  | zero => exact fun o _ => ⟨0, Mnc.one, by omega, fun i hi => absurd hi (Nat.not_lt_zero _)⟩
  | succ L ih =>
    intro o h
    obtain ⟨D, d1, d2, d3⟩ := ih (o + 1) (fun i hi => by
      have := h (i + 1) (by omega)
      rw [show o + (i + 1) = o + 1 + i by omega] at this
      exact this)
    have h0 := h 0 (by omega)
    rw [Nat.add_zero] at h0
    have e : (L + 1) * k = L * k + k := by rw [Nat.add_mul, Nat.one_mul]
    refine ⟨ln q 13 (f o) - 1 + D, (mn_pn w h0.1).mul d1, by omega, fun i hi => ?_⟩
    cases i with
    | zero =>
      show (L + 1) * k + ln q 13 (f o) ≤ _
      omega
    | succ i =>
      have := d3 i (by omega)
      rw [show o + (i + 1) = o + 1 + i by omega]
      omega
theorem pp_up (w : Wd q m d n) {f : Nat → Nat} {i v : Nat} (L : Nat) : ∀ o, i < L → letI := kR (wd_q w); letI := plR (KT q); pp w (up1 f (o + i) v) o L * Pn w (f (o + i)) = pp w f o L * Pn w v := by
  letI := kR (wd_q w)
  letI := plR (KT q)
  induction L generalizing i with
  | zero => exact fun o h => absurd h (Nat.not_lt_zero _)
  | succ L ih =>
    intro o hi
    rw [pp_s, pp_s]
    cases i with
    | zero =>
      have e1 : up1 f (o + 0) v o = v := if_pos rfl
      have e2 : pp w (up1 f (o + 0) v) (o + 1) L = pp w f (o + 1) L := pp_cg w L (o + 1) (fun j _ => if_neg (by omega))
      rw [e1, e2]
      show Pn w v * pp w f (o + 1) L * Pn w (f o) = _
      generalize pp w f (o + 1) L = A
      generalize Pn w v = B
      generalize Pn w (f o) = C
      grind
    | succ i =>
      have e1 : up1 f (o + (i + 1)) v o = f o := if_neg (by omega)
      have h3 := ih (i := i) (o + 1) (by omega)
      rw [show o + 1 + i = o + (i + 1) by omega] at h3
      rw [e1]
      generalize pp w (up1 f (o + (i + 1)) v) (o + 1) L = A at *
      generalize pp w f (o + 1) L = B at *
      generalize Pn w (f o) = E
      generalize Pn w (f (o + (i + 1))) = G at *
      grind
theorem pcs_dv (w : Wd q m d n) {f : Nat → Nat} {i : Nat} (L : Nat) : ∀ o, i < L → letI := kR (wd_q w); Dv (Pn w (f (o + i))) (pp w f o L) := by
  letI := kR (wd_q w)
  letI := plR (KT q)
  induction L generalizing i with
  | zero => exact fun o h => absurd h (Nat.not_lt_zero _)
  | succ L ih =>
    intro o hi
    rw [pp_s]
    cases i with
    | zero => exact Dv.self_l _ _
    | succ i =>
      have := ih (i := i) (o + 1) (by omega)
      rw [show o + 1 + i = o + (i + 1) by omega] at this
      exact Dv.mul this _
theorem Pcs.len (w : Wd q m d n) {C L : Nat} {f : Nat → Nat} (hC : Mn q C) (h : Pcs w C L f) : L ≤ 12 := by
  letI := kR (wd_q w)
  obtain ⟨D, d1, d2, -⟩ := pp_deg w (k := 1) (f := f) L 0 (fun i hi => by
    rw [Nat.zero_add]
    exact h.1 i hi)
  rw [h.2] at d1
  have e := mnc_deg (q_ne w) d1 (mn_pn w hC)
  have := ln_le q 13 C
  omega
/-- u divides b, or no prime of u does -/
def Sep (w : Wd q m d n) (b u : Nat) : Prop := letI := kR (wd_q w); Dv (Pn w u) (Pn w b) ∨ ∀ p e, Irr p e → Dv p (Pn w u) → ¬ Dv p (Pn w b)
/-- what divisors inherit -/
def Inh (w : Wd q m d n) (Q : Nat → Prop) : Prop := letI := kR (wd_q w); ∀ u v, Mn q v → Dv (Pn w v) (Pn w u) → Q u → Q v
theorem sep_inh (w : Wd q m d n) (b : Nat) : Inh w (Sep w b) := fun u v _ hd h => by
  letI := kR (wd_q w)
  rcases h with z | z
  · exact Or.inl (hd.trans z)
  · exact Or.inr (fun p e hp h1 => z p e hp (h1.trans hd))
theorem sbl_ok (w : Wd q m d n) {C k b : Nat} (hC : CK w C k) (hb : b < q ^ 13) {Q : Nat → Prop} (hQ : Inh w Q) : ∀ r i L f, i + r ≤ L → Pcs w C L f → (∀ j, j < L → Q (f j)) → (∀ j, j < L → (j < i ∨ i + r ≤ j) → Sep w b (f j)) → Pcs w C (sbl q b r i L f).1 (sbl q b r i L f).2 ∧ (∀ j, j < (sbl q b r i L f).1 → Q ((sbl q b r i L f).2 j)) ∧ ∀ j, j < (sbl q b r i L f).1 → Sep w b ((sbl q b r i L f).2 j) := by
  letI := kR (wd_q w)
  letI := plR (KT q)
  have h2 := w.q2
  intro r
  induction r with
  | zero => exact fun i L f _ hP hq hs1 => ⟨hP, hq, fun j hj => hs1 j hj (by omega)⟩
  | succ r ih =>
    intro i L f hi hP hq hs1
    have e1 : sbl q b (r + 1) i L f = if 13 ≤ L then (L, f) else if ln q 13 (gcn q (f i) b) ≤ 1 ∨ ln q 13 (f i) ≤ ln q 13 (gcn q (f i) b) then sbl q b r (i + 1) L f
      else sbl q b r (i + 1) (L + 1) (up1 (up1 f L (quo q (f i) (gcn q (f i) b))) i (gcn q (f i) b)) := rfl
    have hL := hP.len w hC.1
    obtain ⟨f1, f2⟩ := hP.1 i (by omega)
    have hf0 := f1.pos h2
    obtain ⟨g1, g2, g3⟩ := gcn_dv w (a := f i) (b := b) f1.lt13 hb (Or.inl hf0)
    have gM := gcn_Mn w.hq f1 hb
    have gm := mn_pn w gM
    have hfC : Dv (Pn w (f i)) (Pn w C) := by
      rw [← hP.2]
      have := pcs_dv w (f := f) (i := i) L 0 (by omega)
      rw [Nat.zero_add] at this
      exact this
    rw [e1, if_neg (by omega)]
    generalize gcn q (f i) b = g at *
    have hgl : 1 ≤ ln q 13 g := ln_pos gM.lt13 (gM.pos h2)
    have hgle := mnc_dvle (q_ne w) gm (mn_pn w f1) g1
    by_cases c : ln q 13 g ≤ 1 ∨ ln q 13 (f i) ≤ ln q 13 g
    · rw [if_pos c]
      refine ih (i + 1) L f (by omega) hP hq (fun j hj hor => ?_)
      by_cases z : j = i
      · rw [z]
        rcases c with c | c
        · right
          intro p e hp hd1 hd2
          have h5 := mnc_dvle (q_ne w) hp.1 gm (g3 p hd1 hd2)
          have := hp.2.1
          omega
        · left
          have e2 : ln q 13 g = ln q 13 (f i) := by omega
          rw [e2] at gm
          rw [← mnc_dveq (q_ne w) gm (mn_pn w f1) g1]
          exact g2
      · exact hs1 j hj (by omega)
    · rw [if_neg c]
      have hr : rst q (f i) g = 0 := (rst_0 w f1.lt13 gM).mpr g1
      obtain ⟨c1, c2, c3, c4⟩ := cof w f1 gM hr
      have hqd := (rst_0 w f1.lt13 c1).mp c4
      have hqe := quo_dv w f1.lt13 gM hr
      have hsq : ∀ p e, Irr p e → Dv p (Pn w (quo q (f i) g)) → ¬ Dv p (Pn w b) := fun p e hp hd1 hd2 => by
        have h5 := g3 p (hd1.trans hqd) hd2
        refine ck_sq w hC hp (Dv.trans ?_ hfC)
        rw [hqe]
        obtain ⟨x, hx⟩ := hd1
        obtain ⟨y, hy⟩ := h5
        exact ⟨x * y, by rw [hx, hy]; grind⟩
      generalize quo q (f i) g = u at *
      have hval : ∀ j, j < L + 1 → (up1 (up1 f L u) i g j = g ∧ j = i) ∨ (up1 (up1 f L u) i g j = u ∧ j = L) ∨ (up1 (up1 f L u) i g j = f j ∧ j < L ∧ j ≠ i) := fun j hj => by
        by_cases z : j = i
        · exact Or.inl ⟨if_pos z, z⟩
        · by_cases z1 : j = L
          · refine Or.inr (Or.inl ⟨?_, z1⟩)
            show (if j = i then g else if j = L then u else f j) = u
            rw [if_neg z, if_pos z1]
          · refine Or.inr (Or.inr ⟨?_, by omega, z⟩)
            show (if j = i then g else if j = L then u else f j) = f j
            rw [if_neg z, if_neg z1]
      refine ih (i + 1) (L + 1) _ (by omega) ⟨fun j hj => ?_, ?_⟩ (fun j hj => ?_) (fun j hj hor => ?_)
      · rcases hval j hj with ⟨z, -⟩ | ⟨z, -⟩ | ⟨z, z1, -⟩
        · rw [z]
          exact ⟨gM, by omega⟩
        · rw [z]
          exact ⟨c1, by omega⟩
        · rw [z]
          exact hP.1 j z1
      · have h5 := pp_up w (f := up1 f L u) (i := i) (v := g) (L + 1) 0 (by omega)
        rw [Nat.zero_add] at h5
        have e3 : up1 f L u i = f i := if_neg (by omega)
        have e4 : pp w (up1 f L u) 0 (L + 1) = pp w f 0 L * Pn w u := by
          rw [pp_last, Nat.zero_add]
          have e5 : up1 f L u L = u := if_pos rfl
          have e6 : pp w (up1 f L u) 0 L = pp w f 0 L := pp_cg w L 0 (fun j hj => if_neg (by omega))
          rw [e5, e6]
        rw [e3, e4, hP.2] at h5
        refine mnc_can (mn_pn w f1) ?_
        rw [h5, hqe]
        generalize Pn w C = A
        generalize Pn w u = B
        generalize Pn w g = E
        grind
      · rcases hval j hj with ⟨z, -⟩ | ⟨z, -⟩ | ⟨z, z1, -⟩
        · rw [z]
          exact hQ (f i) g gM g1 (hq i (by omega))
        · rw [z]
          exact hQ (f i) u c1 hqd (hq i (by omega))
        · rw [z]
          exact hq j z1
      · rcases hval j hj with ⟨z, -⟩ | ⟨z, -⟩ | ⟨z, z1, z2⟩
        · rw [z]
          exact Or.inl g2
        · rw [z]
          exact Or.inr hsq
        · rw [z]
          exact hs1 j z1 (by omega)
theorem spF_ok (w : Wd q m d n) {C k tr : Nat} (hC : CK w C k) : ∀ r g L f (Q : Nat → Prop), Inh w Q → Pcs w C L f → (∀ j, j < L → Q (f j)) → Pcs w C (spF q tr r g L f).1 (spF q tr r g L f).2 ∧ (∀ j, j < (spF q tr r g L f).1 → Q ((spF q tr r g L f).2 j)) ∧ ∀ s, g ≤ s → s < g + r → ∀ j, j < (spF q tr r g L f).1 → Sep w (cmb q (q - 1) 13 tr s) ((spF q tr r g L f).2 j) := by
  have h2 := w.q2
  intro r
  induction r with
  | zero => exact fun g L f Q _ hP hq => ⟨hP, hq, fun s h1 h3 => absurd h3 (by omega)⟩
  | succ r ih =>
    intro g L f Q hQ hP hq
    obtain ⟨a1, a2, a3⟩ := sbl_ok w hC (cmb_lt (q - 1) h2 13 tr g) hQ L 0 L f (by omega) hP hq (fun j hj hor => absurd hor (by omega))
    have hQ1 : Inh w (fun u => Q u ∧ Sep w (cmb q (q - 1) 13 tr g) u) := fun u v hv hd h => ⟨hQ u v hv hd h.1, sep_inh w _ u v hv hd h.2⟩
    obtain ⟨b1, b2, b3⟩ := ih (g + 1) _ _ _ hQ1 a1 (fun j hj => ⟨a2 j hj, a3 j hj⟩)
    refine ⟨b1, fun j hj => (b2 j hj).1, fun s h1 h3 j hj => ?_⟩
    by_cases z : s = g
    · rw [z]
      exact (b2 j hj).2
    · exact b3 s (by omega) (by omega) j hj
end SPT
