/-! the reference: sums, symbol, factors -/
theorem prd_1l {q v : Nat} (h2 : 2 ≤ q) (hv : v < q ^ 13) : prd q 1 v = v := by
  have e1 : ln q 13 1 = 1 := ln_eq h2 (k := 0) (by rw [Nat.pow_zero]; exact Nat.le_refl 1) (by rw [Nat.zero_add, Nat.pow_one]; omega) (by have := Nat.pow_le_pow_right (show 0 < q by omega) (show 1 ≤ 13 by omega); rw [Nat.pow_one] at this; omega)
  unfold prd
  rw [e1]
  show cmb q (dg q 1 0) 13 (0 * q) v = v
  rw [Nat.zero_mul, dg_0, Nat.mod_eq_of_lt (by omega), cmb_one h2 hv]
/-- what the reference takes as the symbol of a over a prime p -/
def msl (q p : Nat) : Nat → Nat → Nat → Nat → Nat
  | 0, _, _, v => v
  | r + 1, k, y, v => if k = 0 then v else msl q p r (k / 2) (rst q (prd q y y) p) (if k % 2 = 1 then rst q (prd q v y) p else v)
def mso (q a p : Nat) : Nat := msl q p 31 ((q ^ (ln q 13 p - 1) - 1) / (q - 1)) (rst q a p) 1
def msm (q a : Nat) : Nat → Nat → Nat → Nat
  | 0, _, v => v
  | r + 1, x, v => if ln q 13 x ≤ 1 then v else msm q a r (quo q x (lft q x)) (v * mso q a (lft q x) % q)
def mfc (q : Nat) (v : Int32) : Nat → Nat → Nat → Int32
  | 0, _, _ => NONE
  | r + 1, x, n => if ln q 13 x ≤ 1 then (if v = NONE then nI n else NONE) else if nI n = v then nI (lft q x) else mfc q v r (quo q x (lft q x)) (n + 1)
def SymOK : Prop := ∀ q a b, (q = 2 ∨ q = 3 ∨ q = 5) → a < q ^ 13 → Mn q b → 2 ≤ ln q 13 b → ln q 13 b ≤ 7 → sym q a b = msm q a 7 b 1
def FctOK : Prop := ∀ q a v, (q = 2 ∨ q = 3 ∨ q = 5) → a < q ^ 13 → 0 < a → NONE ≤ v → (v = NONE → mfc q v 14 (mon q a) 0 = nI (fnd q a).1) ∧ (v ≠ NONE → asN (fnd q a).1 v = none → mfc q v 14 (mon q a) 0 = NONE) ∧ ∀ i, v ≠ NONE → asN (fnd q a).1 v = some i → mfc q v 14 (mon q a) 0 = nI ((fnd q a).2 i)
section LFT
variable {q : Nat}
theorem lfi_is {x : Nat} : ∀ r v u, lfi q x r v = some u → v ≤ u ∧ u < v + r ∧ rst q x u = 0 ∧ ∀ j, v ≤ j → j < u → rst q x j ≠ 0
  | 0, _, _, h => by cases h
  | r + 1, v, u, h => by
    unfold lfi at h
    by_cases c : rst q x v = 0
    · rw [if_pos c] at h
      have : v = u := Option.some.inj h
      subst this
      exact ⟨Nat.le_refl _, by omega, c, fun j h1 h2 => absurd h2 (by omega)⟩
    · rw [if_neg c] at h
      obtain ⟨a1, a2, a3, a4⟩ := lfi_is r (v + 1) u h
      refine ⟨by omega, by omega, a3, fun j h1 h2 => ?_⟩
      by_cases z : j = v
      · rw [z]; exact c
      · exact a4 j (by omega) h2
theorem lfi_no {x : Nat} : ∀ r v, lfi q x r v = none → ∀ j, v ≤ j → j < v + r → rst q x j ≠ 0
  | 0, _, _, j, h1, h2 => absurd h2 (by omega)
  | r + 1, v, h, j, h1, h2 => by
    unfold lfi at h
    by_cases c : rst q x v = 0
    · rw [if_pos c] at h
      cases h
    · rw [if_neg c] at h
      by_cases z : j = v
      · rw [z]; exact c
      · exact lfi_no r (v + 1) h j (by omega) (by omega)
/-- monic of degree e -/
theorem Mn_deg (h2 : 2 ≤ q) {e v : Nat} (he : e ≤ 12) : (q ^ e ≤ v ∧ v < 2 * q ^ e) ↔ (Mn q v ∧ ln q 13 v = e + 1) := by
  have hp : 1 ≤ q ^ e := Nat.pow_pos (by omega)
  have h2p : 2 * q ^ e ≤ q ^ (e + 1) := by
    rw [Nat.pow_succ, Nat.mul_comm (q ^ e)]
    exact Nat.mul_le_mul_right _ h2
  have h13 : q ^ (e + 1) ≤ q ^ 13 := Nat.pow_le_pow_right (by omega) (by omega)
  constructor
  · rintro ⟨a, b⟩
    refine Mn_of h2 (by omega) (by omega) ?_
    unfold dg
    have : v / q ^ e = 1 := by
      apply Nat.div_eq_of_lt_le <;> omega
    rw [this, Nat.mod_eq_of_lt (by omega)]
  · rintro ⟨⟨k, k1, k2, k3⟩, hl⟩
    have : k = e := by omega
    subst this
    have hlt : v < q ^ (k + 1) := by
      have := ln_lt (q := q) k3
      rw [k1] at this
      exact this
    have hge := ln_ge hl
    refine ⟨hge, ?_⟩
    have hdl : v / q ^ k < q := by
      rw [Nat.div_lt_iff_lt_mul hp, Nat.mul_comm, ← Nat.pow_succ]
      exact hlt
    unfold dg at k2
    rw [Nat.mod_eq_of_lt hdl] at k2
    have := Nat.lt_div_mul_add (a := v) (b := q ^ k) hp
    rw [k2] at this
    omega
theorem lfo_is (h2 : 2 ≤ q) {x : Nat} (hx : Mn q x) (hl : 2 ≤ ln q 13 x) : ∀ r e, 1 ≤ e → r + e ≤ 7 → (Mn q (lfo q x r e) ∧ 2 ≤ ln q 13 (lfo q x r e) ∧ ln q 13 (lfo q x r e) ≤ ln q 13 x) ∧ (lfo q x r e = x ∨ (e + 1 ≤ ln q 13 (lfo q x r e) ∧ 2 * ln q 13 (lfo q x r e) ≤ ln q 13 x + 1 ∧ rst q x (lfo q x r e) = 0))
  | 0, e, _, _ => ⟨⟨hx, hl, Nat.le_refl _⟩, Or.inl rfl⟩
  | r + 1, e, h1, h7 => by
    unfold lfo
    by_cases c : ln q 13 x - 1 < 2 * e
    · rw [if_pos c]
      exact ⟨⟨hx, hl, Nat.le_refl _⟩, Or.inl rfl⟩
    · rw [if_neg c]
      cases hh : lfi q x (q ^ e) (q ^ e) with
      | none =>
        obtain ⟨a1, a2⟩ := lfo_is h2 hx hl r (e + 1) (by omega) (by omega)
        dsimp only
        refine ⟨a1, ?_⟩
        rcases a2 with z | ⟨z1, z2, z3⟩
        · exact Or.inl z
        · exact Or.inr ⟨by omega, z2, z3⟩
      | some v =>
        obtain ⟨a1, a2, a3, -⟩ := lfi_is _ _ _ hh
        obtain ⟨b1, b2⟩ := (Mn_deg h2 (e := e) (by omega)).mp ⟨a1, by omega⟩
        dsimp only
        exact ⟨⟨b1, by omega, by omega⟩, Or.inr ⟨by omega, by omega, a3⟩⟩
theorem lft_is (h2 : 2 ≤ q) {x : Nat} (hx : Mn q x) (hl : 2 ≤ ln q 13 x) : (Mn q (lft q x) ∧ 2 ≤ ln q 13 (lft q x) ∧ ln q 13 (lft q x) ≤ ln q 13 x) ∧ (lft q x = x ∨ (2 * ln q 13 (lft q x) ≤ ln q 13 x + 1 ∧ rst q x (lft q x) = 0)) := by
  obtain ⟨a, b⟩ := lfo_is h2 hx hl 6 1 (Nat.le_refl _) (by omega)
  refine ⟨a, ?_⟩
  rcases b with z | ⟨_, z2, z3⟩
  · exact Or.inl z
  · exact Or.inr ⟨z2, z3⟩
theorem quo_ln (hq : q = 2 ∨ q = 3 ∨ q = 5) {a b : Nat} (ha : Mn q a) (hb : Mn q b) (hl : ln q 13 b ≤ ln q 13 a) : Mn q (quo q a b) ∧ ln q 13 (quo q a b) = ln q 13 a - ln q 13 b + 1 := by
  refine ⟨quo_Mn hq ha hb hl, ?_⟩
  obtain ⟨k, k1, k2, k3⟩ := ha
  obtain ⟨j, j1, j2, j3⟩ := hb
  obtain ⟨-, -, e⟩ := quo_top hq k1 j1 k2 j2 (by omega)
  rw [e]
  omega
end LFT
section MSU
variable {G : GC} {e q : Nat} {ml : Nat → Nat → Int64} {K : Int32 → (Nat → Nat → Int32) → (Nat → Nat → Int64) → Prop}
theorem tms_fit (h2 : 2 ≤ q) {x y : Nat} (hx : x < q ^ 13) (hf : ln q 13 x + ln q 13 y ≤ 14) : tms q x y = some (prd q x y) := by
  unfold tms
  by_cases c : x = 0 ∨ y = 0
  · rw [if_pos c]
    rcases c with c | c
    · rw [c, prd_0l h2]
    · rw [c, prd_0r h2 hx]
  · rw [if_neg c, if_pos hf]
theorem m_sum_in {k d v s : Nat} {mi : Nat → Nat → Int32} (h : Mq q mi) (hd : 1 ≤ d) (hk : d * k ≤ 12) (hv : v < q ^ (d + 1)) (hs : s < q ^ 13) {X : Nat} (hK : wp G e tM m_X10_sums 38 [(0, .ref 154), (1, .int (nI k)), (2, .int (nI d)), (3, .int (nI (cmb q 1 13 s X))), (4, .int (nI (v + 1)))] [] (mi, ml, RX RM) (QI K)) : ∀ (r i p : Nat), r + i = k → p < q ^ (d * i + 1) → pw q v r p = X → wp G e tM m_X10_sums 56 [(0, .ref 154), (1, .int (nI k)), (2, .int (nI d)), (3, .int (nI s)), (4, .int (nI v)), (5, .int (nI p)), (6, .int (nI i))] [] (mi, ml, RX RM) (QI K) := by
  have h2 := h.two.1
  have h31 := pow_lt31 (M := 13) h.1 (Nat.le_refl _)
  have up : ∀ M, M ≤ 13 → ∀ z, z < q ^ M → z < q ^ 13 := fun M hM z hz => Nat.lt_of_lt_of_le hz (Nat.pow_le_pow_right (by omega) hM)
  have hk12 : k ≤ d * k := Nat.le_mul_of_pos_left _ (by omega)
  intro r
  induction r with
  | zero =>
    intro i p hi hp he
    have : i = k := by omega
    subst this
    have he : p = X := he
    subst he
    apply b_X10_sums_56
    simp (disch := omega) only [s_le, s_lt, s_eq, s_eq0, s_in, s_ix, s_rm, s_div, s_pdlt, s_pdle, s_lepd, s_pdpd, s_pdlepd, s_pdadd, nI_add, pk_mul, pd_succ, Nat.not_lt_zero, Nat.zero_lt_succ, not_false_eq_true, not_true_eq_false, false_implies, true_implies, implies_true, and_true, true_and, Nat.reduceLT, Nat.reduceLeDiff, Nat.reduceAdd, Nat.reduceSub, Nat.zero_add, Nat.add_zero, Nat.le_refl]
    exact m_sumOf h hs (up _ (by omega) _ hp) (by omega) hK
  | succ r ih =>
    intro i p hi hp he
    have hdi : d * (i + 1) ≤ d * k := Nat.mul_le_mul_left _ (by omega)
    rw [Nat.mul_add, Nat.mul_one] at hdi
    have hdd : d ≤ d * k := Nat.le_mul_of_pos_right _ (by omega)
    have l1 := ln_le_lt (m := 13) h2 hp
    have l2 := ln_le_lt (m := 13) h2 hv
    have hp13 := up _ (by omega) _ hp
    have hv13 := up _ (by omega) _ hv
    apply b_X10_sums_56
    simp (disch := omega) only [s_le, s_lt, s_eq, s_eq0, s_in, s_ix, s_rm, s_div, s_pdlt, s_pdle, s_lepd, s_pdpd, s_pdlepd, s_pdadd, nI_add, pk_mul, pd_succ, Nat.not_lt_zero, Nat.zero_lt_succ, not_false_eq_true, not_true_eq_false, false_implies, true_implies, implies_true, and_true, true_and, Nat.reduceLT, Nat.reduceLeDiff, Nat.reduceAdd, Nat.reduceSub, Nat.zero_add, Nat.add_zero]
    refine ⟨fun z => absurd z (by omega), fun _ => m_times h hp13 hv13 ?_⟩
    rw [tms_fit h2 hp13 (by omega)]
    have hlt : prd q p v < q ^ (d * (i + 1) + 1) := by
      have := prd_lt h2 hp hv (by omega) (by omega)
      rw [show d * (i + 1) + 1 = d + 1 - 1 + (d * i + 1) by rw [Nat.mul_add]; omega]
      exact this
    exact ih (i + 1) (prd q p v) (by omega) hlt he
theorem m_sums {s : Cst} {mi : Nat → Nat → Int32} (h : Mq q mi) (hq : aq (cN s) = q) {v1 v2 : Int32} (hK : K (fSums s v1 v2) mi ml) : wpI G e 168 m_X10_sums [.ref 154, .int v1, .int v2] (mi, ml, RX RM) K := by
  have h2 := h.two.1
  have h31 := pow_lt31 (M := 13) h.1 (Nat.le_refl _)
  unfold fSums at hK
  rw [hq] at hK
  apply e_X10_sums
  refine m_isIn (a := 0) (lo := 1) (hi := 12) (by omega) (by omega) (fun k hv hk1 hk => ⟨fun z => absurd z (by decide), fun _ => ?_⟩) (fun hno => ⟨fun _ => ?_, fun z => absurd rfl z⟩)
  · subst hv
    rw [asN_nI (by omega), if_pos (by omega)] at hK
    refine m_isIn (a := 0) (lo := 1) (hi := 4) (by omega) (by omega) (fun d hv2 hd1 hd => ⟨fun z => absurd z (by decide), fun _ => ?_⟩) (fun hno => ⟨fun _ => ?_, fun z => absurd rfl z⟩)
    · subst hv2
      rw [asN_nI (by omega), if_pos (by omega)] at hK
      dsimp only at hK
      have hkd : k * d ≤ 12 * 4 := Nat.mul_le_mul hk hd
      simp (disch := omega) only [s_le, s_lt, s_eq, s_eq0, s_in, s_ix, s_rm, s_div, s_pdlt, s_pdle, s_lepd, s_pdpd, s_pdlepd, s_pdadd, nI_add, pk_mul, pd_succ, Nat.not_lt_zero, Nat.zero_lt_succ, not_false_eq_true, not_true_eq_false, false_implies, true_implies, implies_true, and_true, true_and, Nat.reduceLT, Nat.reduceLeDiff, Nat.reduceAdd, Nat.reduceSub, Nat.zero_add, Nat.add_zero]
      refine ⟨fun c => ?_, fun c => ?_⟩
      · have hdk : d * k ≤ 12 := by rw [Nat.mul_comm]; exact c
        rw [if_neg (by omega)] at hK
        have hqd : 1 ≤ q ^ d := Nat.pow_pos (by omega)
        have hqd1 : 2 * q ^ d ≤ q ^ (d + 1) := by
          rw [Nat.pow_succ, Nat.mul_comm (q ^ d)]
          exact Nat.mul_le_mul_right _ h2
        have h13 : q ^ (d + 1) ≤ q ^ 13 := Nat.pow_le_pow_right (by omega) (by omega)
        refine m_power h (by omega) ?_
        have loop : ∀ (r v s : Nat), v + r = 2 * q ^ d → s < q ^ 13 → spl q k r v s = sps q k d → wp G e tM m_X10_sums 38 [(0, .ref 154), (1, .int (nI k)), (2, .int (nI d)), (3, .int (nI s)), (4, .int (nI v))] [] (mi, ml, RX RM) (QI K) := by
          intro r
          induction r with
          | zero =>
            intro v s hv hs he
            have he : s = sps q k d := he
            rw [← he] at hK
            apply b_X10_sums_38
            refine m_power h (by omega) ?_
            have hv : v = 2 * q ^ d := by omega
            subst hv
            simp (disch := omega) only [s_le, s_lt, s_eq, s_eq0, s_in, s_ix, s_rm, s_div, s_pdlt, s_pdle, s_lepd, s_pdpd, s_pdlepd, s_pdadd, nI_add, pk_mul, pd_succ, Nat.not_lt_zero, Nat.zero_lt_succ, not_false_eq_true, not_true_eq_false, false_implies, true_implies, implies_true, and_true, true_and, Nat.reduceLT, Nat.reduceLeDiff, Nat.reduceAdd, Nat.reduceSub, Nat.zero_add, Nat.add_zero, Nat.le_refl]
            exact hK
          | succ r ih =>
            intro v s hv hs he
            apply b_X10_sums_38
            refine m_power h (by omega) ?_
            simp (disch := omega) only [s_le, s_lt, s_eq, s_eq0, s_in, s_ix, s_rm, s_div, s_pdlt, s_pdle, s_lepd, s_pdpd, s_pdlepd, s_pdadd, nI_add, pk_mul, pd_succ, Nat.not_lt_zero, Nat.zero_lt_succ, not_false_eq_true, not_true_eq_false, false_implies, true_implies, implies_true, and_true, true_and, Nat.reduceLT, Nat.reduceLeDiff, Nat.reduceAdd, Nat.reduceSub, Nat.zero_add, Nat.add_zero]
            refine ⟨fun z => absurd z (by omega), fun _ => ?_⟩
            have hv1 : v < q ^ (d + 1) := by omega
            have hX : pw q v k 1 = pw q v (k - 1) v := by
              obtain ⟨k1, rfl⟩ : ∃ k1, k = k1 + 1 := ⟨k - 1, by omega⟩
              show pw q v k1 (prd q 1 v) = _
              rw [prd_1l h2 (by omega)]
              rfl
            exact m_sum_in h hd1 hdk hv1 hs (X := pw q v k 1) (ih (v + 1) _ (by omega) (cmb_lt _ h2 13 _ _) (by rw [hX, ← he]; rfl)) k 0 1 (by omega) (by rw [Nat.mul_zero, Nat.zero_add, Nat.pow_one]; omega) rfl
        exact loop (q ^ d) (q ^ d) 0 (by omega) (Nat.pow_pos (by omega)) rfl
      · rw [if_pos (by rw [Nat.mul_comm]; omega)] at hK
        exact hK
    · by_cases c : ∃ j, j < 5 ∧ v2 = nI j
      · obtain ⟨j, j1, rfl⟩ := c
        have : j = 0 := by
          apply Decidable.byContradiction
          intro z
          exact hno j (by omega) (by omega) rfl
        subst this
        rw [asN_nI (by omega), if_pos (by omega)] at hK
        dsimp only at hK
        rw [if_pos (Or.inr (Or.inl rfl))] at hK
        exact hK
      · have e3 : asN 5 v2 = none := asN_none (fun a ha z => c ⟨a, ha, z⟩)
        rw [e3] at hK
        exact hK
  · by_cases c : ∃ j, j < 13 ∧ v1 = nI j
    · obtain ⟨j, j1, rfl⟩ := c
      have : j = 0 := by
        apply Decidable.byContradiction
        intro z
        exact hno j (by omega) (by omega) rfl
      subst this
      rw [asN_nI (by omega), if_pos (by omega)] at hK
      cases h5 : asN 5 v2 with
      | none =>
        rw [h5] at hK
        exact hK
      | some d =>
        rw [h5] at hK
        dsimp only at hK
        rw [if_pos (Or.inl rfl)] at hK
        exact hK
    · rw [asN_none (fun a ha z => c ⟨a, ha, z⟩)] at hK
      exact hK
theorem Mq.ix0 {mi : Nat → Nat → Int32} (h : Mq q mi) : mi 155 (ix (nI 0)) = nI q := by rw [s_ix (by omega)]; exact h.2
theorem msl_lt (hq : q = 2 ∨ q = 3 ∨ q = 5) {p n : Nat} (hp : Mn q p) (hn : ln q 13 p = n + 1) (hn6 : n ≤ 6) : ∀ r k y v, y < q ^ n → v < q ^ n → msl q p r k y v < q ^ n
  | 0, _, _, _, _, hv => hv
  | r + 1, k, y, v, hy, hv => by
    have h2 : 2 ≤ q := by omega
    have hp0 := hp.pos h2
    have hp13 : p < q ^ 13 := by
      obtain ⟨_, _, _, z⟩ := hp
      exact z
    have up : ∀ z, z < q ^ n → z < q ^ 13 := fun z hz => Nat.lt_of_lt_of_le hz (Nat.pow_le_pow_right (by omega) (by omega))
    have ly := ln_le_lt (m := 13) h2 hy
    have lv := ln_le_lt (m := 13) h2 hv
    have h13 := prd_lt13 h2 (up _ hv) (up _ hy) (by omega)
    have h14 := prd_lt13 h2 (up _ hy) (up _ hy) (by omega)
    have hr1 := rst_small hq h13 hp13 hp0
    have hr2 := rst_small hq h14 hp13 hp0
    rw [hn, Nat.add_sub_cancel] at hr1 hr2
    unfold msl
    split
    · exact hv
    · refine msl_lt hq hp hn hn6 r _ _ _ hr2 ?_
      split
      · exact hr1
      · exact hv
theorem mso_lt (hq : q = 2 ∨ q = 3 ∨ q = 5) {a p : Nat} (ha : a < q ^ 13) (hp : Mn q p) (hn1 : 2 ≤ ln q 13 p) (hn : ln q 13 p ≤ 7) : mso q a p < q ^ (ln q 13 p - 1) := by
  have h2 : 2 ≤ q := by omega
  have hp0 := hp.pos h2
  have hp13 : p < q ^ 13 := by
    obtain ⟨_, _, _, z⟩ := hp
    exact z
  refine msl_lt hq hp (by omega) (by omega) _ _ _ _ (rst_small hq ha hp13 hp0) ?_
  have := Nat.pow_le_pow_right (show 0 < q by omega) (show 1 ≤ ln q 13 p - 1 by omega)
  rw [Nat.pow_one] at this
  omega
theorem m_sy_loop {p n : Nat} {mi0 : Nat → Nat → Int32} (h0 : Mq q mi0) (hp : Mn q p) (hn : ln q 13 p = n + 1) (hn6 : n ≤ 6) {Z : Nat} (hZ : ∀ mi1, offD mi0 mi1 → K (nI Z) mi1 ml) : ∀ (r k y v : Nat) (mi : Nat → Nat → Int32), k < 2 ^ r → r ≤ 31 → y < q ^ n → v < q ^ n → offD mi0 mi → msl q p r k y v = Z → wp G e tM m_X10_symbolOf 35 [(0, .ref 154), (2, .int (nI p)), (4, .int (nI k)), (5, .int (nI y)), (6, .int (nI v))] [] (mi, ml, RX RM) (QI K) := by
  have h2 := h0.two.1
  have hp0 := hp.pos h2
  have hp13 : p < q ^ 13 := by
    obtain ⟨_, _, _, z⟩ := hp
    exact z
  have up : ∀ M, M ≤ 13 → ∀ z, z < q ^ M → z < q ^ 13 := fun M hM z hz => Nat.lt_of_lt_of_le hz (Nat.pow_le_pow_right (by omega) hM)
  intro r
  induction r with
  | zero =>
    intro k y v mi hk _ _ _ ho he
    have : k = 0 := by omega
    subst this
    have he : v = Z := he
    subst he
    apply b_X10_symbolOf_35
    simp (disch := omega) only [s_le, s_lt, s_eq, s_eq0, s_in, s_ix, s_rm, s_div, s_pdlt, s_pdle, s_lepd, s_pdpd, s_pdlepd, s_pdadd, nI_add, pk_mul, pd_succ, Nat.not_lt_zero, Nat.zero_lt_succ, not_false_eq_true, not_true_eq_false, false_implies, true_implies, implies_true, and_true, true_and, Nat.reduceLT, Nat.reduceLeDiff, Nat.reduceAdd, Nat.reduceSub, Nat.zero_add, Nat.add_zero, Nat.le_refl]
    exact hZ mi ho
  | succ r ih =>
    intro k y v mi hk hr hy hv ho he
    have h31 : (2 : Nat) ^ (r + 1) ≤ 2 ^ 31 := Nat.pow_le_pow_right (by omega) hr
    have h := h0.offD ho
    unfold msl at he
    apply b_X10_symbolOf_35
    simp (disch := omega) only [s_le, s_lt, s_eq, s_eq0, s_in, s_ix, s_rm, s_div, s_pdlt, s_pdle, s_lepd, s_pdpd, s_pdlepd, s_pdadd, nI_add, pk_mul, pd_succ, Nat.not_lt_zero, Nat.zero_lt_succ, not_false_eq_true, not_true_eq_false, false_implies, true_implies, implies_true, and_true, true_and, Nat.reduceLT, Nat.reduceLeDiff, Nat.reduceAdd, Nat.reduceSub, Nat.zero_add, Nat.add_zero]
    refine ⟨fun z => ?_, fun z => ⟨by omega, fun z2 => ?_, fun z2 => ?_⟩⟩
    · rw [if_pos (by omega)] at he
      subst he
      exact hZ mi ho
    · rw [if_neg (by omega), if_neg (by omega)] at he
      have ly := ln_le_lt (m := 13) h2 hy
      refine m_times h (up _ (by omega) _ hy) (up _ (by omega) _ hy) ?_
      rw [tms_fit h2 (up _ (by omega) _ hy) (by omega)]
      have h13 := prd_lt13 h2 (up _ (by omega) _ hy) (up _ (by omega) _ hy) (by omega)
      refine m_rest h h13 hp13 hp0 (fun mi1 o1 => ?_)
      have hr1 := rst_small h.1 h13 hp13 hp0
      rw [hn, Nat.add_sub_cancel] at hr1
      refine ⟨by omega, ?_⟩
      exact ih (k / 2) _ v mi1 (by rw [Nat.pow_succ] at hk; omega) (by omega) hr1 hv (ho.trans o1) he
    · rw [if_neg (by omega), if_pos (by omega)] at he
      have ly := ln_le_lt (m := 13) h2 hy
      have lv := ln_le_lt (m := 13) h2 hv
      refine m_times h (up _ (by omega) _ hv) (up _ (by omega) _ hy) ?_
      rw [tms_fit h2 (up _ (by omega) _ hv) (by omega)]
      have h13 := prd_lt13 h2 (up _ (by omega) _ hv) (up _ (by omega) _ hy) (by omega)
      refine m_rest h h13 hp13 hp0 (fun mi1 o1 => ?_)
      have hr1 := rst_small h.1 h13 hp13 hp0
      rw [hn, Nat.add_sub_cancel] at hr1
      have h1 := h.offD o1
      refine m_times h1 (up _ (by omega) _ hy) (up _ (by omega) _ hy) ?_
      rw [tms_fit h2 (up _ (by omega) _ hy) (by omega)]
      have h14 := prd_lt13 h2 (up _ (by omega) _ hy) (up _ (by omega) _ hy) (by omega)
      refine m_rest h1 h14 hp13 hp0 (fun mi2 o2 => ?_)
      have hr2 := rst_small h.1 h14 hp13 hp0
      rw [hn, Nat.add_sub_cancel] at hr2
      refine ⟨by omega, ?_⟩
      exact ih (k / 2) _ _ mi2 (by rw [Nat.pow_succ] at hk; omega) (by omega) hr2 hr1 ((ho.trans o1).trans o2) he
theorem m_symbolOf {a p : Nat} {mi0 : Nat → Nat → Int32} (h0 : Mq q mi0) (ha : a < q ^ 13) (hp : Mn q p) (hn1 : 2 ≤ ln q 13 p) (hn : ln q 13 p ≤ 7) (hK : ∀ mi1, offD mi0 mi1 → K (nI (mso q a p)) mi1 ml) : wpI G e 168 m_X10_symbolOf [.ref 154, .int (nI a), .int (nI p)] (mi0, ml, RX RM) K := by
  have h2 := h0.two.1
  have hq2 := h0.two
  have hp0 := hp.pos h2
  have hp13 : p < q ^ 13 := by
    obtain ⟨_, _, _, z⟩ := hp
    exact z
  have h31 := pow_lt31 (M := 13) h0.1 (Nat.le_refl _)
  obtain ⟨n, hn'⟩ : ∃ n, ln q 13 p = n + 1 := ⟨ln q 13 p - 1, by omega⟩
  have hqn : q ^ n ≤ q ^ 13 := Nat.pow_le_pow_right (by omega) (by omega)
  have hqn1 : 1 ≤ q ^ n := Nat.pow_pos (by omega)
  have e1 : nI q - nI 1 = nI (q - 1) := s_sub (by omega)
  have e2 : nI (q ^ n) - nI 1 = nI (q ^ n - 1) := s_sub (by omega)
  have hr1 := rst_small h0.1 ha hp13 hp0
  rw [hn', Nat.add_sub_cancel] at hr1
  unfold mso at hK
  rw [hn', Nat.add_sub_cancel] at hK
  apply e_X10_symbolOf
  refine m_degree h0 hp13 ?_
  rw [hn', Nat.add_sub_cancel]
  refine m_power h0 (by omega) ?_
  rw [h0.ix0, e1]
  simp (disch := omega) only [s_le, s_lt, s_eq, s_eq0, s_in, s_ix, s_rm, s_div, s_pdlt, s_pdle, s_lepd, s_pdpd, s_pdlepd, s_pdadd, nI_add, pk_mul, pd_succ, Nat.not_lt_zero, Nat.zero_lt_succ, not_false_eq_true, not_true_eq_false, false_implies, true_implies, implies_true, and_true, true_and, Nat.reduceLT, Nat.reduceLeDiff, Nat.reduceAdd, Nat.reduceSub, Nat.zero_add, Nat.add_zero]
  refine ⟨by omega, ?_⟩
  · refine m_rest h0 ha hp13 hp0 (fun mi1 o1 => ?_)
    rw [e2]
    simp (disch := omega) only [s_le, s_lt, s_eq, s_eq0, s_in, s_ix, s_rm, s_div, s_pdlt, s_pdle, s_lepd, s_pdpd, s_pdlepd, s_pdadd, nI_add, pk_mul, pd_succ, Nat.not_lt_zero, Nat.zero_lt_succ, not_false_eq_true, not_true_eq_false, false_implies, true_implies, implies_true, and_true, true_and, Nat.reduceLT, Nat.reduceLeDiff, Nat.reduceAdd, Nat.reduceSub, Nat.zero_add, Nat.add_zero]
    have hd := Nat.div_le_self (q ^ n - 1) (q - 1)
    refine m_sy_loop h0 hp hn' (by omega) hK 31 _ _ 1 mi1 (by omega) (Nat.le_refl _) hr1 ?_ o1 rfl
    have := Nat.pow_le_pow_right (show 0 < q by omega) (show 1 ≤ n by omega)
    rw [Nat.pow_one] at this
    omega
theorem m_sm_loop {a : Nat} {mi0 : Nat → Nat → Int32} (h0 : Mq q mi0) (ha : a < q ^ 13) {Z : Nat} (hZ : ∀ mi1, offD mi0 mi1 → K (nI Z) mi1 ml) : ∀ (r x v : Nat) (mi : Nat → Nat → Int32), Mn q x → ln q 13 x ≤ r + 1 → r ≤ 6 → v < q → offD mi0 mi → msm q a (r + 1) x v = Z → wp G e tM m_X10_symbol 51 [(0, .ref 154), (1, .int (nI a)), (3, .int (nI v)), (4, .int (nI x))] [] (mi, ml, RX RM) (QI K) := by
  have h2 := h0.two.1
  have hq2 := h0.two
  intro r
  induction r with
  | zero =>
    intro x v mi hx hl _ _ ho he
    unfold msm at he
    rw [if_pos (by omega)] at he
    subst he
    have hx13 : x < q ^ 13 := by
      obtain ⟨_, _, _, z⟩ := hx
      exact z
    apply b_X10_symbol_51
    refine m_degree (h0.offD ho) hx13 ?_
    rw [show ln q 13 x - 1 = 0 by omega]
    exact ⟨fun _ => hZ mi ho, fun z => absurd (by decide) z⟩
  | succ r ih =>
    intro x v mi hx hl hr hv ho he
    have h := h0.offD ho
    have hx13 : x < q ^ 13 := by
      obtain ⟨_, _, _, z⟩ := hx
      exact z
    unfold msm at he
    apply b_X10_symbol_51
    refine m_degree h hx13 ?_
    simp (disch := omega) only [s_le, s_lt, s_eq, s_eq0, s_in, s_ix, s_rm, s_div, s_pdlt, s_pdle, s_lepd, s_pdpd, s_pdlepd, s_pdadd, nI_add, pk_mul, pd_succ, Nat.not_lt_zero, Nat.zero_lt_succ, not_false_eq_true, not_true_eq_false, false_implies, true_implies, implies_true, and_true, true_and, Nat.reduceLT, Nat.reduceLeDiff, Nat.reduceAdd, Nat.reduceSub, Nat.zero_add, Nat.add_zero]
    refine ⟨fun z => ?_, fun z => ?_⟩
    · rw [if_pos (by omega)] at he
      subst he
      exact hZ mi ho
    · rw [if_neg (by omega)] at he
      obtain ⟨⟨f1, f2, f3⟩, -⟩ := lft_is h2 hx (by omega)
      have hf13 : lft q x < q ^ 13 := by
        obtain ⟨_, _, _, z⟩ := f1
        exact z
      obtain ⟨q1, q2⟩ := quo_ln h.1 hx f1 f3
      refine m_leastFactor h hx13 (fun mi1 o1 => ?_)
      have h1 := h.offD o1
      refine m_symbolOf h1 ha f1 f2 (by omega) (fun mi2 o2 => ?_)
      have h3 := h1.offD o2
      have hml := mso_lt h.1 ha f1 f2 (by omega)
      have hq6 : q ^ (ln q 13 (lft q x) - 1) ≤ 5 ^ 6 := Nat.le_trans (Nat.pow_le_pow_left h0.two.2 _) (Nat.pow_le_pow_right (by omega) (by omega))
      have hvm : v * mso q a (lft q x) ≤ 5 * 5 ^ 6 := Nat.mul_le_mul (by omega) (by omega)
      rw [h3.2]
      simp (disch := omega) only [s_le, s_lt, s_eq, s_eq0, s_in, s_ix, s_rm, s_div, s_pdlt, s_pdle, s_lepd, s_pdpd, s_pdlepd, s_pdadd, nI_add, pk_mul, pd_succ, Nat.not_lt_zero, Nat.zero_lt_succ, not_false_eq_true, not_true_eq_false, false_implies, true_implies, implies_true, and_true, true_and, Nat.reduceLT, Nat.reduceLeDiff, Nat.reduceAdd, Nat.reduceSub, Nat.zero_add, Nat.add_zero]
      refine ⟨by omega, ?_⟩
      refine m_by h3 hx13 hf13 (f1.pos h2) (fun mi3 o3 => ?_)
      exact ih (quo q x (lft q x)) (v * mso q a (lft q x) % q) mi3 q1 (by omega) (by omega) (Nat.mod_lt _ (by omega)) (((ho.trans o1).trans o2).trans o3) he
theorem m_symbol (hS : SymOK) {s : Cst} {mi : Nat → Nat → Int32} (h : Mq q mi) (hq : aq (cN s) = q) {v1 v2 : Int32} (hK : ∀ mi1, offD mi mi1 → K (fSymbol s v1 v2) mi1 ml) : wpI G e 168 m_X10_symbol [.ref 154, .int v1, .int v2] (mi, ml, RX RM) K := by
  have h2 := h.two.1
  have hq2 := h.two
  unfold fSymbol at hK
  rw [hq] at hK
  apply e_X10_symbol
  refine m_isPoly h (fun a ha hv hla => ⟨fun z => absurd z (by decide), fun _ => ?_⟩) (fun hno => ⟨fun _ => ?_, fun z => absurd rfl z⟩)
  · rw [ha] at hK
    subst hv
    refine m_isPoly h (fun b hb hv2 hlb => ⟨fun z => absurd z (by decide), fun _ => ?_⟩) (fun hno => ⟨fun _ => ?_, fun z => absurd rfl z⟩)
    · rw [hb] at hK
      dsimp only at hK
      subst hv2
      have hl13 := ln_le q 13 b
      refine m_degree h hlb ?_
      refine m_isIn (a := 0) (lo := 1) (hi := 6) (by omega) (by omega) (fun k hk hk1 hk6 => ⟨fun z => absurd z (by decide), fun _ => ?_⟩) (fun hno => ⟨fun _ => ?_, fun z => absurd rfl z⟩)
      · have hkl : ln q 13 b - 1 = k := by
          have := congrArg Int32.toInt hk
          rw [nI_toInt (by omega), nI_toInt (by omega)] at this
          omega
        have hl : ln q 13 b = k + 1 := by omega
        refine m_degree h hlb ?_
        refine m_figure h hlb (by omega) ?_
        rw [hkl, ← fst_top hl]
        have hfl := fst_lt h2 b
        simp (disch := omega) only [s_le, s_lt, s_eq, s_eq0, s_in, s_ix, s_rm, s_div, s_pdlt, s_pdle, s_lepd, s_pdpd, s_pdlepd, s_pdadd, nI_add, pk_mul, pd_succ, Nat.not_lt_zero, Nat.zero_lt_succ, not_false_eq_true, not_true_eq_false, false_implies, true_implies, implies_true, and_true, true_and, Nat.reduceLT, Nat.reduceLeDiff, Nat.reduceAdd, Nat.reduceSub, Nat.zero_add, Nat.add_zero]
        refine ⟨fun c => ?_, fun c => ?_⟩
        · have hMn : Mn q b := ⟨k, hl, by rw [← fst_top hl]; exact c, hlb⟩
          refine m_sm_loop h hla (Z := sym q a b) (fun mi1 o1 => ?_) 6 b 1 mi hMn (by omega) (Nat.le_refl _) (by omega) (offD.refl mi) ?_
          · have := hK mi1 o1
            rw [if_pos ⟨c, by omega, by omega⟩] at this
            exact this
          · exact (hS q a b h.1 hla hMn (by omega) (by omega)).symm
        · have := hK mi (offD.refl mi)
          rw [if_neg (fun z => c z.1)] at this
          exact this
      · have := hK mi (offD.refl mi)
        rw [if_neg (fun z => hno (ln q 13 b - 1) (by omega) (by omega) rfl)] at this
        exact this
    · rw [hno] at hK
      exact hK mi (offD.refl mi)
  · rw [hno] at hK
    exact hK mi (offD.refl mi)
theorem m_factors (hF : FctOK) {s : Cst} {mi0 : Nat → Nat → Int32} (h0 : Mq q mi0) (hq : aq (cN s) = q) {v1 v2 : Int32} (hK : ∀ mi1, offD mi0 mi1 → K (fFactors s v1 v2) mi1 ml) : wpI G e 168 m_X10_factors [.ref 154, .int v1, .int v2] (mi0, ml, RX RM) K := by
  have h2 := h0.two.1
  have hq2 := h0.two
  have h31 := pow_lt31 (M := 13) h0.1 (Nat.le_refl _)
  unfold fFactors at hK
  rw [hq] at hK
  apply e_X10_factors
  refine m_isPoly h0 (fun a ha hv hla => ⟨fun z => absurd z (by decide), fun _ => ?_⟩) (fun hno => ⟨fun _ => ?_, fun z => absurd rfl z⟩)
  · rw [ha] at hK
    dsimp only at hK
    subst hv
    simp (disch := omega) only [s_le, s_lt, s_eq, s_eq0, s_in, s_ix, s_rm, s_div, s_pdlt, s_pdle, s_lepd, s_pdpd, s_pdlepd, s_pdadd, nI_add, pk_mul, pd_succ, Nat.not_lt_zero, Nat.zero_lt_succ, not_false_eq_true, not_true_eq_false, false_implies, true_implies, implies_true, and_true, true_and, Nat.reduceLT, Nat.reduceLeDiff, Nat.reduceAdd, Nat.reduceSub, Nat.zero_add, Nat.add_zero]
    refine ⟨fun c => ?_, fun c => ⟨fun c2 => ?_, fun c2 => ?_⟩⟩
    · have := hK mi0 (offD.refl mi0)
      rw [if_pos (Or.inl c)] at this
      exact this
    · obtain ⟨e1, e2, e3⟩ := hF q a v2 h0.1 hla (by omega) c2
      have hK1 : ∀ mi1, offD mi0 mi1 → K (mfc q v2 14 (mon q a) 0) mi1 ml := fun mi1 o1 => by
        have := hK mi1 o1
        rw [if_neg (fun z => by rcases z with z | z; exact c z; exact z c2)] at this
        by_cases y : v2 = NONE
        · rw [if_pos y] at this
          rw [e1 y]
          exact this
        · rw [if_neg y] at this
          cases h5 : asN (fnd q a).1 v2 with
          | none =>
            rw [h5] at this
            rw [e2 y h5]
            exact this
          | some i =>
            rw [h5] at this
            rw [e3 i y h5]
            exact this
      generalize hZ : mfc q v2 14 (mon q a) 0 = Z at hK1
      have loop : ∀ (r x k : Nat) (mi : Nat → Nat → Int32), Mn q x → ln q 13 x ≤ r + 1 → k + r ≤ 13 → offD mi0 mi → mfc q v2 (r + 1) x k = Z → wp G e tM m_X10_factors 28 [(0, .ref 154), (2, .int v2), (3, .int (nI x)), (4, .int (nI k))] [] (mi, ml, RX RM) (QI K) := by
        intro r
        induction r with
        | zero =>
          intro x k mi hx hl hk ho he
          have hx13 : x < q ^ 13 := by
            obtain ⟨_, _, _, z⟩ := hx
            exact z
          unfold mfc at he
          rw [if_pos (by omega)] at he
          apply b_X10_factors_28
          refine m_degree (h0.offD ho) hx13 ?_
          rw [show ln q 13 x - 1 = 0 by omega]
          refine ⟨fun _ => ⟨fun z => ?_, fun z => ?_⟩, fun z => absurd (by decide) z⟩
          · rw [if_neg z] at he
            have := hK1 mi ho
            rw [← he] at this
            exact this
          · rw [if_pos z] at he
            have := hK1 mi ho
            rw [← he] at this
            exact this
        | succ r ih =>
          intro x k mi hx hl hk ho he
          have hx13 : x < q ^ 13 := by
            obtain ⟨_, _, _, z⟩ := hx
            exact z
          have h := h0.offD ho
          unfold mfc at he
          apply b_X10_factors_28
          refine m_degree h hx13 ?_
          simp (disch := omega) only [s_le, s_lt, s_eq, s_eq0, s_in, s_ix, s_rm, s_div, s_pdlt, s_pdle, s_lepd, s_pdpd, s_pdlepd, s_pdadd, nI_add, pk_mul, pd_succ, Nat.not_lt_zero, Nat.zero_lt_succ, not_false_eq_true, not_true_eq_false, false_implies, true_implies, implies_true, and_true, true_and, Nat.reduceLT, Nat.reduceLeDiff, Nat.reduceAdd, Nat.reduceSub, Nat.zero_add, Nat.add_zero]
          refine ⟨fun c3 => ⟨fun z => ?_, fun z => ?_⟩, fun c3 => ?_⟩
          · rw [if_pos (by omega), if_neg z] at he
            have := hK1 mi ho
            rw [← he] at this
            exact this
          · rw [if_pos (by omega), if_pos z] at he
            have := hK1 mi ho
            rw [← he] at this
            exact this
          · rw [if_neg (by omega)] at he
            obtain ⟨⟨f1, f2, f3⟩, -⟩ := lft_is h2 hx (by omega)
            have hf13 : lft q x < q ^ 13 := by
              obtain ⟨_, _, _, z⟩ := f1
              exact z
            obtain ⟨q1, q2⟩ := quo_ln h.1 hx f1 f3
            refine m_leastFactor h hx13 (fun mi1 o1 => ⟨fun z => ?_, fun z => ?_⟩)
            · rw [if_neg z] at he
              refine m_by (h.offD o1) hx13 hf13 (f1.pos h2) (fun mi2 o2 => ?_)
              exact ih (quo q x (lft q x)) (k + 1) mi2 q1 (by omega) (by omega) ((ho.trans o1).trans o2) he
            · rw [if_pos z] at he
              have := hK1 mi1 (ho.trans o1)
              rw [← he] at this
              exact this
      refine m_monic h0 hla ?_
      have hMn := mon_Mn h0.1 hla (by omega)
      have hl13 := ln_le q 13 (mon q a)
      exact loop 13 (mon q a) 0 mi0 hMn (by omega) (by omega) (offD.refl mi0) hZ
    · have := hK mi0 (offD.refl mi0)
      rw [if_pos (Or.inr c2)] at this
      exact this
  · rw [hno] at hK
    exact hK mi0 (offD.refl mi0)
end MSU
