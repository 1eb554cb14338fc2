/-! the class's face: what holds between calls -/
variable {mo : Nat → Nat → Int32}
/-- v as a number below n -/
def asN (n : Nat) (v : Int32) : Option Nat := if v < 0 then none else if v.toNatClampNeg < n then some v.toNatClampNeg else none
theorem asN_nI {n j : Nat} (hj : j < 2 ^ 31) : asN n (nI j) = if j < n then some j else none := by
  unfold asN
  have h1 : ¬ nI j < 0 := nI_pos hj
  rw [if_neg h1, nI_clamp hj]
theorem asN_neg {n : Nat} {v : Int32} (h : v < 0) : asN n v = none := if_pos h
theorem asN_some {n a : Nat} {v : Int32} (h : asN n v = some a) : v = nI a ∧ a < n ∧ a < 2 ^ 31 := by
  by_cases c : v < 0
  · rw [asN_neg c] at h
    cases h
  · obtain ⟨j, hj, rfl⟩ := nI_of c
    rw [asN_nI hj] at h
    split at h
    · next c1 =>
      have e := Option.some.inj h
      subst e
      exact ⟨rfl, c1, hj⟩
    · cases h
theorem asN_none {n : Nat} {v : Int32} (h : ∀ a, a < n → ¬ v = nI a) : asN n v = none := by
  by_cases c : v < 0
  · exact asN_neg c
  · obtain ⟨j, hj, rfl⟩ := nI_of c
    rw [asN_nI hj, if_neg (fun z => h j z rfl)]
abbrev Cst : Type := Ast × Ast × (Nat × (Nat → Nat)) × ((Nat → Nat) × (Nat → Nat → Nat)) × (Int32 × Int32)
abbrev cN (s : Cst) : Ast := s.1
abbrev cK (s : Cst) : Ast := s.2.1
abbrev cTl (s : Cst) : Nat := s.2.2.1.1
abbrev cTb (s : Cst) : Nat → Nat := s.2.2.1.2
abbrev cXl (s : Cst) : Nat → Nat := s.2.2.2.1.1
abbrev cXb (s : Cst) : Nat → Nat → Nat := s.2.2.2.1.2
abbrev cF (s : Cst) : Int32 := s.2.2.2.2.1
abbrev cP (s : Cst) : Int32 := s.2.2.2.2.2
def dO (A : Ast) : Nat := ln (aq A) 13 (am A) - 1
def nO (A : Ast) : Nat := aq A ^ dO A
def TI (mo : Nat → Nat → Int32) (s : Cst) (mi : Nat → Nat → Int32) : Prop := mi 0 13 = nI (cTl s) ∧ cTl s ≤ 300 ∧ mi 0 14 = cF s ∧ mi 0 15 = cP s ∧ (∀ i, i < 300 → mi 152 i = nI (cTb s i)) ∧ (∀ i, cTb s i < 256) ∧
  (∀ j, j < 4 → mi 151 j = nI (cXl s j) ∧ cXl s j ≤ 300 ∧ ∀ i, i < 300 → mi (147 + j) i = nI (cXb s j i)) ∧ (∀ j i, cXb s j i < 256) ∧ ∀ o, 154 ≤ o → mi o = mo o
/-- between calls the class's world stands for s -/
def CI (mo : Nat → Nat → Int32) (s : Cst) (mi : Nat → Nat → Int32) : Prop := (∃ g num S, En (aq (cN s)) (am (cN s)) (dO (cN s)) (nO (cN s)) g mi ∧ Rdi num S mi) ∧ SM 96 (cN s) mi ∧ SM 121 (cK s) mi ∧ SI (cN s) (dO (cN s)) (nO (cN s)) ∧ SI (cK s) (dO (cK s)) (nO (cK s)) ∧ TI mo s mi
def offX (mi mi1 : Nat → Nat → Int32) : Prop := ∀ o, (o < 7 ∨ (72 < o ∧ o ≠ 153)) → mi1 o = mi o
theorem TI.off {s : Cst} {mi mi1 : Nat → Nat → Int32} (h : TI mo s mi) (h0 : mi1 0 = mi 0) (ho : ∀ o, 146 < o → o < 153 → mi1 o = mi o) (hm : ∀ o, 154 ≤ o → mi1 o = mi o) : TI mo s mi1 := by
  obtain ⟨t1, t2, t3, t4, t5, t6, t7, t8, t9⟩ := h
  refine ⟨by rw [h0]; exact t1, t2, by rw [h0]; exact t3, by rw [h0]; exact t4, by rw [ho 152 (by omega) (by omega)]; exact t5, t6, fun j hj => ?_, t8, fun o o1 => (hm o o1).trans (t9 o o1)⟩
  rw [ho 151 (by omega) (by omega), ho (147 + j) (by omega) (by omega)]
  exact t7 j hj
theorem Rdi.off {num : Nat} {S : Nat → Nat → Nat} {mi mi1 : Nat → Nat → Int32} (h : Rdi num S mi) (ho : ∀ o, 72 < o → o < 95 → mi1 o = mi o) : Rdi num S mi1 := by
  obtain ⟨h1, h2, h3, h4⟩ := h
  unfold Rdi
  rw [ho 73 (by omega) (by omega)]
  exact ⟨h1, h2, h3, fun i hi => (h4 i hi).off (ho _ (by omega) (by omega))⟩
theorem CI.off {s : Cst} {mi mi1 : Nat → Nat → Int32} (h : CI mo s mi) (ho : offX mi mi1) : CI mo s mi1 := by
  obtain ⟨⟨g, num, S, h1, h2⟩, h3, h4, h5, h6, h7⟩ := h
  exact ⟨⟨g, num, S, h1.off (fun o o1 o2 => ho o (by omega)), h2.off (fun o o1 o2 => ho o (by omega))⟩, h3.off (fun o o1 o2 => ho o (by omega)), h4.off (fun o o1 o2 => ho o (by omega)), h5, h6, h7.off (ho 0 (by omega)) (fun o o1 o2 => ho o (by omega)) (fun o o1 => ho o (by omega))⟩
section FC1
variable {G : GC} {e : Nat} {mi : Nat → Nat → Int32} {ml : Nat → Nat → Int64} {y : Nat → Nat → Option Nat} {s : Cst}
theorem CI.en (h : CI mo s mi) : ∃ g, En (aq (cN s)) (am (cN s)) (dO (cN s)) (nO (cN s)) g mi := by
  obtain ⟨⟨g, num, S, h1, h2⟩, -⟩ := h
  exact ⟨g, h1⟩
theorem CI.ten (h : CI mo s mi) : kc (aks (cN s)) 0 (adn (cN s)) ≤ 10 ∧ kc (aks (cN s)) 1 (adn (cN s)) ≤ 10 := by
  obtain ⟨-, -, -, ⟨-, -, h1, h2, h3, h4, -⟩, -⟩ := h
  exact ⟨Nat.le_trans (kc_le h1) h3, Nat.le_trans (kc_le h1) h4⟩
theorem CI.mod (h : CI mo s mi) {i : Nat} (hi : i < kc (aks (cN s)) 0 (adn (cN s))) : isR (98 + i) ∧ an (98 + i) = 4 ∧ Rw (nO (cN s)) mi (98 + i) (amd (cN s) i) ∧ 2 ≤ rl (amd (cN s) i) 4 ∧ i < 10 := by
  have h10 := h.ten.1
  obtain ⟨-, h3, -, ⟨-, -, s1, -, -, -, -, s2, -⟩, -⟩ := h
  have hl := kc_le (ks := aks (cN s)) (b := 0) s1
  have hr := st_rows (show i < 10 by omega)
  have hw := (h3.2.2.2.2.2.1 i (by omega)).1
  obtain ⟨v1, v2⟩ := s2 i (by omega)
  exact ⟨hr.1.1, hr.1.2, ⟨hw.1, hw.2.1, v1⟩, v2, by omega⟩
theorem CI.map (h : CI mo s mi) {i : Nat} (hi : i < kc (aks (cN s)) 1 (adn (cN s))) : isR (109 + i) ∧ an (109 + i) = 8 ∧ Rw (nO (cN s)) mi (109 + i) (amp (cN s) i) ∧ 1 ≤ rl (amp (cN s) i) 8 ∧ i < 10 := by
  have h10 := h.ten.2
  obtain ⟨-, h3, -, ⟨-, -, s1, -, -, -, -, -, s2⟩, -⟩ := h
  have hl := kc_le (ks := aks (cN s)) (b := 1) s1
  have hr := st_rows (show i < 10 by omega)
  have hw := (h3.2.2.2.2.2.1 i (by omega)).2
  obtain ⟨v1, v2⟩ := s2 i (by omega)
  exact ⟨hr.2.1.1, hr.2.1.2, ⟨hw.1, hw.2.1, v1⟩, v2, by omega⟩
theorem q_rholds {q m d n g : Nat} (h : En q m d n g mi) {v : Int32} {K : Int32 → (Nat → Nat → Int32) → (Nat → Nat → Int64) → Prop} (h1 : ∀ a, asN n v = some a → v = nI a → a < n → K (nI 1) mi ml) (h0 : asN n v = none → K (nI 0) mi ml) : wpI G e 154 m_X5_holds [.ref 3, .int v] (mi, ml, RX y) K := by
  have hn := h.w.2.2.2.2.2.2
  refine p_rholds h.2.1 (fun a ha hv => h1 a ?_ hv ha) (fun hno => h0 (asN_none hno))
  rw [hv, asN_nI (by omega), if_pos ha]
theorem q_holds {q : Nat} (h : Fg q mi) {v : Int32} {K : Int32 → (Nat → Nat → Int32) → (Nat → Nat → Int64) → Prop} (h1 : ∀ a, asN (q ^ 13) v = some a → v = nI a → a < q ^ 13 → K (nI 1) mi ml) (h0 : asN (q ^ 13) v = none → K (nI 0) mi ml) : wpI G e 154 m_X1_holds [.ref 1, .int v] (mi, ml, RX y) K := by
  have hn := pow_lt31 (M := 13) h.1 (Nat.le_refl _)
  refine p_holds h (fun a ha hv => h1 a ?_ hv ha) (fun hno => h0 (asN_none hno))
  rw [hv, asN_nI (by omega), if_pos ha]
theorem q_has0 (h : CI mo s mi) {v : Int32} {K : Int32 → (Nat → Nat → Int32) → (Nat → Nat → Int64) → Prop} (h1 : ∀ a, asN (kc (aks (cN s)) 0 (adn (cN s))) v = some a → v = nI a → a < kc (aks (cN s)) 0 (adn (cN s)) → K (nI 1) mi ml) (h0 : asN (kc (aks (cN s)) 0 (adn (cN s))) v = none → K (nI 0) mi ml) : wpI G e 154 m_X6_has [.ref 96, .int (nI 0), .int v] (mi, ml, RX y) K := by
  have h10 := h.ten.1
  refine p_shas0 h.2.1 h10 (fun a ha hv => h1 a ?_ hv ha) (fun hno => h0 (asN_none hno))
  rw [hv, asN_nI (by omega), if_pos ha]
theorem q_has1 (h : CI mo s mi) {v : Int32} {K : Int32 → (Nat → Nat → Int32) → (Nat → Nat → Int64) → Prop} (h1 : ∀ a, asN (kc (aks (cN s)) 1 (adn (cN s))) v = some a → v = nI a → a < kc (aks (cN s)) 1 (adn (cN s)) → K (nI 1) mi ml) (h0 : asN (kc (aks (cN s)) 1 (adn (cN s))) v = none → K (nI 0) mi ml) : wpI G e 154 m_X6_has [.ref 96, .int (nI 1), .int v] (mi, ml, RX y) K := by
  have h10 := h.ten.2
  refine p_shas1 h.2.1 h10 (fun a ha hv => h1 a ?_ hv ha) (fun hno => h0 (asN_none hno))
  rw [hv, asN_nI (by omega), if_pos ha]
theorem p_setBase {q : Nat} (hq : q = 2 ∨ q = 3 ∨ q = 5) {K : (Nat → Nat → Int32) → (Nat → Nat → Int64) → Prop} (hK : ∀ mi1 : Nat → Nat → Int32, (∀ o, o ≠ 1 → o ≠ 2 → mi1 o = mi o) → Fg q mi1 → K mi1 ml) : wpV G e 154 m_X1_setBase [.ref 1, .int (nI q)] (mi, ml, RX y) K := by
  have loop : ∀ (r i : Nat) (mi1 : Nat → Nat → Int32), r + i = 14 → (∀ o, o ≠ 1 → o ≠ 2 → mi1 o = mi o) → mi1 1 0 = nI q → (∀ k, k < i → mi1 2 k = nI (q ^ k)) → wp G e tX m_X1_setBase 20 [(0, .ref 1), (1, .int (nI q)), (2, .int (nI (q ^ i))), (3, .int (nI i))] [] (mi1, ml, RX y) (QV K) := by
    intro r
    induction r with
    | zero =>
      intro i mi1 hr ho h1 h2
      apply b_X1_setBase_20
      simp (disch := omega) only [s_le, s_lt, s_eq, s_eq0, s_in, s_ix, s_rm, s_div, s_pdlt, s_pdle, s_lepd, s_pdpd, s_pdlepd, s_pdadd, nI_add, pk_mul, pd_succ, Nat.not_lt_zero, Nat.zero_lt_succ, not_false_eq_true, not_true_eq_false, false_implies, true_implies, implies_true, and_true, true_and, Nat.reduceLT, Nat.reduceLeDiff, Nat.reduceAdd, Nat.reduceSub, Nat.zero_add, Nat.add_zero]
      exact ⟨fun _ => hK mi1 ho ⟨hq, h1, fun k hk => h2 k (by omega)⟩, fun z => absurd (show 14 ≤ i by omega) z⟩
    | succ r ih =>
      intro i mi1 hr ho h1 h2
      apply b_X1_setBase_20
      simp (disch := omega) only [s_le, s_lt, s_eq, s_eq0, s_in, s_ix, s_rm, s_div, s_pdlt, s_pdle, s_lepd, s_pdpd, s_pdlepd, s_pdadd, nI_add, pk_mul, pd_succ, Nat.not_lt_zero, Nat.zero_lt_succ, not_false_eq_true, not_true_eq_false, false_implies, true_implies, implies_true, and_true, true_and, Nat.reduceLT, Nat.reduceLeDiff, Nat.reduceAdd, Nat.reduceSub, Nat.zero_add, Nat.add_zero]
      refine ⟨fun z => absurd z (by omega), fun _ => ⟨by omega, ?_⟩⟩
      rw [← Nat.pow_succ]
      refine ih (i + 1) _ (by omega) (fun o o1 o2 => by rw [u2_off o2]; exact ho o o1 o2) (by rw [u2_off (by omega)]; exact h1) (fun k hk => ?_)
      by_cases z : k = i
      · rw [z, u2_at]
      · rw [u2_ne z]
        exact h2 k (by omega)
  apply e_X1_setBase
  have := loop 14 0 (u2 mi 1 0 (nI q)) rfl (fun o o1 o2 => u2_off o1) u2_at (fun k hk => absurd hk (by omega))
  rw [Nat.pow_zero] at this
  simp (disch := omega) only [s_le, s_lt, s_eq, s_eq0, s_in, s_ix, s_rm, s_div, s_pdlt, s_pdle, s_lepd, s_pdpd, s_pdlepd, s_pdadd, nI_add, pk_mul, pd_succ, Nat.not_lt_zero, Nat.zero_lt_succ, not_false_eq_true, not_true_eq_false, false_implies, true_implies, implies_true, and_true, true_and, Nat.reduceLT, Nat.reduceLeDiff, Nat.reduceAdd, Nat.reduceSub, Nat.zero_add, Nat.add_zero]
  exact ⟨fun z => absurd z (by omega), fun _ => ⟨fun _ => this, fun z => absurd z (by omega)⟩⟩
def isMod (q m : Nat) : Bool := decide (m < q ^ 13 ∧ 2 ≤ ln q 13 m ∧ q ^ (ln q 13 m - 1) ≤ 128 ∧ fst q m = 1 ∧ (fnd q m).1 = 1)
theorem p_isModulus {q : Nat} (h : Fg q mi) {v : Int32} {K : Int32 → (Nat → Nat → Int32) → (Nat → Nat → Int64) → Prop}
    (h1 : ∀ m, v = nI m → m < q ^ 13 → isMod q m = true → ∀ mi1, (∀ o, (o < 7 ∨ 9 < o) → mi1 o = mi o) → K (nI 1) mi1 ml)
    (h0 : (∀ m, v = nI m → m < q ^ 13 → ¬ isMod q m = true) → ∀ mi1, (∀ o, (o < 7 ∨ 9 < o) → mi1 o = mi o) → K (nI 0) mi1 ml) : wpI G e 154 m_X9_isModulus [.ref 0, .int v] (mi, ml, RX y) K := by
  have h2 := h.two
  have h31 := pow_lt31 (M := 13) h.1 (Nat.le_refl _)
  apply e_X9_isModulus
  refine p_holds h (fun m hm hv => ?_) (fun hno => ?_)
  · have hl := ln_le q 13 m
    have hno : ¬ isMod q m = true → ∀ mi1, (∀ o, (o < 7 ∨ 9 < o) → mi1 o = mi o) → isB (nI 0) ∧ K (nI 0) mi1 ml := fun hn mi1 ho => ⟨Or.inl rfl, h0 (fun m' hv' hm' => by
      rw [hv, s_eq (by omega) (by omega)] at hv'
      rw [← hv']
      exact hn) mi1 ho⟩
    have hiff : isMod q m = true ↔ (m < q ^ 13 ∧ 2 ≤ ln q 13 m ∧ q ^ (ln q 13 m - 1) ≤ 128 ∧ fst q m = 1 ∧ (fnd q m).1 = 1) := decide_eq_true_iff
    subst hv
    refine ⟨fun _ => p_degree h hm ?_, fun z => absurd z (by decide)⟩
    simp (disch := omega) only [s_le, s_lt, s_eq, s_eq0, s_in, s_ix, s_rm, s_div, s_pdlt, s_pdle, s_lepd, s_pdpd, s_pdlepd, s_pdadd, nI_add, pk_mul, pd_succ, Nat.not_lt_zero, Nat.zero_lt_succ, not_false_eq_true, not_true_eq_false, false_implies, true_implies, implies_true, and_true, true_and, Nat.reduceLT, Nat.reduceLeDiff, Nat.reduceAdd, Nat.reduceSub, Nat.zero_add, Nat.add_zero]
    refine ⟨fun z => hno (fun z2 => by have := hiff.mp z2; omega) mi (fun _ _ => rfl), fun z => ?_⟩
    obtain ⟨k, hk⟩ : ∃ k, ln q 13 m = k + 1 := ⟨ln q 13 m - 1, by omega⟩
    rw [hk, pd_succ]
    rw [hk, Nat.add_sub_cancel] at hiff
    refine p_power h (by omega) ?_
    have hpk := pow_lt31 (M := k) h.1 (by omega)
    simp (disch := omega) only [s_le, s_lt, s_eq, s_eq0, s_in, s_ix, s_rm, s_div, s_pdlt, s_pdle, s_lepd, s_pdpd, s_pdlepd, s_pdadd, nI_add, pk_mul, pd_succ, Nat.not_lt_zero, Nat.zero_lt_succ, not_false_eq_true, not_true_eq_false, false_implies, true_implies, implies_true, and_true, true_and, Nat.reduceLT, Nat.reduceLeDiff, Nat.reduceAdd, Nat.reduceSub, Nat.zero_add, Nat.add_zero]
    refine ⟨fun z2 => hno (fun z3 => by have := hiff.mp z3; omega) mi (fun _ _ => rfl), fun z2 => ?_⟩
    refine p_isMonic h hm (fun z3 => ⟨fun _ => ?_, fun z4 => absurd z4 (by decide)⟩) (fun z3 => ⟨fun z4 => absurd rfl z4, fun _ => hno (fun z5 => z3 (hiff.mp z5).2.2.2.1) mi (fun _ _ => rfl)⟩)
    have hm0 : 0 < m := by
      rcases Nat.eq_zero_or_pos m with z4 | z4
      · rw [z4, ln_zero h2.1] at hk
        omega
      · exact z4
    refine p_find h hm hm0 (fun mi1 ho1 hFd => p_many hFd ?_)
    have hL := hFd.2.1
    have ho2 : ∀ o, (o < 7 ∨ 9 < o) → mi1 o = mi o := fun o oo => ho1 o (by omega) (by omega) (by omega)
    simp (disch := omega) only [s_le, s_lt, s_eq, s_eq0, s_in, s_ix, s_rm, s_div, s_pdlt, s_pdle, s_lepd, s_pdpd, s_pdlepd, s_pdadd, nI_add, pk_mul, pd_succ, Nat.not_lt_zero, Nat.zero_lt_succ, not_false_eq_true, not_true_eq_false, false_implies, true_implies, implies_true, and_true, true_and, Nat.reduceLT, Nat.reduceLeDiff, Nat.reduceAdd, Nat.reduceSub, Nat.zero_add, Nat.add_zero]
    refine ⟨fun z4 => hno (fun z5 => z4 (hiff.mp z5).2.2.2.2) mi1 ho2, fun z4 => ⟨Or.inr rfl, h1 m rfl hm (hiff.mpr ⟨hm, by omega, by omega, z3, z4⟩) mi1 ho2⟩⟩
  · refine ⟨fun z => absurd rfl z, fun _ => ⟨Or.inl rfl, h0 (fun m hv hm => absurd hv (hno m hm)) mi (fun _ _ => rfl)⟩⟩
abbrev NONE : Int32 := -(nI 1)
/-- a new world -/
def sWorld (s : Cst) (q m : Nat) : Cst := (startA (cN s) q m, s.2)
/-- what the numbers must tell of every modulus that is taken -/
def modOK : Prop := ∀ q m, (q = 2 ∨ q = 3 ∨ q = 5) → isMod q m = true → Pw q m (ln q 13 m - 1) (q ^ (ln q 13 m - 1))
theorem p_world (hP : modOK) (h : CI mo s mi) {v1 v2 : Int32} {K : Int32 → (Nat → Nat → Int32) → (Nat → Nat → Int64) → Prop}
    (h1 : ∀ q m, (q = 2 ∨ q = 3 ∨ q = 5) → v1 = nI q → v2 = nI m → m < q ^ 13 → isMod q m = true → ∀ mi1, CI mo (sWorld s q m) mi1 → K (nI (q ^ (ln q 13 m - 1))) mi1 ml)
    (h0 : (∀ q m, (q = 2 ∨ q = 3 ∨ q = 5) → v1 = nI q → v2 = nI m → m < q ^ 13 → ¬ isMod q m = true) → ∀ mi1, CI mo s mi1 → K NONE mi1 ml) : wpI G e 154 m_X9_world [.ref 0, .int v1, .int v2] (mi, ml, RX y) K := by
  obtain ⟨⟨g, num, S, hE, hR⟩, hN, hKp, hSN, hSK, hT⟩ := id h
  have body : ∀ q, (q = 2 ∨ q = 3 ∨ q = 5) → v1 = nI q → (wpI G e 154 m_X1_base [.ref 1] (mi, ml, (RX y)) (fun r3 mi1 ml2 => (wpV G e 154 m_X1_setBase [.ref 1, .int v1] (mi1, ml2, (RX y)) (fun mi4 ml5 => (wpI G e 154 m_X9_isModulus [.ref 0, .int v2] (mi4, ml5, (RX y)) (fun r8 mi6 ml7 => ((¬ r8 = (nI 0) → (wpV G e 154 m_X6_start [.ref 96, .int v1, .int v2] (mi6, ml7, (RX y)) (fun mi9 ml10 => (wpV G e 154 m_X5_setModulus [.ref 3, .int v2] (mi9, ml10, (RX y)) (fun mi11 ml12 => (wpI G e 154 m_X5_size [.ref 3] (mi11, ml12, (RX y)) (fun r15 mi13 ml14 => K r15 mi13 ml14))))))) ∧ (r8 = (nI 0) → (wpV G e 154 m_X1_setBase [.ref 1, .int r3] (mi6, ml7, (RX y)) (fun mi16 ml17 => K (-(nI 1)) mi16 ml17)))))))))) := by
    intro q hq hv1
    subst hv1
    refine p_base hE.1 (p_setBase hq (fun mi1 ho1 hF1 => ?_))
    refine p_isModulus hF1 (fun m hv hm hmod mi2 ho2 => ?_) (fun hno mi2 ho2 => ?_)
    · subst hv
      refine ⟨fun _ => ?_, fun z => absurd z (by decide)⟩
      have hF2 : Fg q mi2 := hF1.off (ho2 1 (by omega)) (ho2 2 (by omega))
      have hN2 : SM 96 (cN s) mi2 := hN.off (fun o o1 o2 => by rw [ho2 o (by omega), ho1 o (by omega) (by omega)])
      refine p_start hN2 (fun mi3 ho3 hN3 => ?_)
      have hF3 : Fg q mi3 := hF2.off (ho3 1 (by omega)) (ho3 2 (by omega))
      have hpw := hP q m hq hmod
      refine p_setWorld hpw hF3 (fun g4 mi4 ho4 hE4 => p_rsize hE4.2.1 ?_)
      have hall : ∀ o, (o = 0 ∨ 9 < o) → (o < 96 ∨ 120 < o) → mi4 o = mi o := fun o a b => by rw [ho4 o (by omega) (by omega) (by omega) (by omega), ho3 o b, ho2 o (by omega), ho1 o (by omega) (by omega)]
      obtain ⟨-, t1, t2, t3, t4, t5, t6, t7, t8⟩ := hSN
      refine h1 q m hq rfl rfl hm hmod mi4 ⟨⟨g4, num, S, hE4, hR.off (fun o o1 o2 => hall o (by omega) (by omega))⟩, hN3.off (fun o o1 o2 => ho4 o (by omega) (by omega) (by omega) (by omega)), hKp.off (fun o o1 o2 => hall o (by omega) (by omega)), ?_, hSK, hT.off (hall 0 (by omega) (by omega)) (fun o o1 o2 => hall o (by omega) (by omega)) (fun o o1 => hall o (by omega) (by omega))⟩
      exact ⟨hpw, t1, Nat.le_refl 0, Nat.zero_le _, Nat.zero_le _, Nat.zero_le _, t6, fun i hi => absurd hi (by show ¬ i < 0; omega), fun i hi => absurd hi (by show ¬ i < 0; omega)⟩
    · refine ⟨fun z => absurd rfl z, fun _ => p_setBase hE.1.1 (fun mi3 ho3 hF3 => ?_)⟩
      have hall : ∀ o, (o = 0 ∨ 2 < o) → (o < 7 ∨ 9 < o) → mi3 o = mi o := fun o a b => by rw [ho3 o (by omega) (by omega), ho2 o b, ho1 o (by omega) (by omega)]
      refine h0 (fun q' m' hq' hv' hv2 hm' => ?_) mi3 ⟨⟨g, num, S, ⟨hF3, hE.2.1.off (hall 3 (by omega) (by omega)) (hall 4 (by omega) (by omega)) (hall 5 (by omega) (by omega)) (hall 6 (by omega) (by omega)), hE.2.2⟩, hR.off (fun o o1 o2 => hall o (by omega) (by omega))⟩, hN.off (fun o o1 o2 => hall o (by omega) (by omega)), hKp.off (fun o o1 o2 => hall o (by omega) (by omega)), hSN, hSK, hT.off (hall 0 (by omega) (by omega)) (fun o o1 o2 => hall o (by omega) (by omega)) (fun o o1 => hall o (by omega) (by omega))⟩
      rw [s_eq (by omega) (by omega)] at hv'
      subst hv'
      exact hno m' hv2 hm'
  apply e_X9_world
  refine ⟨fun z => body 2 (by omega) z, fun z1 => ⟨fun z => body 3 (by omega) z, fun z2 => ⟨fun z => body 5 (by omega) z, fun z3 => ?_⟩⟩⟩
  refine h0 (fun q m hq hv => ?_) mi h
  rcases hq with rfl | rfl | rfl
  · exact absurd hv z1
  · exact absurd hv z2
  · exact absurd hv z3
end FC1
