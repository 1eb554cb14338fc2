/-! class State -/
/-- (q, m, texts, done, all, modules, maps, kinds) -/
abbrev Ast : Type := Nat × Nat × Nat × Nat × Nat × (Nat → Nat → Nat) × (Nat → Nat → Nat) × (Nat → Nat)
abbrev aq (A : Ast) : Nat := A.1
abbrev am (A : Ast) : Nat := A.2.1
abbrev atx (A : Ast) : Nat := A.2.2.1
abbrev adn (A : Ast) : Nat := A.2.2.2.1
abbrev aal (A : Ast) : Nat := A.2.2.2.2.1
abbrev amd (A : Ast) : Nat → Nat → Nat := A.2.2.2.2.2.1
abbrev amp (A : Ast) : Nat → Nat → Nat := A.2.2.2.2.2.2.1
abbrev aks (A : Ast) : Nat → Nat := A.2.2.2.2.2.2.2
/-- how many of the first i steps are of sort b -/
def kc (ks : Nat → Nat) (b : Nat) : Nat → Nat
  | 0 => 0
  | i + 1 => kc ks b i + if ks i = b then 1 else 0
theorem kc_up {ks : Nat → Nat} {b j v : Nat} : ∀ {i : Nat}, i ≤ j → kc (up1 ks j v) b i = kc ks b i
  | 0, _ => rfl
  | i + 1, h => by
    unfold kc
    rw [kc_up (by omega)]
    have e : up1 ks j v i = ks i := if_neg (by omega)
    rw [e]
theorem kc_le {ks : Nat → Nat} {b i : Nat} : ∀ {j : Nat}, i ≤ j → kc ks b i ≤ kc ks b j
  | 0, h => by
    have : i = 0 := by omega
    rw [this]
    exact Nat.le_refl _
  | j + 1, h => by
    by_cases c : i = j + 1
    · rw [c]
      exact Nat.le_refl _
    · have := kc_le (ks := ks) (b := b) (i := i) (j := j) (by omega)
      show _ ≤ kc ks b j + (if ks j = b then 1 else 0)
      omega
theorem kc_sum {ks : Nat → Nat} (h : ∀ i, ks i ≤ 1) : ∀ i, kc ks 0 i + kc ks 1 i = i
  | 0 => rfl
  | i + 1 => by
    have h1 := h i
    have h2 := kc_sum h i
    unfold kc
    rcases (show ks i = 0 ∨ ks i = 1 by omega) with c | c
    · rw [c, if_pos rfl, if_neg (by omega)]
      omega
    · rw [c, if_neg (by omega), if_pos rfl]
      omega
def upR (f : Nat → Nat → Nat) (j : Nat) (r : Nat → Nat) : Nat → Nat → Nat := fun i => if i = j then r else f i
/-- the State at B stands for A -/
def SM (B : Nat) (A : Ast) (mi : Nat → Nat → Int32) : Prop := mi B 0 = nI (aq A) ∧ mi B 1 = nI (am A) ∧ mi B 2 = nI (atx A) ∧ mi B 3 = nI (adn A) ∧ mi B 4 = nI (aal A) ∧
  (∀ i, i < 10 → Rw 128 mi (B + 2 + i) (amd A i) ∧ Rw 128 mi (B + 13 + i) (amp A i)) ∧ mi (B + 23) 0 = nI (kc (aks A) 0 (adn A)) ∧ mi (B + 23) 1 = nI (kc (aks A) 1 (adn A)) ∧ ∀ i, i < 20 → mi (B + 24) i = nI (aks A i)
/-- what holds of the numbers -/
def SI (A : Ast) (d n : Nat) : Prop := Pw (aq A) (am A) d n ∧ atx A ≤ 4 ∧ adn A ≤ aal A ∧ aal A ≤ 20 ∧ kc (aks A) 0 (aal A) ≤ 10 ∧ kc (aks A) 1 (aal A) ≤ 10 ∧ (∀ i, aks A i ≤ 1) ∧
  (∀ i, i < kc (aks A) 0 (aal A) → (∀ k, amd A i k < n) ∧ 2 ≤ rl (amd A i) 4) ∧ ∀ i, i < kc (aks A) 1 (aal A) → (∀ k, amp A i k < n) ∧ 1 ≤ rl (amp A i) 8
theorem SM.off {B : Nat} {A : Ast} {mi mi1 : Nat → Nat → Int32} (h : SM B A mi) (ho : ∀ o, B ≤ o → o ≤ B + 24 → mi1 o = mi o) : SM B A mi1 := by
  obtain ⟨h0, h1, h2, h3, h4, h5, h6, h7, h8⟩ := h
  rw [← ho B (by omega) (by omega)] at h0 h1 h2 h3 h4
  rw [← ho (B + 23) (by omega) (by omega)] at h6 h7
  refine ⟨h0, h1, h2, h3, h4, fun i hi => ⟨(h5 i hi).1.off (ho _ (by omega) (by omega)), (h5 i hi).2.off (ho _ (by omega) (by omega))⟩, h6, h7, fun i hi => ?_⟩
  rw [ho (B + 24) (by omega) (by omega)]
  exact h8 i hi
def stB : Bool := (List.range 10).all (fun i => Nat.beq (ak (98 + i)) 11 && Nat.beq (an (98 + i)) 4 && Nat.beq (ak (109 + i)) 11 && Nat.beq (an (109 + i)) 8 && Nat.beq (ak (123 + i)) 11 && Nat.beq (an (123 + i)) 4 && Nat.beq (ak (134 + i)) 11 && Nat.beq (an (134 + i)) 8) &&
  (Nat.beq (ak 119) 11 && Nat.beq (an 119) 2 && Nat.beq (ak 120) 11 && Nat.beq (an 120) 20 && Nat.beq (ak 144) 11 && Nat.beq (an 144) 2 && Nat.beq (ak 145) 11 && Nat.beq (an 145) 20)
theorem stB_ok : stB = true := by decide +kernel
theorem st_rows {i : Nat} (hi : i < 10) : (isR (98 + i) ∧ an (98 + i) = 4) ∧ (isR (109 + i) ∧ an (109 + i) = 8) ∧ (isR (123 + i) ∧ an (123 + i) = 4) ∧ isR (134 + i) ∧ an (134 + i) = 8 := by
  have h := stB_ok
  unfold stB at h
  rw [Bool.and_eq_true] at h
  have h1 := List.all_eq_true.mp h.1 i (List.mem_range.mpr hi)
  simp only [Bool.and_eq_true, nbq] at h1
  obtain ⟨⟨⟨⟨⟨⟨⟨a1, a2⟩, a3⟩, a4⟩, a5⟩, a6⟩, a7⟩, a8⟩ := h1
  exact ⟨⟨⟨⟨a1, by omega⟩, by rw [a2]; omega⟩, a2⟩, ⟨⟨⟨a3, by omega⟩, by rw [a4]; omega⟩, a4⟩, ⟨⟨⟨a5, by omega⟩, by rw [a6]; omega⟩, a6⟩, ⟨⟨a7, by omega⟩, by rw [a8]; omega⟩, a8⟩
theorem st_cnt : (isR 119 ∧ an 119 = 2) ∧ (isR 120 ∧ an 120 = 20) ∧ (isR 144 ∧ an 144 = 2) ∧ isR 145 ∧ an 145 = 20 := by
  have h := stB_ok
  unfold stB at h
  rw [Bool.and_eq_true] at h
  have h1 := h.2
  simp only [Bool.and_eq_true, nbq] at h1
  obtain ⟨⟨⟨⟨⟨⟨⟨a1, a2⟩, a3⟩, a4⟩, a5⟩, a6⟩, a7⟩, a8⟩ := h1
  exact ⟨⟨⟨⟨a1, by omega⟩, by rw [a2]; omega⟩, a2⟩, ⟨⟨⟨a3, by omega⟩, by rw [a4]; omega⟩, a4⟩, ⟨⟨⟨a5, by omega⟩, by rw [a6]; omega⟩, a6⟩, ⟨⟨a7, by omega⟩, by rw [a8]; omega⟩, a8⟩
theorem s_ltpd {n b : Nat} (hn : n < 2 ^ 31) (hb : b < 2 ^ 31) : (nI b < pd n) = (b + 1 < n) := by
  rw [Int32.lt_iff_toInt_lt, pd_toInt hn, nI_toInt hb]
  exact propext ⟨fun h => by omega, fun h => by omega⟩
def redoA (A : Ast) : Ast := (aq A, am A, atx A, adn A + 1, aal A, amd A, amp A, aks A)
def undoA (A : Ast) : Ast := (aq A, am A, atx A, adn A - 1, aal A, amd A, amp A, aks A)
def startA (A : Ast) (q m : Nat) : Ast := (q, m, atx A, 0, 0, amd A, amp A, aks A)
def textA (A : Ast) : Ast := (aq A, am A, atx A + 1, adn A, aal A, amd A, amp A, aks A)
def tell0A (A : Ast) (f : Nat → Nat) : Ast := (aq A, am A, atx A, adn A + 1, adn A + 1, upR (amd A) (kc (aks A) 0 (adn A)) f, amp A, up1 (aks A) (adn A) 0)
def tell1A (A : Ast) (f : Nat → Nat) : Ast := (aq A, am A, atx A, adn A + 1, adn A + 1, amd A, upR (amp A) (kc (aks A) 1 (adn A)) f, up1 (aks A) (adn A) 1)
section STA
variable {G : GC} {e : Nat} {mi : Nat → Nat → Int32} {ml : Nat → Nat → Int64} {y : Nat → Nat → Option Nat} {A : Ast}
theorem p_smany0 (h : SM 96 A mi) {K : Int32 → (Nat → Nat → Int32) → (Nat → Nat → Int64) → Prop} (hK : K (nI (kc (aks A) 0 (adn A))) mi ml) : wpI G e 154 m_X6_many [.ref 96, .int (nI 0)] (mi, ml, RX y) K := by
  apply e_X6_many
  simp (disch := omega) only [s_le, s_lt, s_eq, s_eq0, s_in, s_ix, s_rm, s_div, s_pdlt, s_pdle, s_lepd, s_pdpd, s_pdlepd, s_pdadd, nI_add, pk_mul, pd_succ, Nat.not_lt_zero, Nat.zero_lt_succ, not_false_eq_true, not_true_eq_false, false_implies, true_implies, implies_true, and_true, true_and, Nat.reduceLT, Nat.reduceLeDiff, Nat.reduceAdd, Nat.reduceSub, Nat.zero_add, Nat.add_zero, Nat.zero_ne_one]
  rw [show mi 119 0 = _ from h.2.2.2.2.2.2.1]
  exact hK
theorem p_smany1 (h : SM 96 A mi) {K : Int32 → (Nat → Nat → Int32) → (Nat → Nat → Int64) → Prop} (hK : K (nI (kc (aks A) 1 (adn A))) mi ml) : wpI G e 154 m_X6_many [.ref 96, .int (nI 1)] (mi, ml, RX y) K := by
  apply e_X6_many
  simp (disch := omega) only [s_le, s_lt, s_eq, s_eq0, s_in, s_ix, s_rm, s_div, s_pdlt, s_pdle, s_lepd, s_pdpd, s_pdlepd, s_pdadd, nI_add, pk_mul, pd_succ, Nat.not_lt_zero, Nat.zero_lt_succ, not_false_eq_true, not_true_eq_false, false_implies, true_implies, implies_true, and_true, true_and, Nat.reduceLT, Nat.reduceLeDiff, Nat.reduceAdd, Nat.reduceSub, Nat.zero_add, Nat.add_zero]
  rw [show mi 119 1 = _ from h.2.2.2.2.2.2.2.1]
  exact hK
theorem p_shas0 (h : SM 96 A mi) (h10 : kc (aks A) 0 (adn A) ≤ 10) {v : Int32} {K : Int32 → (Nat → Nat → Int32) → (Nat → Nat → Int64) → Prop}
    (h1 : ∀ i, i < kc (aks A) 0 (adn A) → v = nI i → K (nI 1) mi ml) (h0 : (∀ i, i < kc (aks A) 0 (adn A) → ¬ v = nI i) → K (nI 0) mi ml) : wpI G e 154 m_X6_has [.ref 96, .int (nI 0), .int v] (mi, ml, RX y) K := by
  apply e_X6_has
  refine ⟨fun c => ⟨Or.inl rfl, h0 (fun i hi hv => ?_)⟩, fun c => ?_⟩
  · subst hv
    simp (disch := omega) only [s_le, s_lt, s_eq, s_eq0, s_in, s_ix, s_rm, s_div, s_pdlt, s_pdle, s_lepd, s_pdpd, s_pdlepd, s_pdadd, nI_add, pk_mul, pd_succ, Nat.not_lt_zero, Nat.zero_lt_succ, not_false_eq_true, not_true_eq_false, false_implies, true_implies, implies_true, and_true, true_and, Nat.reduceLT, Nat.reduceLeDiff, Nat.reduceAdd, Nat.reduceSub, Nat.zero_add, Nat.add_zero] at c
  · obtain ⟨i, hi, rfl⟩ := nI_of (by rw [nI_0] at c; exact c)
    refine p_smany0 h ?_
    simp (disch := omega) only [s_le, s_lt, s_eq, s_eq0, s_in, s_ix, s_rm, s_div, s_pdlt, s_pdle, s_lepd, s_pdpd, s_pdlepd, s_pdadd, nI_add, pk_mul, pd_succ, Nat.not_lt_zero, Nat.zero_lt_succ, not_false_eq_true, not_true_eq_false, false_implies, true_implies, implies_true, and_true, true_and, Nat.reduceLT, Nat.reduceLeDiff, Nat.reduceAdd, Nat.reduceSub, Nat.zero_add, Nat.add_zero]
    refine ⟨fun c1 => ⟨Or.inl rfl, h0 (fun j hj hv => ?_)⟩, fun c1 => ⟨fun c2 => absurd (show 10 ≤ i by omega) (by omega), fun _ => ⟨Or.inr rfl, h1 i (by omega) rfl⟩⟩⟩
    simp (disch := omega) only [s_le, s_lt, s_eq, s_eq0, s_in, s_ix, s_rm, s_div, s_pdlt, s_pdle, s_lepd, s_pdpd, s_pdlepd, s_pdadd, nI_add, pk_mul, pd_succ, Nat.not_lt_zero, Nat.zero_lt_succ, not_false_eq_true, not_true_eq_false, false_implies, true_implies, implies_true, and_true, true_and, Nat.reduceLT, Nat.reduceLeDiff, Nat.reduceAdd, Nat.reduceSub, Nat.zero_add, Nat.add_zero] at hv
    omega
theorem p_shas1 (h : SM 96 A mi) (h10 : kc (aks A) 1 (adn A) ≤ 10) {v : Int32} {K : Int32 → (Nat → Nat → Int32) → (Nat → Nat → Int64) → Prop}
    (h1 : ∀ i, i < kc (aks A) 1 (adn A) → v = nI i → K (nI 1) mi ml) (h0 : (∀ i, i < kc (aks A) 1 (adn A) → ¬ v = nI i) → K (nI 0) mi ml) : wpI G e 154 m_X6_has [.ref 96, .int (nI 1), .int v] (mi, ml, RX y) K := by
  apply e_X6_has
  refine ⟨fun c => ⟨Or.inl rfl, h0 (fun i hi hv => ?_)⟩, fun c => ?_⟩
  · subst hv
    simp (disch := omega) only [s_le, s_lt, s_eq, s_eq0, s_in, s_ix, s_rm, s_div, s_pdlt, s_pdle, s_lepd, s_pdpd, s_pdlepd, s_pdadd, nI_add, pk_mul, pd_succ, Nat.not_lt_zero, Nat.zero_lt_succ, not_false_eq_true, not_true_eq_false, false_implies, true_implies, implies_true, and_true, true_and, Nat.reduceLT, Nat.reduceLeDiff, Nat.reduceAdd, Nat.reduceSub, Nat.zero_add, Nat.add_zero] at c
  · obtain ⟨i, hi, rfl⟩ := nI_of (by rw [nI_0] at c; exact c)
    refine p_smany1 h ?_
    simp (disch := omega) only [s_le, s_lt, s_eq, s_eq0, s_in, s_ix, s_rm, s_div, s_pdlt, s_pdle, s_lepd, s_pdpd, s_pdlepd, s_pdadd, nI_add, pk_mul, pd_succ, Nat.not_lt_zero, Nat.zero_lt_succ, not_false_eq_true, not_true_eq_false, false_implies, true_implies, implies_true, and_true, true_and, Nat.reduceLT, Nat.reduceLeDiff, Nat.reduceAdd, Nat.reduceSub, Nat.zero_add, Nat.add_zero]
    refine ⟨fun c1 => ⟨Or.inl rfl, h0 (fun j hj hv => ?_)⟩, fun c1 => ⟨fun c2 => absurd (show 10 ≤ i by omega) (by omega), fun _ => ⟨Or.inr rfl, h1 i (by omega) rfl⟩⟩⟩
    simp (disch := omega) only [s_le, s_lt, s_eq, s_eq0, s_in, s_ix, s_rm, s_div, s_pdlt, s_pdle, s_lepd, s_pdpd, s_pdlepd, s_pdadd, nI_add, pk_mul, pd_succ, Nat.not_lt_zero, Nat.zero_lt_succ, not_false_eq_true, not_true_eq_false, false_implies, true_implies, implies_true, and_true, true_and, Nat.reduceLT, Nat.reduceLeDiff, Nat.reduceAdd, Nat.reduceSub, Nat.zero_add, Nat.add_zero] at hv
    omega
theorem p_sget0 {i : Nat} (hi : i < 10) {K : Nat → (Nat → Nat → Int32) → (Nat → Nat → Int64) → Prop} (hK : K (98 + i) mi ml) : wpR G e 154 m_X6_get [.ref 96, .int (nI 0), .int (nI i)] (mi, ml, RX y) K := by
  apply e_X6_get
  simp (disch := omega) only [s_le, s_lt, s_eq, s_eq0, s_in, s_ix, s_rm, s_div, s_pdlt, s_pdle, s_lepd, s_pdpd, s_pdlepd, s_pdadd, nI_add, pk_mul, pd_succ, Nat.not_lt_zero, Nat.zero_lt_succ, not_false_eq_true, not_true_eq_false, false_implies, true_implies, implies_true, and_true, true_and, Nat.reduceLT, Nat.reduceLeDiff, Nat.reduceAdd, Nat.reduceSub, Nat.zero_add, Nat.add_zero, Nat.zero_ne_one]
  exact ⟨fun _ => ⟨by omega, hK⟩, fun c => absurd (show i < 10 by omega) c⟩
theorem p_sget1 {i : Nat} (hi : i < 10) {K : Nat → (Nat → Nat → Int32) → (Nat → Nat → Int64) → Prop} (hK : K (109 + i) mi ml) : wpR G e 154 m_X6_get [.ref 96, .int (nI 1), .int (nI i)] (mi, ml, RX y) K := by
  apply e_X6_get
  simp (disch := omega) only [s_le, s_lt, s_eq, s_eq0, s_in, s_ix, s_rm, s_div, s_pdlt, s_pdle, s_lepd, s_pdpd, s_pdlepd, s_pdadd, nI_add, pk_mul, pd_succ, Nat.not_lt_zero, Nat.zero_lt_succ, not_false_eq_true, not_true_eq_false, false_implies, true_implies, implies_true, and_true, true_and, Nat.reduceLT, Nat.reduceLeDiff, Nat.reduceAdd, Nat.reduceSub, Nat.zero_add, Nat.add_zero]
  exact ⟨fun _ => ⟨by omega, hK⟩, fun c => absurd (show i < 10 by omega) c⟩
theorem p_undoLatest (h : SM 96 A mi) (h20 : adn A ≤ 20) (hks : ∀ i, aks A i ≤ 1) {K : Int32 → (Nat → Nat → Int32) → (Nat → Nat → Int64) → Prop} (hK0 : adn A = 0 → K (-(nI 1)) mi ml)
    (hK1 : 0 < adn A → ∀ mi1 : Nat → Nat → Int32, (∀ o, o ≠ 96 → o ≠ 119 → mi1 o = mi o) → SM 96 (undoA A) mi1 → K (nI (adn A - 1)) mi1 ml) : wpI G e 154 m_X6_undoLatest [.ref 96] (mi, ml, RX y) K := by
  obtain ⟨s0, s1, s2, s3, s4, s5, s6, s7, s8⟩ := id h
  apply e_X6_undoLatest
  rw [s3]
  rcases Nat.eq_zero_or_pos (adn A) with z | z
  · rw [z]
    simp (disch := omega) only [s_le, s_lt, s_eq, s_eq0, s_in, s_ix, s_rm, s_div, s_pdlt, s_pdle, s_lepd, s_pdpd, s_pdlepd, s_pdadd, nI_add, pk_mul, pd_succ, Nat.not_lt_zero, Nat.zero_lt_succ, not_false_eq_true, not_true_eq_false, false_implies, true_implies, implies_true, and_true, true_and, Nat.reduceLT, Nat.reduceLeDiff, Nat.reduceAdd, Nat.reduceSub, Nat.zero_add, Nat.add_zero]
    exact hK0 z
  · obtain ⟨j, hj⟩ : ∃ j, adn A = j + 1 := ⟨adn A - 1, by omega⟩
    have hks2 := hks j
    have e3 : u2 mi 96 3 (nI j) 96 3 = nI j := by rw [u2_on]; rfl
    have ho : ∀ o, o ≠ 96 → u2 mi 96 3 (nI j) o = mi o := fun o h => u2_off h
    have fin : ∀ b, b < 2 → aks A j = b → (∀ b', b' < 2 → b' ≠ b → kc (aks A) b' (j + 1) = kc (aks A) b' j) ∧ kc (aks A) b (j + 1) = kc (aks A) b j + 1 := by
      intro b hb hA
      refine ⟨fun b' hb' hne => ?_, ?_⟩
      · show kc (aks A) b' j + (if aks A j = b' then 1 else 0) = _
        rw [if_neg (by omega)]
        rfl
      · show kc (aks A) b j + (if aks A j = b then 1 else 0) = _
        rw [if_pos hA]
    have fin2 : ∀ b, b < 2 → aks A j = b → ∀ mi1, mi1 = u2 (u2 mi 96 3 (nI j)) 119 b (nI (kc (aks A) b j)) → K (mi1 96 3) mi1 ml := by
      intro b hb hA mi1 hm
      obtain ⟨f1, f2⟩ := fin b hb hA
      have hk1 := hK1 z mi1 (fun o o1 o2 => by rw [hm, u2_off o2, ho o o1])
      rw [hj, Nat.add_sub_cancel] at hk1
      have e9 : mi1 96 3 = nI j := by rw [hm, u2_off (by omega)]; exact e3
      rw [e9]
      refine hk1 ?_
      have hu : (undoA A) = (aq A, am A, atx A, j, aal A, amd A, amp A, aks A) := by
        unfold undoA
        rw [hj, Nat.add_sub_cancel]
      rw [hu]
      have h96 : ∀ k, k ≠ 3 → mi1 96 k = mi 96 k := fun k hk => by
        rw [hm, u2_off (by omega), u2_on]
        show (if k = 3 then _ else _) = _
        rw [if_neg hk]
      refine ⟨by rw [h96 0 (by omega)]; exact s0, by rw [h96 1 (by omega)]; exact s1, by rw [h96 2 (by omega)]; exact s2, e9, by rw [h96 4 (by omega)]; exact s4, fun i hi => ⟨(s5 i hi).1.off (by rw [hm, u2_off (by omega), ho _ (by omega)]), (s5 i hi).2.off (by rw [hm, u2_off (by omega), ho _ (by omega)])⟩, ?_, ?_, fun i hi => ?_⟩
      · show mi1 119 0 = nI (kc (aks A) 0 j)
        rw [hm, u2_on, ho 119 (by omega)]
        show (if 0 = b then _ else _) = _
        by_cases c : 0 = b
        · rw [if_pos c, ← c]
        · rw [if_neg c, ← f1 0 (by omega) c, ← hj]
          exact s6
      · show mi1 119 1 = nI (kc (aks A) 1 j)
        rw [hm, u2_on, ho 119 (by omega)]
        show (if 1 = b then _ else _) = _
        by_cases c : 1 = b
        · rw [if_pos c, ← c]
        · rw [if_neg c, ← f1 1 (by omega) c, ← hj]
          exact s7
      · show mi1 120 i = nI (aks A i)
        rw [hm, u2_off (by omega), ho 120 (by omega)]
        exact s8 i hi
    rw [hj, s_sub (by omega), Nat.add_sub_cancel, e3, ho 120 (by omega), ho 119 (by omega)]
    have e8 : mi 120 j = nI (aks A j) := s8 j (by omega)
    have e6 : mi 119 0 = nI (kc (aks A) 0 (j + 1)) := by rw [← hj]; exact s6
    have e7 : mi 119 1 = nI (kc (aks A) 1 (j + 1)) := by rw [← hj]; exact s7
    simp (disch := omega) only [s_le, s_lt, s_eq, s_eq0, s_in, s_ix, s_rm, s_div, s_pdlt, s_pdle, s_lepd, s_pdpd, s_pdlepd, s_pdadd, nI_add, pk_mul, pd_succ, Nat.not_lt_zero, Nat.zero_lt_succ, not_false_eq_true, not_true_eq_false, false_implies, true_implies, implies_true, and_true, true_and, Nat.reduceLT, Nat.reduceLeDiff, Nat.reduceAdd, Nat.reduceSub, Nat.zero_add, Nat.add_zero, e8, e6, e7]
    refine ⟨fun _ => ⟨by omega, fun c => ?_, fun c => ?_⟩, fun c => absurd (show j ≤ 19 by omega) c⟩
    · obtain ⟨f1, f2⟩ := fin 0 (by omega) (by omega)
      rw [f2, s_sub (by omega), Nat.add_sub_cancel]
      exact fin2 0 (by omega) (by omega) _ rfl
    · obtain ⟨f1, f2⟩ := fin 1 (by omega) c
      rw [f2, s_sub (by omega), Nat.add_sub_cancel]
      exact fin2 1 (by omega) c _ rfl
theorem p_redoLatest (h : SM 96 A mi) (h20 : aal A ≤ 20) (hks : ∀ i, aks A i ≤ 1) {K : Int32 → (Nat → Nat → Int32) → (Nat → Nat → Int64) → Prop} (hK0 : aal A ≤ adn A → K (-(nI 1)) mi ml) (hdn : adn A ≤ 20)
    (hK1 : adn A < aal A → ∀ mi1 : Nat → Nat → Int32, (∀ o, o ≠ 96 → o ≠ 119 → mi1 o = mi o) → SM 96 (redoA A) mi1 → K (nI (adn A + 1)) mi1 ml) : wpI G e 154 m_X6_redoLatest [.ref 96] (mi, ml, RX y) K := by
  obtain ⟨s0, s1, s2, s3, s4, s5, s6, s7, s8⟩ := id h
  have hks2 := hks (adn A)
  apply e_X6_redoLatest
  rw [s3, s4]
  simp (disch := omega) only [s_le, s_lt, s_eq, s_eq0, s_in, s_ix, s_rm, s_div, s_pdlt, s_pdle, s_lepd, s_pdpd, s_pdlepd, s_pdadd, nI_add, pk_mul, pd_succ, Nat.not_lt_zero, Nat.zero_lt_succ, not_false_eq_true, not_true_eq_false, false_implies, true_implies, implies_true, and_true, true_and, Nat.reduceLT, Nat.reduceLeDiff, Nat.reduceAdd, Nat.reduceSub, Nat.zero_add, Nat.add_zero]
  refine ⟨hK0, fun c => ⟨fun _ => ⟨by omega, ?_⟩, fun c => absurd (show adn A < 20 by omega) c⟩⟩
  have e8 : mi 120 (adn A) = nI (aks A (adn A)) := s8 _ (by omega)
  have e6 : mi 119 0 = nI (kc (aks A) 0 (adn A)) := s6
  have e7 : mi 119 1 = nI (kc (aks A) 1 (adn A)) := s7
  have fin2 : ∀ b, b < 2 → aks A (adn A) = b → ∀ mi1, mi1 = u2 (u2 mi 119 b (nI (kc (aks A) b (adn A) + 1))) 96 3 (u2 mi 119 b (nI (kc (aks A) b (adn A) + 1)) 96 3 + nI 1) → K (mi1 96 3) mi1 ml := by
    intro b hb hA mi1 hm
    have e3 : u2 mi 119 b (nI (kc (aks A) b (adn A) + 1)) 96 3 = nI (adn A) := by rw [u2_off (by omega)]; exact s3
    rw [e3, nI_add] at hm
    have e9 : mi1 96 3 = nI (adn A + 1) := by rw [hm, u2_on]; rfl
    rw [e9]
    refine hK1 (by omega) mi1 (fun o o1 o2 => by rw [hm, u2_off o1, u2_off o2]) ?_
    have h96 : ∀ k, k ≠ 3 → mi1 96 k = mi 96 k := fun k hk => by
      rw [hm, u2_on]
      show (if k = 3 then _ else _) = _
      rw [if_neg hk, u2_off (by omega)]
    have hkc : ∀ b', kc (aks A) b' (adn A + 1) = kc (aks A) b' (adn A) + if b = b' then 1 else 0 := fun b' => by
      show kc (aks A) b' (adn A) + (if aks A (adn A) = b' then 1 else 0) = _
      rw [hA]
    refine ⟨by rw [h96 0 (by omega)]; exact s0, by rw [h96 1 (by omega)]; exact s1, by rw [h96 2 (by omega)]; exact s2, e9, by rw [h96 4 (by omega)]; exact s4, fun i hi => ⟨(s5 i hi).1.off (by rw [hm, u2_off (by omega), u2_off (by omega)]), (s5 i hi).2.off (by rw [hm, u2_off (by omega), u2_off (by omega)])⟩, ?_, ?_, fun i hi => ?_⟩
    · show mi1 119 0 = nI (kc (aks A) 0 (adn A + 1))
      rw [hkc, hm, u2_off (by omega), u2_on]
      show (if 0 = b then _ else _) = _
      by_cases c : 0 = b
      · rw [if_pos c, if_pos c.symm, ← c]
      · rw [if_neg c, if_neg (fun z => c z.symm)]
        exact s6
    · show mi1 119 1 = nI (kc (aks A) 1 (adn A + 1))
      rw [hkc, hm, u2_off (by omega), u2_on]
      show (if 1 = b then _ else _) = _
      by_cases c : 1 = b
      · rw [if_pos c, if_pos c.symm, ← c]
      · rw [if_neg c, if_neg (fun z => c z.symm)]
        exact s7
    · show mi1 120 i = nI (aks A i)
      rw [hm, u2_off (by omega), u2_off (by omega)]
      exact s8 i hi
  rw [e8, e6, e7]
  simp (disch := omega) only [s_le, s_lt, s_eq, s_eq0, s_in, s_ix, s_rm, s_div, s_pdlt, s_pdle, s_lepd, s_pdpd, s_pdlepd, s_pdadd, nI_add, pk_mul, pd_succ, Nat.not_lt_zero, Nat.zero_lt_succ, not_false_eq_true, not_true_eq_false, false_implies, true_implies, implies_true, and_true, true_and, Nat.reduceLT, Nat.reduceLeDiff, Nat.reduceAdd, Nat.reduceSub, Nat.zero_add, Nat.add_zero]
  refine ⟨fun c => ?_, fun c => ?_⟩
  · exact fin2 0 (by omega) (by omega) _ rfl
  · exact fin2 1 (by omega) c _ rfl
end STA
