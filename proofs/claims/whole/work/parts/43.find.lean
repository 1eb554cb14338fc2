/-! class Primes: find -/
/-- not nought, its first figure 1 -/
def Mn (q x : Nat) : Prop := ∃ k, ln q 13 x = k + 1 ∧ dg q x k = 1 ∧ x < q ^ 13
theorem Mn.pos {q x : Nat} (h2 : 2 ≤ q) (h : Mn q x) : 0 < x := by
  obtain ⟨k, h1, -, -⟩ := h
  rcases Nat.eq_zero_or_pos x with z | z
  · rw [z, ln_zero h2] at h1
    omega
  · exact z
theorem mon_Mn {q a : Nat} (hq : q = 2 ∨ q = 3 ∨ q = 5) (ha : a < q ^ 13) (h0 : 0 < a) : Mn q (mon q a) := by
  have h2 : 2 ≤ q := by omega
  obtain ⟨k, hk⟩ : ∃ k, ln q 13 a = k + 1 := ⟨ln q 13 a - 1, by have := ln_pos ha h0; omega⟩
  obtain ⟨-, m2, m3⟩ := mon_top hq ha hk
  exact ⟨k, m3, m2, mon_lt h2 a⟩
theorem gcn_Mn {q a b : Nat} (hq : q = 2 ∨ q = 3 ∨ q = 5) (ha : Mn q a) (hb : b < q ^ 13) : Mn q (gcn q a b) := by
  have h2 : 2 ≤ q := by omega
  have h0 := ha.pos h2
  obtain ⟨k, -, -, a3⟩ := ha
  obtain ⟨j, j1, j2, -, -⟩ := gcn_mon hq a3 hb (Or.inl (by omega))
  exact ⟨j, j1, j2, gcl_lt h2 26 _ _⟩
theorem quo_Mn {q a b : Nat} (hq : q = 2 ∨ q = 3 ∨ q = 5) (ha : Mn q a) (hb : Mn q b) (hl : ln q 13 b ≤ ln q 13 a) : Mn q (quo q a b) := by
  have h2 : 2 ≤ q := by omega
  have hb0 := hb.pos h2
  obtain ⟨k, k1, k2, k3⟩ := ha
  obtain ⟨j, j1, j2, j3⟩ := hb
  obtain ⟨-, x2, x3⟩ := quo_top hq k1 j1 k2 j2 (by omega)
  exact ⟨k - j, x3, x2, quo_lt h2 j3 hb0⟩
theorem rst_short {q a b : Nat} (h : ln q 13 a < ln q 13 b) : rst q a b = a := by
  unfold rst
  cases hn : ln q 13 a with
  | zero => rfl
  | succ n =>
    unfold rs
    rw [if_pos (by omega)]
theorem sbl_Mn {q b : Nat} (hq : q = 2 ∨ q = 3 ∨ q = 5) (hb : b < q ^ 13) : ∀ (n i L : Nat) (f : Nat → Nat), i + n ≤ L → (∀ j, j < L → Mn q (f j)) → ∀ j, j < (sbl q b n i L f).1 → Mn q ((sbl q b n i L f).2 j) := by
  intro n
  induction n with
  | zero =>
    intro i L f hi h
    exact h
  | succ n ih =>
    intro i L f hi h
    unfold sbl
    split
    · exact h
    split
    · exact ih (i + 1) L f (by omega) h
    · next c1 c2 =>
      have hg := gcn_Mn hq (h i (by omega)) hb
      refine ih (i + 1) (L + 1) _ (by omega) (fun j hj => ?_)
      show Mn q (if j = i then _ else (if j = L then _ else _))
      by_cases d1 : j = i
      · rw [if_pos d1]
        exact hg
      · rw [if_neg d1]
        by_cases d2 : j = L
        · rw [if_pos d2]
          exact quo_Mn hq (h i (by omega)) hg (by omega)
        · rw [if_neg d2]
          exact h j (by omega)
theorem spF_Mn {q tr : Nat} (hq : q = 2 ∨ q = 3 ∨ q = 5) : ∀ (n g L : Nat) (f : Nat → Nat), (∀ j, j < L → Mn q (f j)) → ∀ j, j < (spF q tr n g L f).1 → Mn q ((spF q tr n g L f).2 j) := by
  intro n
  induction n with
  | zero =>
    intro g L f h
    exact h
  | succ n ih =>
    intro g L f h
    unfold spF
    exact ih (g + 1) _ _ (sbl_Mn hq (cmb_lt _ (by omega) 13 _ _) L 0 L f (by omega) h)
theorem spO_Mn {q k m top : Nat} (hq : q = 2 ∨ q = 3 ∨ q = 5) : ∀ (n w L : Nat) (f : Nat → Nat), (∀ j, j < L → Mn q (f j)) → ∀ j, j < (spO q k m top n w L f).1 → Mn q ((spO q k m top n w L f).2 j) := by
  intro n
  induction n with
  | zero =>
    intro w L f h
    exact h
  | succ n ih =>
    intro w L f h
    unfold spO
    split
    · exact h
    · exact ih _ _ _ (spF_Mn hq q 0 L f h)
theorem tkf_Mn {q p : Nat} (hq : q = 2 ∨ q = 3 ∨ q = 5) (hp : Mn q p) : ∀ (n a L : Nat) (f : Nat → Nat), Mn q a → Mn q (tkf q p n a L f).1 := by
  have h2 : 2 ≤ q := by omega
  intro n
  induction n with
  | zero =>
    intro a L f h
    exact h
  | succ n ih =>
    intro a L f h
    unfold tkf
    split
    · next c =>
      have hl : ln q 13 p ≤ ln q 13 a := by
        rcases Nat.lt_or_ge (ln q 13 a) (ln q 13 p) with d | d
        · rw [rst_short d] at c
          have := h.pos h2
          omega
        · exact d
      have := quo_Mn hq h hp hl
      split
      · exact ih _ _ _ this
      · exact ih _ _ _ this
    · exact h
/-- all of split are taken out -/
def tka (q : Nat) (g : Nat → Nat) : Nat → Nat → Nat → Nat → (Nat → Nat) → Nat × Nat × (Nat → Nat)
  | 0, _, a, L, f => (a, L, f)
  | n + 1, i, a, L, f => tka q g n (i + 1) (tkf q (g i) 13 a L f).1 (tkf q (g i) 13 a L f).2.1 (tkf q (g i) 13 a L f).2.2
/-- what common splits into -/
def spU (q k m : Nat) : Nat × (Nat → Nat) := if ln q 13 m - 1 < k then (0, fun _ => m) else spO q k m (ln q 13 m - 1) (ln q 13 m - 1 - 1) 1 1 (fun _ => m)
def fdT (q left turn : Nat) : Nat := tby q (rst q turn left) left
def fdC (q left turn : Nat) : Nat := gcn q left (cmb q (q - 1) 13 (fdT q left turn) q)
def fdo (q : Nat) : Nat → Nat → Nat → Nat → Nat → (Nat → Nat) → Nat × Nat × (Nat → Nat)
  | 0, _, a, _, L, f => (a, L, f)
  | n + 1, k, a, t, L, f => if ln q 13 a < 2 * k + 1 then (a, L, f) else
      fdo q n (k + 1) (tka q (spU q k (fdC q a t)).2 (spU q k (fdC q a t)).1 0 a L f).1 (fdT q a t)
        (tka q (spU q k (fdC q a t)).2 (spU q k (fdC q a t)).1 0 a L f).2.1 (tka q (spU q k (fdC q a t)).2 (spU q k (fdC q a t)).1 0 a L f).2.2
def fdE (q : Nat) (r : Nat × Nat × (Nat → Nat)) : Nat × (Nat → Nat) := if ln q 13 r.1 ≤ 1 then (r.2.1, r.2.2) else if r.2.1 < 13 then (r.2.1 + 1, up1 r.2.2 r.2.1 r.1) else (r.2.1, r.2.2)
/-- the primes of a, as found, and sorted -/
def fnu (q a : Nat) : Nat × (Nat → Nat) := fdE q (fdo q 6 1 (mon q a) q 0 (fun _ => 0))
def fnd (q a : Nat) : Nat × (Nat → Nat) := ((fnu q a).1, srO ((fnu q a).1 - 1) 1 (fnu q a).2)
section FND
variable {G : GC} {e q : Nat} {mi : Nat → Nat → Int32} {ml : Nat → Nat → Int64} {y : Nat → Nat → Option Nat}
theorem spU_Mn {k m : Nat} (hq : q = 2 ∨ q = 3 ∨ q = 5) (hm : Mn q m) : ∀ j, j < (spU q k m).1 → Mn q ((spU q k m).2 j) := by
  unfold spU
  split
  · intro j hj
    exact hm
  · exact spO_Mn hq _ _ _ _ (fun _ _ => hm)
theorem p_find_in {t k : Nat} (hk : k < 2 ^ 30) (mi0 : Nat → Nat → Int32) (h0 : Fg q mi0) {S : Nat} {g : Nat → Nat} (hg : ∀ j, j < S → Mn q (g j)) {K : (Nat → Nat → Int32) → (Nat → Nat → Int64) → Prop} : ∀ (n i a L : Nat) (mi : Nat → Nat → Int32) (f : Nat → Nat), i + n = S → Mn q a → PFd mi L f → PSd q mi S g → offP mi0 mi →
    (∀ mi1 : Nat → Nat → Int32, offP mi0 mi1 → Mn q (tka q g n i a L f).1 → PFd mi1 (tka q g n i a L f).2.1 (tka q g n i a L f).2.2 →
      wp G e tX m_X3_find 28 [(0, .ref 7), (2, .int (nI (tka q g n i a L f).1)), (3, .int (nI q)), (4, .int (nI t)), (5, .int (nI (k + 1)))] [] (mi1, ml, RX y) (QV K)) →
    wp G e tX m_X3_find 94 [(0, .ref 7), (2, .int (nI a)), (3, .int (nI q)), (4, .int (nI t)), (5, .int (nI k)), (7, .int (nI i))] [] (mi, ml, RX y) (QV K) := by
  have h2 := h0.two
  intro n
  induction n with
  | zero =>
    intro i a L mi f hi ha h hs ho hK
    have hS := hs.2.1
    apply b_X3_find_94
    rw [hs.1]
    simp (disch := omega) only [s_le, s_lt, s_eq, s_eq0, s_in, s_ix, s_rm, s_div, s_pdlt, s_pdle, s_lepd, s_pdpd, s_pdlepd, s_pdadd, nI_add, pk_mul, pd_succ, Nat.not_lt_zero, Nat.zero_lt_succ, not_false_eq_true, not_true_eq_false, false_implies, true_implies, implies_true, and_true, true_and, Nat.reduceLT, Nat.reduceLeDiff, Nat.reduceAdd, Nat.reduceSub, Nat.zero_add, Nat.add_zero]
    exact ⟨fun _ => hK mi ho ha h, fun c => absurd c (by omega)⟩
  | succ n ih =>
    intro i a L mi f hi ha h hs ho hK
    have hS := hs.2.1
    have hF : Fg q mi := h0.off (ho 1 (by omega) (by omega) (by omega)) (ho 2 (by omega) (by omega) (by omega))
    have hgi := hg i (by omega)
    have hgp := hgi.pos h2.1
    unfold tka at hK
    obtain ⟨s1, s2⟩ := hs.2.2 i (by omega)
    obtain ⟨ka, -, -, ha13⟩ := id ha
    apply b_X3_find_94
    rw [hs.1]
    simp (disch := omega) only [s_le, s_lt, s_eq, s_eq0, s_in, s_ix, s_rm, s_div, s_pdlt, s_pdle, s_lepd, s_pdpd, s_pdlepd, s_pdadd, nI_add, pk_mul, pd_succ, Nat.not_lt_zero, Nat.zero_lt_succ, not_false_eq_true, not_true_eq_false, false_implies, true_implies, implies_true, and_true, true_and, Nat.reduceLT, Nat.reduceLeDiff, Nat.reduceAdd, Nat.reduceSub, Nat.zero_add, Nat.add_zero]
    refine ⟨fun c => absurd c (by omega), fun _ => ⟨by omega, ?_⟩⟩
    rw [s1]
    refine p_takeOut hF s2 hgp ha13 h (fun mi1 ho1 h71 h1 => ?_)
    refine ih (i + 1) _ _ mi1 _ (by omega) (tkf_Mn h0.1 hgi 13 a L f ha) h1 ⟨?_, hs.2.1, fun j hj => ?_⟩ (fun o a7 a8 a9 => ?_) hK
    · rw [h71 4 (by omega)]
      exact hs.1
    · rw [ho1 9 (by omega) (by omega)]
      exact hs.2.2 j hj
    · rw [ho1 o a7 a8]
      exact ho o a7 a8 a9
theorem p_find_loop (mi0 : Nat → Nat → Int32) (h0 : Fg q mi0) {K : (Nat → Nat → Int32) → (Nat → Nat → Int64) → Prop} : ∀ (n k a t L : Nat) (mi : Nat → Nat → Int32) (f : Nat → Nat), n + k = 7 → 1 ≤ k → Mn q a → t < q ^ 13 → PFd mi L f → offP mi0 mi →
    (∀ mi1 : Nat → Nat → Int32, offP mi0 mi1 → PFd mi1 (fdE q (fdo q n k a t L f)).1 (srO ((fdE q (fdo q n k a t L f)).1 - 1) 1 (fdE q (fdo q n k a t L f)).2) → K mi1 ml) →
    wp G e tX m_X3_find 28 [(0, .ref 7), (2, .int (nI a)), (3, .int (nI q)), (4, .int (nI t)), (5, .int (nI k))] [] (mi, ml, RX y) (QV K) := by
  have h2 := h0.two
  have hp13 := h0.pow (Nat.le_refl 13)
  have hq13 : q ^ 1 < q ^ 13 := Nat.pow_lt_pow_right (by omega) (by omega)
  rw [Nat.pow_one] at hq13
  have fin : ∀ (a L : Nat) (mi : Nat → Nat → Int32) (f : Nat → Nat), Mn q a → PFd mi L f → offP mi0 mi → (∀ mi1 : Nat → Nat → Int32, offP mi0 mi1 → PFd mi1 (fdE q (a, L, f)).1 (srO ((fdE q (a, L, f)).1 - 1) 1 (fdE q (a, L, f)).2) → K mi1 ml) →
      (wpI G e 154 m_X1_degree [.ref 1, .int (nI a)] (mi, ml, (RX y)) (fun r6 mi4 ml5 => ((r6 ≤ (nI 0) → (wpV G e 154 m_X3_sort [.ref 7] (mi4, ml5, (RX y)) (fun mi7 ml8 => K mi7 ml8))) ∧ (¬ r6 ≤ (nI 0) → (wpV G e 154 m_X3_add [.ref 7, .int (nI a)] (mi4, ml5, (RX y)) (fun mi9 ml10 => (wpV G e 154 m_X3_sort [.ref 7] (mi9, ml10, (RX y)) (fun mi11 ml12 => K mi11 ml12)))))))) := by
    intro a L mi f ha h ho hK
    obtain ⟨ka, -, -, ha13⟩ := id ha
    have hF : Fg q mi := h0.off (ho 1 (by omega) (by omega) (by omega)) (ho 2 (by omega) (by omega) (by omega))
    have hla := ln_le q 13 a
    unfold fdE at hK
    refine p_degree hF ha13 ?_
    simp (disch := omega) only [s_le, s_lt, s_eq, s_eq0, s_in, s_ix, s_rm, s_div, s_pdlt, s_pdle, s_lepd, s_pdpd, s_pdlepd, s_pdadd, nI_add, pk_mul, pd_succ, Nat.not_lt_zero, Nat.zero_lt_succ, not_false_eq_true, not_true_eq_false, false_implies, true_implies, implies_true, and_true, true_and, Nat.reduceLT, Nat.reduceLeDiff, Nat.reduceAdd, Nat.reduceSub, Nat.zero_add, Nat.add_zero]
    refine ⟨fun c => ?_, fun c => ?_⟩
    · rw [if_pos (show ln q 13 (a, L, f).1 ≤ 1 by simpa using c)] at hK
      exact p_sort h (fun mi1 ho1 h1 => hK mi1 (fun o a7 a8 a9 => by rw [ho1 o a8]; exact ho o a7 a8 a9) h1)
    · rw [if_neg (show ¬ ln q 13 (a, L, f).1 ≤ 1 by simpa using c)] at hK
      refine p_add h (by omega) (fun c1 => ?_) (fun mi1 c1 ho1 h71 h1 => ?_)
      · rw [if_neg (show ¬ L < 13 by omega)] at hK
        exact p_sort h (fun mi1 ho1 h1 => hK mi1 (fun o a7 a8 a9 => by rw [ho1 o a8]; exact ho o a7 a8 a9) h1)
      · rw [if_pos (show L < 13 by omega)] at hK
        exact p_sort h1 (fun mi2 ho2 h3 => hK mi2 (fun o a7 a8 a9 => by rw [ho2 o a8, ho1 o a7 a8]; exact ho o a7 a8 a9) h3)
  intro n
  induction n with
  | zero =>
    intro k a t L mi f hn h1k ha ht h ho hK
    have hF : Fg q mi := h0.off (ho 1 (by omega) (by omega) (by omega)) (ho 2 (by omega) (by omega) (by omega))
    obtain ⟨ka, ka1, ka2, ha13⟩ := id ha
    have hla := ln_le q 13 a
    apply b_X3_find_28
    refine p_degree hF ha13 ?_
    simp (disch := omega) only [s_le, s_lt, s_eq, s_eq0, s_in, s_ix, s_rm, s_div, s_pdlt, s_pdle, s_lepd, s_pdpd, s_pdlepd, s_pdadd, nI_add, pk_mul, pd_succ, Nat.not_lt_zero, Nat.zero_lt_succ, not_false_eq_true, not_true_eq_false, false_implies, true_implies, implies_true, and_true, true_and, Nat.reduceLT, Nat.reduceLeDiff, Nat.reduceAdd, Nat.reduceSub, Nat.zero_add, Nat.add_zero]
    refine ⟨fun c => ?_, fun c => absurd (show ln q 13 a < 2 * k + 1 by omega) c⟩
    exact fin a L mi f ha h ho hK
  | succ n ih =>
    intro k a t L mi f hn h1k ha ht h ho hK
    have hF : Fg q mi := h0.off (ho 1 (by omega) (by omega) (by omega)) (ho 2 (by omega) (by omega) (by omega))
    obtain ⟨ka, ka1, ka2, ha13⟩ := id ha
    have hla := ln_le q 13 a
    have hap := ha.pos h2.1
    unfold fdo at hK
    apply b_X3_find_28
    refine p_degree hF ha13 ?_
    simp (disch := omega) only [s_le, s_lt, s_eq, s_eq0, s_in, s_ix, s_rm, s_div, s_pdlt, s_pdle, s_lepd, s_pdpd, s_pdlepd, s_pdadd, nI_add, pk_mul, pd_succ, Nat.not_lt_zero, Nat.zero_lt_succ, not_false_eq_true, not_true_eq_false, false_implies, true_implies, implies_true, and_true, true_and, Nat.reduceLT, Nat.reduceLeDiff, Nat.reduceAdd, Nat.reduceSub, Nat.zero_add, Nat.add_zero]
    refine ⟨fun c => ?_, fun c => ?_⟩
    · rw [if_pos c] at hK
      exact fin a L mi f ha h ho hK
    rw [if_neg c] at hK
    have hr := rst_small h0.1 ht ha13 hap
    rw [ka1, Nat.add_sub_cancel] at hr
    refine p_rest hF ht ha13 hap (p_turnedBy hF hr ka1 ha13 ka2 ?_)
    have ht2 : fdT q a t < q ^ ka := tby_lt h2.1 ka1 ha13 ka2 hr
    have ht3 : fdT q a t < q ^ 13 := Nat.lt_of_lt_of_le ht2 (Nat.pow_le_pow_right (by omega) (by omega))
    refine p_difference hF ht3 hq13 (p_common hF ha13 (cmb_lt _ h2.1 13 _ _) ?_)
    show wpV G e 154 m_X3_splitUp [.ref 7, .int (nI (fdC q a t)), .int (nI k)] (mi, ml, RX y) _
    have hC : Mn q (fdC q a t) := gcn_Mn h0.1 ha (cmb_lt _ h2.1 13 _ _)
    obtain ⟨kc, kc1, kc2, kc3⟩ := id hC
    have go : ∀ mi1 : Nat → Nat → Int32, off79 mi mi1 → PSd q mi1 (spU q k (fdC q a t)).1 (spU q k (fdC q a t)).2 →
        wp G e tX m_X3_find 94 [(0, .ref 7), (2, .int (nI a)), (3, .int (nI q)), (4, .int (nI (fdT q a t))), (5, .int (nI k)), (7, .int (nI 0))] [] (mi1, ml, RX y) (QV K) := by
      intro mi1 ho1 hs
      have ho2 : offP mi0 mi1 := fun o a7 a8 a9 => by rw [ho1.1 o a7 a9]; exact ho o a7 a8 a9
      refine p_find_in (by omega) mi0 h0 (spU_Mn h0.1 hC) _ 0 a L mi1 f (Nat.zero_add _) ha ⟨?_, h.2.1, fun j hj => ?_⟩ hs ho2 ?_
      · rw [ho1.2 3 (by omega)]
        exact h.1
      · rw [ho1.1 8 (by omega) (by omega)]
        exact h.2.2 j hj
      · intro mi2 ho3 ha3 h3
        exact ih (k + 1) _ _ _ mi2 _ (by omega) (by omega) ha3 ht3 h3 ho3 hK
    have hU0 : kc < k → spU q k (fdC q a t) = (0, fun _ => fdC q a t) := fun c1 => by
      unfold spU
      rw [kc1, Nat.add_sub_cancel, if_pos c1]
    have hU1 : k ≤ kc → spU q k (fdC q a t) = spO q k (fdC q a t) kc (kc - 1) 1 1 (fun _ => fdC q a t) := fun c1 => by
      unfold spU
      rw [kc1, Nat.add_sub_cancel, if_neg (by omega)]
    generalize fdC q a t = C at hC kc1 kc2 kc3 go hU0 hU1 ⊢
    refine p_splitUp hF h1k (by omega) kc3 kc1 kc2 (fun c1 mi1 ho1 hs => ?_) (fun c1 mi1 ho1 hs => ?_)
    · refine go mi1 ho1 ?_
      rw [hU0 c1]
      exact hs
    · refine go mi1 ho1 ?_
      rw [hU1 c1]
      exact hs
/-- finds the primes of a -/
theorem p_find (h0 : Fg q mi) {a : Nat} (ha : a < q ^ 13) (ha0 : 0 < a) {K : (Nat → Nat → Int32) → (Nat → Nat → Int64) → Prop}
    (hK : ∀ mi1 : Nat → Nat → Int32, offP mi mi1 → PFd mi1 (fnd q a).1 (fnd q a).2 → K mi1 ml) : wpV G e 154 m_X3_find [.ref 7, .int (nI a)] (mi, ml, RX y) K := by
  have h2 := h0.two
  have hq13 : q ^ 1 < q ^ 13 := Nat.pow_lt_pow_right (by omega) (by omega)
  rw [Nat.pow_one] at hq13
  have ho : ∀ o, o ≠ 7 → u2 mi 7 3 (nI 0) o = mi o := fun o h => u2_off h
  have hF : Fg q (u2 mi 7 3 (nI 0)) := h0.off (ho 1 (by omega)) (ho 2 (by omega))
  apply e_X3_find
  refine p_monic hF ha (p_base hF ?_)
  exact p_find_loop mi h0 6 1 (mon q a) q 0 _ (fun _ => 0) rfl (Nat.le_refl _) (mon_Mn h0.1 ha ha0) hq13 ⟨by rw [u2_on]; rfl, by omega, fun i hi => absurd hi (by omega)⟩ (fun o a7 _ _ => ho o a7) hK
end FND
