/-! what a polynomial makes: both ways; the reference: act, noughts -/
theorem itr_suc (f : Nat → Nat) : ∀ k a, itr f (k + 1) a = f (itr f k a)
  | 0, _ => rfl
  | k + 1, a => itr_suc f k (f a)
/-- figures of a, each by its t, together -/
def hs (q : Nat) (t : Nat → Nat) (a : Nat) : Nat → Nat
  | 0 => 0
  | k + 1 => cmb q (dg q a k) 13 (hs q t a k) (t k)
theorem hs_lt {q m d n : Nat} (w : Wd q m d n) {t : Nat → Nat} (ht : ∀ k, t k < n) (a : Nat) : ∀ k, hs q t a k < n
  | 0 => w.pos
  | k + 1 => cmb_ltn w (hs_lt w ht a k) (ht k)
theorem hs_more {q m d n : Nat} (w : Wd q m d n) {t : Nat → Nat} (ht : ∀ k, t k < n) {a k : Nat} (hz : ∀ j, k ≤ j → dg q a j = 0) : ∀ r, hs q t a (k + r) = hs q t a k
  | 0 => rfl
  | r + 1 => by
    show cmb q (dg q a (k + r)) 13 (hs q t a (k + r)) (t (k + r)) = _
    rw [hz _ (by omega), cmb_a w.q2 _ (w.lt13 (hs_lt w ht a _)), hs_more w ht hz r]
section MAC2
variable {q m d n : Nat}
theorem itr_lt {f : Nat → Nat} (hf : ∀ a, a < n → f a < n) : ∀ k a, a < n → itr f k a < n
  | 0, _, ha => ha
  | k + 1, _, ha => itr_lt hf k _ (hf _ ha)
theorem acl_hs (w : Wd q m d n) {g : Nat → Nat} {a x : Nat} (hx : x < n) : ∀ r j, a < q ^ (j + r) → acl q m d g r (a / q ^ j) (itr (vl q m d g) j x) (hs q (fun k => itr (vl q m d g) k x) a j) = hs q (fun k => itr (vl q m d g) k x) a (j + r)
  | 0, _, _ => rfl
  | r + 1, j, ha => by
    have h2 := w.q2
    have ht : ∀ k, itr (vl q m d g) k x < n := fun k => itr_lt (fun _ h => vl_lt w h) k x hx
    unfold acl
    by_cases c : a / q ^ j = 0
    · rw [if_pos c]
      have hlt : a < q ^ j := by
        rcases Nat.div_eq_zero_iff.mp c with z | z
        · have := Nat.pow_pos (n := j) (show 0 < q by omega)
          omega
        · exact z
      exact (hs_more w ht (fun k hk => dg_big hlt hk h2) _).symm
    · rw [if_neg c]
      have e1 : a / q ^ j / q = a / q ^ (j + 1) := by rw [Nat.div_div_eq_div_mul, Nat.pow_succ]
      rw [e1, ← itr_suc (vl q m d g)]
      have := acl_hs w (g := g) hx r (j + 1) (by rw [show j + 1 + r = j + (r + 1) by omega]; exact ha)
      rw [show j + (r + 1) = j + 1 + r by omega]
      exact this
theorem sndl_hs (w : Wd q m d n) {g : Nat → Nat} (hg : ∀ k, g k < n) {a x : Nat} (hx : x < n) : ∀ k s, s < n → sndl q m d g a x k s = cmb q 1 13 (itr (vl q m d g) k s) (hs q (fun k => itr (vl q m d g) k x) a k)
  | 0, s, hs1 => (cmb_0r w.q2 (w.lt13 hs1)).symm
  | k + 1, s, hs1 => by
    have h2 := w.q2
    show sndl q m d g a x k (cmb q (dg q a k) 13 (vl q m d g s) x) = _
    rw [sndl_hs w hg hx k _ (cmb_ltn w (vl_lt w hs1) hx), (itr_Ln (vl_Ln w hg) k).2 _ _ _ (vl_lt w hs1) hx, cmb_swap h2]
    show _ = cmb q 1 13 (itr (vl q m d g) k (vl q m d g s)) (cmb q (dg q a k) 13 (hs q _ a k) (itr (vl q m d g) k x))
    rw [cmb_in h2, Nat.one_mul]
theorem mac_snd (w : Wd q m d n) {g : Nat → Nat} (hg : ∀ k, g k < n) {a x : Nat} (ha : a < q ^ 13) (hx : x < n) : mac q m d g a x = snd q m d g a x := by
  have h2 := w.q2
  have ht : ∀ k, itr (vl q m d g) k x < n := fun k => itr_lt (fun _ h => vl_lt w h) k x hx
  have e1 := acl_hs w (g := g) hx (a := a) 13 0 (by rw [Nat.zero_add]; exact ha)
  rw [Nat.pow_zero, Nat.div_one] at e1
  unfold snd
  rw [sndl_hs w hg hx _ 0 w.pos, (itr_Ln (vl_Ln w hg) _).zero w, cmb_one h2 (w.lt13 (hs_lt w ht a _))]
  refine e1.trans ?_
  have hl := ln_le q 13 a
  have := hs_more w ht (a := a) (k := ln q 13 a) (fun j hj => dg_ge_ln h2 ha hj) (13 - ln q 13 a)
  rw [show ln q 13 a + (13 - ln q 13 a) = 0 + 13 by omega] at this
  exact this
end MAC2
section MNO
variable {G : GC} {e n q m d : Nat} {mi : Nat → Nat → Int32} {ml : Nat → Nat → Int64} {A : Ast} {K : Int32 → (Nat → Nat → Int32) → (Nat → Nat → Int64) → Prop}
theorem m_act {s : Cst} (hs : A = cN s) (hM : Mw q m d n mi) (hq : aq (cN s) = q) (hm : am (cN s) = m) (hd : dO (cN s) = d) (hnO : nO (cN s) = n) (h : Ma 155 A mi) (h10 : kc (aks A) 0 (adn A) ≤ 10) (hl : ∀ i, i < kc (aks A) 0 (adn A) → (∀ k, amd A i k < n) ∧ ∀ k, 4 ≤ k → amd A i k = 0) {v1 v2 v3 : Int32} (hK : K (fAct s v1 v2 v3) mi ml) : wpI G e 168 m_X10_act [.ref 154, .int v1, .int v2, .int v3] (mi, ml, RX RM) K := by
  subst hs
  have hn := hM.two
  unfold fAct at hK
  rw [hq, hm, hd, hnO] at hK
  apply e_X10_act
  refine m_isModule h h10 (fun i hi hv hlt => ⟨fun z => absurd z (by decide), fun _ => ?_⟩) (fun hno => ⟨fun _ => ?_, fun z => absurd rfl z⟩)
  · rw [hi] at hK
    subst hv
    refine m_isPoly hM.2.1.1 (fun a ha hv2 hla => ⟨fun z => absurd z (by decide), fun _ => ?_⟩) (fun hno => ⟨fun _ => ?_, fun z => absurd rfl z⟩)
    · rw [ha] at hK
      subst hv2
      refine m_isRest hM (fun x hx hlx => ⟨fun z => absurd z (by decide), fun _ => ?_⟩) (fun hno => ⟨fun _ => ?_, fun z => absurd rfl z⟩)
      · subst hx
        rw [asN_nI (by omega), if_pos hlx] at hK
        refine m_acted hM h (by omega) (hl i hlt).1 (hl i hlt).2 hla hlx ?_
        rw [mac_snd hM.1.1 (hl i hlt).1 hla hlx]
        exact hK
      · rw [asN_none hno] at hK
        exact hK
    · rw [hno] at hK
      exact hK
  · rw [hno] at hK
    exact hK
theorem m_nol {i a : Nat} {v : Int32} (hM : Mw q m d n mi) (h : Ma 155 A mi) (hi : i < 10) (hl : ∀ k, amd A i k < n) (hz : ∀ k, 4 ≤ k → amd A i k = 0) (ha : a < q ^ 13) : ∀ (r x k : Nat), x + r = n → k ≤ x → K (nol q m d (amd A i) a v r x k) mi ml → wp G e tM m_X10_noughts 29 [(0, .ref 154), (1, .int (nI i)), (2, .int (nI a)), (3, .int v), (4, .int (nI k)), (5, .int (nI x))] [] (mi, ml, RX RM) (QI K) := by
  have hn := hM.two
  have h4 : mi 154 4 = nI n := hM.2.1.2.2.2
  intro r
  induction r with
  | zero =>
    intro x k hx hk hK
    have : x = n := by omega
    subst this
    apply b_X10_noughts_29
    unfold nol at hK
    simp (disch := omega) only [s_le, s_lt, s_eq, s_eq0, s_in, s_ix, s_rm, s_div, s_pdlt, s_pdle, s_lepd, s_pdpd, s_pdlepd, s_pdadd, nI_add, pk_mul, pd_succ, Nat.not_lt_zero, Nat.zero_lt_succ, not_false_eq_true, not_true_eq_false, false_implies, true_implies, implies_true, and_true, true_and, Nat.reduceLT, Nat.reduceLeDiff, Nat.reduceAdd, Nat.reduceSub, Nat.zero_add, Nat.add_zero, h4, Nat.le_refl]
    refine ⟨fun z => ?_, fun z => ?_⟩
    · rw [if_neg z] at hK
      exact hK
    · rw [if_pos z] at hK
      exact hK
  | succ r ih =>
    intro x k hx hk hK
    apply b_X10_noughts_29
    unfold nol at hK
    have hxn : x < n := by omega
    simp (disch := omega) only [s_le, s_lt, s_eq, s_eq0, s_in, s_ix, s_rm, s_div, s_pdlt, s_pdle, s_lepd, s_pdpd, s_pdlepd, s_pdadd, nI_add, pk_mul, pd_succ, Nat.not_lt_zero, Nat.zero_lt_succ, not_false_eq_true, not_true_eq_false, false_implies, true_implies, implies_true, and_true, true_and, Nat.reduceLT, Nat.reduceLeDiff, Nat.reduceAdd, Nat.reduceSub, Nat.zero_add, Nat.add_zero, h4]
    refine ⟨fun z => absurd z (by omega), fun _ => ?_⟩
    refine m_acted hM h hi hl hz ha hxn ?_
    rw [mac_snd hM.1.1 hl ha hxn]
    have hsl := snd_lt hM.1.1 (f := amd A i) (a := a) hxn
    simp (disch := omega) only [s_le, s_lt, s_eq, s_eq0, s_in, s_ix, s_rm, s_div, s_pdlt, s_pdle, s_lepd, s_pdpd, s_pdlepd, s_pdadd, nI_add, pk_mul, pd_succ, Nat.not_lt_zero, Nat.zero_lt_succ, not_false_eq_true, not_true_eq_false, false_implies, true_implies, implies_true, and_true, true_and, Nat.reduceLT, Nat.reduceLeDiff, Nat.reduceAdd, Nat.reduceSub, Nat.zero_add, Nat.add_zero]
    refine ⟨fun c => ?_, fun c => ?_⟩
    · rw [if_pos c] at hK
      refine ⟨fun c2 => ?_, fun c2 => ?_⟩
      · rw [if_neg c2] at hK
        exact ih (x + 1) (k + 1) (by omega) (by omega) hK
      · rw [if_pos c2] at hK
        exact hK
    · rw [if_neg c] at hK
      exact ih (x + 1) k (by omega) (by omega) hK
theorem m_noughts {s : Cst} (hs : A = cN s) (hM : Mw q m d n mi) (hq : aq (cN s) = q) (hm : am (cN s) = m) (hd : dO (cN s) = d) (hnO : nO (cN s) = n) (h : Ma 155 A mi) (h10 : kc (aks A) 0 (adn A) ≤ 10) (hl : ∀ i, i < kc (aks A) 0 (adn A) → (∀ k, amd A i k < n) ∧ ∀ k, 4 ≤ k → amd A i k = 0) {v1 v2 v3 : Int32} (hK : K (fNoughts s v1 v2 v3) mi ml) : wpI G e 168 m_X10_noughts [.ref 154, .int v1, .int v2, .int v3] (mi, ml, RX RM) K := by
  subst hs
  have hn := hM.two
  unfold fNoughts at hK
  rw [hq, hm, hd, hnO] at hK
  apply e_X10_noughts
  refine m_isModule h h10 (fun i hi hv hlt => ⟨fun z => absurd z (by decide), fun _ => ?_⟩) (fun hno => ⟨fun _ => ?_, fun z => absurd rfl z⟩)
  · subst hv
    refine m_isPoly hM.2.1.1 (fun a ha hv2 hla => ⟨fun z => absurd z (by decide), fun _ => ?_⟩) (fun hno => ⟨fun _ => ?_, fun z => absurd rfl z⟩)
    · subst hv2
      refine ⟨fun c => ?_, fun c => ?_⟩
      · rw [if_neg (fun z => z c), hi, ha] at hK
        exact m_nol hM h (by omega) (hl i hlt).1 (hl i hlt).2 hla n 0 0 (by omega) (Nat.le_refl _) hK
      · rw [if_pos c] at hK
        exact hK
    · by_cases c : ¬ NONE ≤ v3
      · rw [if_pos c] at hK; exact hK
      · rw [if_neg c, hi, hno] at hK; exact hK
  · by_cases c : ¬ NONE ≤ v3
    · rw [if_pos c] at hK; exact hK
    · rw [if_neg c, hno] at hK; exact hK
end MNO
