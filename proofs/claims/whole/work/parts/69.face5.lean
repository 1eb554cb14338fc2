/-! the class's face: dual, text, told -/
variable {mo : Nat → Nat → Int32}
theorem dnl_lt {q m d n : Nat} (h2 : 2 ≤ q) {u g : Nat → Nat} : ∀ (r k : Nat) (f : Nat → Nat) (S : TSf) (a : Nat), r + k ≤ 13 → dnl q m d n u g r k f S = some a → a < q ^ 13
  | 0, _, _, _, _, _, h => by cases h
  | r + 1, k, f, S, a, hr, h => by
    unfold dnl at h
    split at h
    · have e1 := Option.some.inj h
      rw [← e1]
      exact ta_tag h2 49 _ _ (Nat.pow_lt_pow_right (by omega) (by omega))
    split at h
    · cases h
    · exact dnl_lt h2 r (k + 1) _ _ a (by omega) h
def fDual (s : Cst) (v1 v2 v3 : Int32) : Int32 := match asN (kc (aks (cN s)) 1 (adn (cN s))) v1, asN (kc (aks (cN s)) 0 (adn (cN s))) v2 with
  | some i, some j => if rl (lds (aq (cN s)) (am (cN s)) (dO (cN s)) (nO (cN s)) (amp (cN s) i) (amd (cN s) j)).1 25 = 0 then (match dnu (aq (cN s)) (am (cN s)) (dO (cN s)) (nO (cN s)) (amp (cN s) i) (amd (cN s) j) with
      | none => NONE
      | some a => if v3 = NONE then nI a else match asN 25 v3 with
        | none => NONE
        | some k => if (trn (aq (cN s)) (am (cN s)) (dO (cN s)) (amd (cN s) j) a).1 = true then nI ((dvd (aq (cN s)) (am (cN s)) (dO (cN s)) (nO (cN s)) 25 (trn (aq (cN s)) (am (cN s)) (dO (cN s)) (amd (cN s) j) a).2 (amp (cN s) i)).2 k) else NONE)
    else NONE
  | some _, none => NONE
  | none, _ => NONE
/-! a fault is 4 at most -/
theorem putS_F {w : Bool} {s : PS} {t i x : Nat} : sF (putS w s t i x) = sF s := by unfold putS; split <;> rfl
theorem addS_F {w : Bool} {q : Nat} {s : PS} {t : Nat} {less : Bool} : sF (addS w q s t less) = sF s := by unfold addS; split <;> rfl
theorem mulS_F {w : Bool} {q m d : Nat} {s : PS} {t : Nat} : sF (mulS w q m d s t) = sF s := by
  unfold mulS
  split
  · split <;> rfl
  · rfl
theorem turnS_F {w : Bool} {q : Nat} {s : PS} {t : Nat} : sF (turnS w q s t) = sF s := by unfold turnS; split <;> rfl
theorem numS_F {w : Bool} {n : Nat} {s : PS} : sF (numS w n s) = sF s := by unfold numS; split <;> rfl
theorem rsl_F {w : Bool} {q m d t : Nat} : ∀ (f : Nat) (s : PS), sF (rsl w q m d t f s) = sF s
  | 0, _ => rfl
  | f + 1, s => by
    unfold rsl
    rw [rsl_F f, mulS_F]
theorem raiseS_F {w : Bool} {q m d : Nat} {s : PS} {t p : Nat} : sF (raiseS w q m d s t p) = sF s := by
  unfold raiseS
  split
  · rw [rsl_F]
  · rfl
def OF (one : Nat → PS → Bool × PS) : Prop := ∀ t s, sF s ≤ 4 → sF (one t s).2 ≤ 4
theorem pPw2_F {w : Bool} {q m d : Nat} {tx : Nat → Nat} {len t : Nat} {s : PS} (h : sF s ≤ 4) : sF (pPw2 w q m d tx len t s).2 ≤ 4 := by
  unfold pPw2
  split
  · split
    · split
      · show sF (raiseS w q m d (stepS tx len s) t (sL (stepS tx len s)).2.2.1) ≤ 4
        rw [raiseS_F]
        exact h
      · show 2 ≤ 4
        omega
    · show 1 ≤ 4
      omega
  · exact h
theorem pPow_F {w : Bool} {q m d : Nat} {tx : Nat → Nat} {len : Nat} {one : Nat → PS → Bool × PS} (h : OF one) : OF (pPow w q m d tx len one) := by
  intro t s hs
  unfold pPow
  split
  · exact pPw2_F (h t s hs)
  · exact h t s hs
theorem pProL_F {w : Bool} {q m d : Nat} {tx : Nat → Nat} {len : Nat} {one : Nat → PS → Bool × PS} (h : OF one) (t : Nat) : ∀ (f : Nat) (s : PS), sF s ≤ 4 → sF (pProL w q m d tx len one t f s).2 ≤ 4
  | 0, _, hs => hs
  | f + 1, s, hs => by
    unfold pProL
    split
    · split
      · exact pProL_F h t f _ (by rw [mulS_F]; exact pPow_F h (t + 1) (stepS tx len s) hs)
      · exact pPow_F h (t + 1) (stepS tx len s) hs
    · exact hs
theorem pPro_F {w : Bool} {q m d : Nat} {tx : Nat → Nat} {len : Nat} {one : Nat → PS → Bool × PS} (h : OF one) : OF (pPro w q m d tx len one) := by
  intro t s hs
  unfold pPro
  split
  · exact pProL_F h t 300 _ (pPow_F h t s hs)
  · exact pPow_F h t s hs
theorem pSumL_F {w : Bool} {q m d : Nat} {tx : Nat → Nat} {len : Nat} {one : Nat → PS → Bool × PS} (h : OF one) (t : Nat) : ∀ (f : Nat) (s : PS), sF s ≤ 4 → sF (pSumL w q m d tx len one t f s).2 ≤ 4
  | 0, _, hs => hs
  | f + 1, s, hs => by
    unfold pSumL
    split
    · split
      · exact pSumL_F h t f _ (by rw [addS_F]; exact pPro_F h (t + 1) (stepS tx len s) hs)
      · exact pPro_F h (t + 1) (stepS tx len s) hs
    · exact hs
theorem pSum_F {w : Bool} {q m d : Nat} {tx : Nat → Nat} {len : Nat} {one : Nat → PS → Bool × PS} (h : OF one) : OF (pSum w q m d tx len one) := by
  intro t s hs
  unfold pSum
  split
  · exact pSumL_F h t 300 _ (pPro_F h t s hs)
  · exact pPro_F h t s hs
theorem pExp_F {tx : Nat → Nat} {len v : Nat} {s : PS} (h : sF s ≤ 4) : sF (pExp tx len v s).2 ≤ 4 := by
  unfold pExp
  split
  · exact h
  · show 1 ≤ 4
    omega
theorem pLeaf_F {w : Bool} {n : Nat} {tx : Nat → Nat} {len : Nat} : OF (pLeaf w n tx len) := by
  intro t s hs
  unfold pLeaf
  split
  · split
    · show sF (putS w (numS w n s) t 0 (sL s).2.2.1) ≤ 4
      rw [putS_F, numS_F]
      exact hs
    · show 2 ≤ 4
      omega
  split
  · show sF (putS w s t 1 1) ≤ 4
    rw [putS_F]
    exact hs
  · show 1 ≤ 4
    omega
theorem pOne_F {w : Bool} {q m d n : Nat} {tx : Nat → Nat} {len : Nat} : ∀ k, OF (pOne w q m d n tx len k) := by
  intro k
  induction k with
  | zero =>
    intro t s hs
    unfold pOne
    split
    · show 3 ≤ 4
      omega
    · exact pLeaf_F t s hs
  | succ k ih =>
    intro t s hs
    unfold pOne
    split
    · split
      · exact pExp_F (pSum_F ih t (stepS tx len s) hs)
      · exact pSum_F ih t (stepS tx len s) hs
    split
    · split
      · show sF (turnS w q (pOne w q m d n tx len k t (stepS tx len s)).2 t) ≤ 4
        rw [turnS_F]
        exact ih t (stepS tx len s) hs
      · exact ih t (stepS tx len s) hs
    · exact pLeaf_F t s hs
theorem pCl_F {w : Bool} {q m d n : Nat} {tx : Nat → Nat} {len nC : Nat} {s : PS} (h : sF s ≤ 4) : sF (pCl w q m d n tx len s nC).2.1 ≤ 4 := by
  unfold pCl
  split
  · exact h
  split
  · show 1 ≤ 4
    omega
  split
  · show 4 ≤ 4
    omega
  have h1 : sF (pSum w q m d tx len (pOne w q m d n tx len 8) 0 (stepS tx len (sL s, false, sS s, sF s, sA s))).2 ≤ 4 := pSum_F (pOne_F 8) 0 _ h
  split
  · exact pExp_F h1
  · exact h1
theorem pCk_F {q m d n : Nat} {tx : Nat → Nat} {len : Nat} : ∀ (f : Nat) (s : PS) (nC : Nat), sF s ≤ 4 → sF (pCk q m d n tx len f s nC) ≤ 4
  | 0, _, _, h => h
  | f + 1, s, nC, h => by
    unfold pCk
    split
    · exact pCk_F f _ _ (pCl_F h)
    · exact pCl_F h
/-- what a clause tells stands at slot 0 -/
theorem pCl_V {w : Bool} {q m d n : Nat} {tx : Nat → Nat} {len nC : Nat} {s : PS} (hw : Wd q m d n) (h : (pCl w q m d n tx len s nC).1 = 1 ∨ (pCl w q m d n tx len s nC).1 = 2) : wk w (pCl w q m d n tx len s nC).2.1 = true → Vd n (pCl w q m d n tx len s nC).2.1 0 := by
  unfold pCl at h ⊢
  split at h
  · have h1 : (0 : Nat) = 1 ∨ (0 : Nat) = 2 := h
    omega
  split at h
  · have h1 : (3 : Nat) = 1 ∨ (3 : Nat) = 2 := h
    omega
  split at h
  · have h1 : (3 : Nat) = 1 ∨ (3 : Nat) = 2 := h
    omega
  next c1 c2 c3 =>
  rw [if_neg c1, if_neg c2, if_neg c3]
  split at h
  · next c4 =>
    rw [if_pos c4]
    have hv := pSum_OV (tx := tx) (len := len) hw (pOne_OV (tx := tx) (len := len) hw 8) 0 _ c4
    generalize (pSum w q m d tx len (pOne w q m d n tx len 8) 0 (stepS tx len (sL s, false, sS s, sF s, sA s))).2 = S2 at h hv ⊢
    intro hwk
    unfold pExp at hwk ⊢
    by_cases c5 : (sL S2).1 = 59
    · rw [if_pos c5] at hwk ⊢
      exact Vd_step (hv.1 (by rw [← wk_step]; exact hwk)).1
    · rw [if_neg c5] at hwk ⊢
      exact (hv.1 hwk).1
  · have h1 : (3 : Nat) = 1 ∨ (3 : Nat) = 2 := h
    omega
def cR (s : Cst) (num : Nat) (S : Nat → Nat → Nat) : PS := pCk (aq (cN s)) (am (cN s)) (dO (cN s)) (nO (cN s)) (cTb s) (cTl s) 21 (st0 (cTb s) (cTl s) num S) 0
def fText (s : Cst) (num : Nat) (S : Nat → Nat → Nat) : Int32 × Cst := if 4 ≤ atx (cN s) then (NONE, s) else if sF (cR s num S) = 0 then
    (nI (atx (cN s)), (textA (cN s), cK s, (0, cTb s), (up1 (cXl s) (atx (cN s)) (cTl s), upR (cXb s) (atx (cN s)) (fun i => if i < cTl s then cTb s i else cXb s (atx (cN s)) i)), (nI 0, NONE)))
  else (NONE, (cN s, cK s, (0, cTb s), s.2.2.2.1, (nI (sF (cR s num S)), nI (sA (cR s num S)))))
def tol (q m d n : Nat) (tx : Nat → Nat) (len : Nat) : Nat → Nat → PS → Nat → Cst → Option (Int32 × Cst)
  | 0, _, _, _, c => some (NONE, c)
  | f + 1, k, s, nC, c => if (pCl true q m d n tx len s nC).1 = 0 then some (NONE, c) else if (pCl true q m d n tx len s nC).1 = 3 then none else
      if sK (pCl true q m d n tx len s nC).2.1 = true then some (nI k, c) else
        (if (pCl true q m d n tx len s nC).1 = 2 then
          (if (tellP c (sS (pCl true q m d n tx len s nC).2.1 0)).1 = NONE then some (nI k, c) else tol q m d n tx len f (k + 1) (pCl true q m d n tx len s nC).2.1 (pCl true q m d n tx len s nC).2.2 (tellP c (sS (pCl true q m d n tx len s nC).2.1 0)).2)
         else
          (if (tellM c (sS (pCl true q m d n tx len s nC).2.1 0)).1 = NONE then some (nI k, c) else tol q m d n tx len f (k + 1) (pCl true q m d n tx len s nC).2.1 (pCl true q m d n tx len s nC).2.2 (tellM c (sS (pCl true q m d n tx len s nC).2.1 0)).2))
def fTold (s : Cst) (v : Int32) (num : Nat) (S : Nat → Nat → Nat) : Option (Int32 × Cst) := match asN (atx (cN s)) v with
  | none => some (-(nI 2), s)
  | some j => tol (aq (cN s)) (am (cN s)) (dO (cN s)) (nO (cN s)) (cXb s j) (cXl s j) 20 0 (st0 (cXb s j) (cXl s j) num S) 0 s
section FC5
variable {G : GC} {e : Nat} {mi : Nat → Nat → Int32} {ml : Nat → Nat → Int64} {y : Nat → Nat → Option Nat} {s : Cst}
theorem p_dual (h : CI mo s mi) {v1 v2 v3 : Int32} {K : Int32 → (Nat → Nat → Int32) → (Nat → Nat → Int64) → Prop} (hK : ∀ mi1, CI mo s mi1 → K (fDual s v1 v2 v3) mi1 ml) : wpI G e 154 m_X9_dual [.ref 0, .int v1, .int v2, .int v3] (mi, ml, RX y) K := by
  obtain ⟨g, hE⟩ := h.en
  have hq2 := hE.w.q2
  have h31 := pow_lt31 (M := 13) hE.1.1 (Nat.le_refl _)
  obtain ⟨-, -, -, -, r153, l153⟩ := rowK
  unfold fDual at hK
  have hm1 : (-(nI 1)).toInt = -1 := by decide
  apply e_X9_dual
  refine p_areMM h (fun i j hi hj hv hlt hv2 hlt2 => ⟨fun z => absurd z (by decide), fun _ => ?_⟩) (fun hno => ⟨fun _ => ?_, fun z => absurd rfl z⟩)
  · rw [hi, hj] at hK
    obtain ⟨m1, m2, m3, m4, m5⟩ := h.map hlt
    obtain ⟨n1, n2, n3, n4, n5⟩ := h.mod hlt2
    subst hv
    subst hv2
    replace hK : ∀ mi1, CI mo s mi1 → K (if rl (lds (aq (cN s)) (am (cN s)) (dO (cN s)) (nO (cN s)) (amp (cN s) i) (amd (cN s) j)).1 25 = 0 then (match dnu (aq (cN s)) (am (cN s)) (dO (cN s)) (nO (cN s)) (amp (cN s) i) (amd (cN s) j) with
      | none => NONE
      | some a => if v3 = NONE then nI a else match asN 25 v3 with
        | none => NONE
        | some k => if (trn (aq (cN s)) (am (cN s)) (dO (cN s)) (amd (cN s) j) a).1 = true then nI ((dvd (aq (cN s)) (am (cN s)) (dO (cN s)) (nO (cN s)) 25 (trn (aq (cN s)) (am (cN s)) (dO (cN s)) (amd (cN s) j) a).2 (amp (cN s) i)).2 k) else NONE)
      else NONE) mi1 ml := hK
    have hbad : v3 ≠ NONE → asN 25 v3 = none → ∀ mi1, CI mo s mi1 → K NONE mi1 ml := fun z1 z2 mi1 h1 => by
      have := hK mi1 h1
      rw [z2] at this
      by_cases c : rl (lds (aq (cN s)) (am (cN s)) (dO (cN s)) (nO (cN s)) (amp (cN s) i) (amd (cN s) j)).1 25 = 0
      · rw [if_pos c] at this
        rcases opt_cases (dnu (aq (cN s)) (am (cN s)) (dO (cN s)) (nO (cN s)) (amp (cN s) i) (amd (cN s) j)) with z | ⟨a, z⟩
        · rw [z] at this; exact this
        · rw [z] at this
          simp only [if_neg z1] at this
          exact this
      · rw [if_neg c] at this
        exact this
    refine ⟨fun z => ?_, fun z => ⟨fun z2 => p_sget1 m5 (p_sget0 n5 ?_), fun z2 => ?_⟩⟩
    · refine hbad (fun z3 => ?_) (asN_neg ?_) mi h
      · rw [z3, Int32.lt_iff_toInt_lt] at z
        have h9 : NONE.toInt = -1 := hm1
        omega
      · rw [Int32.lt_iff_toInt_lt] at z ⊢
        have h3 : (0 : Int32).toInt = 0 := by decide
        omega
    · refine p_lead hE m1 n1 r153 m2 n2 l153 (by omega) (by omega) (by omega) (by omega) m3 n3 (by omega) (fun mi1 ho1 hr1 => ?_)
      have h1 := h.off (mi1 := mi1) (fun o oo => ho1 o (by omega) (by omega))
      by_cases c : rl (lds (aq (cN s)) (am (cN s)) (dO (cN s)) (nO (cN s)) (amp (cN s) i) (amd (cN s) j)).1 25 = 0
      · rw [if_pos c] at hK ⊢
        refine ⟨fun z3 => absurd z3 (by decide), fun _ => ?_⟩
        obtain ⟨g1, hE1⟩ := h1.en
        refine p_dualNumber hE1 m1 n1 m2 n2 (by omega) (by omega) (m3.off (ho1 _ (by omega) (by omega))) (n3.off (ho1 _ (by omega) (by omega))) (by omega) (fun mi2 ho2 => ?_)
        have h2 := h1.off ho2.X
        rcases opt_cases (dnu (aq (cN s)) (am (cN s)) (dO (cN s)) (nO (cN s)) (amp (cN s) i) (amd (cN s) j)) with z3 | ⟨a, z3⟩
        · rw [z3] at hK ⊢
          exact ⟨fun _ => hK mi2 h2, fun z4 => absurd rfl z4⟩
        · have ha : a < aq (cN s) ^ 13 := dnl_lt hq2 5 0 _ _ a (by omega) z3
          rw [z3] at hK ⊢
          replace hK : ∀ mi1, CI mo s mi1 → K (if v3 = NONE then nI a else match asN 25 v3 with
            | none => NONE
            | some k => if (trn (aq (cN s)) (am (cN s)) (dO (cN s)) (amd (cN s) j) a).1 = true then nI ((dvd (aq (cN s)) (am (cN s)) (dO (cN s)) (nO (cN s)) 25 (trn (aq (cN s)) (am (cN s)) (dO (cN s)) (amd (cN s) j) a).2 (amp (cN s) i)).2 k) else NONE) mi1 ml := hK
          show (nI a = (-(nI 1)) → _) ∧ (¬ nI a = (-(nI 1)) → _)
          refine ⟨fun z4 => absurd z4 (nI_neg1 (by omega)), fun _ => ⟨fun z4 => ?_, fun z4 => ?_⟩⟩
          · rw [if_neg z4] at hK
            obtain ⟨g2, hE2⟩ := h2.en
            have hnn : ¬ v3 < 0 := by
              intro z5
              rw [Int32.lt_iff_toInt_lt] at z z5
              have h3 : (0 : Int32).toInt = 0 := by decide
              exact z4 (Int32.toInt_inj.mp (by rw [hm1]; omega))
            obtain ⟨k, hk, rfl⟩ := nI_of hnn
            rw [s_le hk (by omega)] at z2
            rw [asN_nI hk, if_pos (by omega)] at hK
            refine p_dualRow hE2 m1 n1 r153 m2 n2 l153 (by omega) (by omega) (by omega) (by omega) ha ((m3.off (ho1 _ (by omega) (by omega))).off (ho2 _ (by omega))) ((n3.off (ho1 _ (by omega) (by omega))).off (ho2 _ (by omega))) (by omega) (fun z5 mi3 ho3 => ?_) (fun z5 mi3 ho3 hr3 => ?_)
            · refine ⟨fun _ => ?_, fun z6 => absurd rfl z6⟩
              have := hK mi3 (h2.off (fun o oo => ho3 o (by omega)))
              simp only [if_neg z5] at this
              exact this
            · refine ⟨fun z6 => absurd z6 (by decide), fun _ => ⟨?_, ?_⟩⟩
              · rw [s_in hk]
                omega
              · rw [s_ix hk, hr3.1 k (by omega)]
                have := hK mi3 (h2.off (fun o oo => ho3 o (by omega) (by omega)))
                simp only [if_pos z5] at this
                exact this
          · rw [if_pos z4] at hK
            exact hK mi2 h2
      · rw [if_neg c] at hK ⊢
        exact ⟨fun _ => ⟨fun _ => hK mi1 h1, fun z3 => absurd rfl z3⟩, fun z3 => absurd rfl z3⟩
    · by_cases z3 : v3 < 0
      · exfalso
        apply z2
        rw [Int32.le_iff_toInt_le]
        rw [Int32.lt_iff_toInt_lt] at z3
        have h3 : (0 : Int32).toInt = 0 := by decide
        have h4 : (nI 24).toInt = 24 := by decide
        omega
      · obtain ⟨k, hk, rfl⟩ := nI_of z3
        rw [s_le hk (by omega)] at z2
        exact hbad (fun z4 => nI_neg1 hk z4) (by rw [asN_nI hk, if_neg (by omega)]) mi h
  · rcases hno with z | z
    · rw [z] at hK
      exact hK mi h
    · rw [z] at hK
      rcases opt_cases (asN (kc (aks (cN s)) 1 (adn (cN s))) v1) with z2 | ⟨i, z2⟩ <;> rw [z2] at hK <;> exact hK mi h
end FC5
