/-! the class's face: about .. count -/
variable {mo : Nat → Nat → Int32}
theorem s_pdeq {n b : Nat} (hn : n < 2 ^ 31) (hb : b < 2 ^ 31) : (pd n = nI b) = (n = b + 1) := by
  rw [← Int32.toInt_inj, pd_toInt hn, nI_toInt hb]
  exact propext ⟨fun h => by omega, fun h => by omega⟩
def partsOK : Prop := ∀ q m d n, Pw q m d n → ∀ f : Nat → Nat, (∀ k, f k < n) → (∀ k, 4 ≤ k → f k = 0) → 2 ≤ rl f 4 → ∃ R, fpa q m d f = some R
def unitOK : Prop := ∀ q m d n, Pw q m d n → ∀ g2, g2 < n → g2 ≠ 0 → gun q m d n g2 < q
def fAbout (s : Cst) (v1 v2 : Int32) : Int32 := match asN (kc (aks (cN s)) 0 (adn (cN s))) v1 with
  | none => NONE
  | some i => if v2 = nI 0 then oI (chc (aq (cN s)) (am (cN s)) (dO (cN s)) (amd (cN s) i 0)) else if v2 = nI 1 then (match chc (aq (cN s)) (am (cN s)) (dO (cN s)) (amd (cN s) i 0) with
      | none => NONE
      | some c => oI (hgt (aq (cN s)) (am (cN s)) (dO (cN s)) (amd (cN s) i) c))
    else if v2 = nI 2 then nI (pts (aq (cN s)) (am (cN s)) (dO (cN s)) (amd (cN s) i)) else NONE
def fPartsR (R : Nat → Nat) (v : Int32) : Int32 := if v = NONE then nI (cnt R 7 0) else match asN (cnt R 7 0) v with
  | some j => nI (R j)
  | none => NONE
def fParts (s : Cst) (v1 v2 : Int32) : Int32 := if ¬ NONE ≤ v2 then NONE else match asN (kc (aks (cN s)) 0 (adn (cN s))) v1 with
  | none => NONE
  | some i => match fpa (aq (cN s)) (am (cN s)) (dO (cN s)) (amd (cN s) i) with
    | none => NONE
    | some R => fPartsR R v2
def fGreat (s : Cst) (v1 v2 : Int32) : Int32 := match asN (kc (aks (cN s)) 0 (adn (cN s))) v1 with
  | none => NONE
  | some i => if rl (amd (cN s) i) 4 = 3 then (match chc (aq (cN s)) (am (cN s)) (dO (cN s)) (amd (cN s) i 0) with
      | none => NONE
      | some c => if v2 = nI 0 then nI (gtr (aq (cN s)) (am (cN s)) (dO (cN s)) (nO (cN s)) (amd (cN s) i) c) else if v2 = nI 1 then nI (gno (aq (cN s)) (am (cN s)) (dO (cN s)) (nO (cN s)) (amd (cN s) i) c) else NONE)
    else NONE
def fLeads (s : Cst) (v1 v2 v3 : Int32) : Int32 := match asN (kc (aks (cN s)) 1 (adn (cN s))) v1, asN (kc (aks (cN s)) 0 (adn (cN s))) v2, asN 4 v3 with
  | some i, some j, some k => if rl (lds (aq (cN s)) (am (cN s)) (dO (cN s)) (nO (cN s)) (amp (cN s) i) (amd (cN s) j)).1 25 = 0 then nI ((lds (aq (cN s)) (am (cN s)) (dO (cN s)) (nO (cN s)) (amp (cN s) i) (amd (cN s) j)).2 k) else NONE
  | some _, some _, none => NONE
  | some _, none, _ => NONE
  | none, _, _ => NONE
def fEnds (s : Cst) (v1 v2 : Int32) : Int32 := match asN (kc (aks (cN s)) 0 (adn (cN s))) v1, asN 3 v2 with
  | some i, some e => nI (cen (aq (cN s)) (am (cN s)) (dO (cN s)) (amd (cN s) i) e)
  | some _, none => NONE
  | none, _ => NONE
def fAlike (s : Cst) (v1 v2 : Int32) : Int32 := match asN (kc (aks (cN s)) 0 (adn (cN s))) v1, asN (kc (aks (cN s)) 0 (adn (cN s))) v2 with
  | some i, some j => oI (all (aq (cN s)) (am (cN s)) (dO (cN s)) (amd (cN s) i) (amd (cN s) j) (nO (cN s) - 1) 1)
  | some _, none => NONE
  | none, _ => NONE
def fMade (s : Cst) (v1 v2 : Int32) : Int32 × Cst := match asN (kc (aks (cN s)) 0 (adn (cN s))) v1, asN (nO (cN s)) v2 with
  | some i, some x => tellP s (mak (aq (cN s)) (am (cN s)) (dO (cN s)) (nO (cN s)) (amd (cN s) i) x)
  | some _, none => (NONE, s)
  | none, _ => (NONE, s)
def fClasses (s : Cst) (v1 v2 : Int32) : Int32 := match asN (nO (cN s)) v1, asN 4 v2 with
  | some _, some r => if r = 0 then NONE else nI (ccs (aq (cN s)) (nO (cN s)) r)
  | some _, none => NONE
  | none, _ => NONE
def fSums (s : Cst) (v1 v2 : Int32) : Int32 := match asN 13 v1, asN 5 v2 with
  | some k, some d => if k = 0 ∨ d = 0 ∨ 12 < d * k then NONE else nI (sps (aq (cN s)) k d)
  | some _, none => NONE
  | none, _ => NONE
def fSymbol (s : Cst) (v1 v2 : Int32) : Int32 := match asN (aq (cN s) ^ 13) v1, asN (aq (cN s) ^ 13) v2 with
  | some a, some b => if fst (aq (cN s)) b = 1 ∧ 2 ≤ ln (aq (cN s)) 13 b ∧ ln (aq (cN s)) 13 b ≤ 7 then nI (sym (aq (cN s)) a b) else NONE
  | some _, none => NONE
  | none, _ => NONE
def fFactors (s : Cst) (v1 v2 : Int32) : Int32 := match asN (aq (cN s) ^ 13) v1 with
  | none => NONE
  | some a => if a = 0 ∨ ¬ NONE ≤ v2 then NONE else if v2 = NONE then nI (fnd (aq (cN s)) a).1 else match asN (fnd (aq (cN s)) a).1 v2 with
    | none => NONE
    | some i => nI ((fnd (aq (cN s)) a).2 i)
def fUndo (s : Cst) : Int32 × Cst := if adn (cN s) = 0 then (NONE, s) else (nI (adn (cN s) - 1), (undoA (cN s), s.2))
def fRedo (s : Cst) : Int32 × Cst := if aal (cN s) ≤ adn (cN s) then (NONE, s) else (nI (adn (cN s) + 1), (redoA (cN s), s.2))
def fImage (s : Cst) : Int32 × Cst := (nI (adn (cN s)), (cN s, cN s, s.2.2))
def fBack (s : Cst) : Int32 × Cst := (nI (adn (cK s)), (cK s, cK s, s.2.2))
def fCount (s : Cst) (v : Int32) : Int32 := if v = nI 0 then nI (aq (cN s)) else if v = nI 1 then nI (am (cN s)) else if v = nI 2 then nI (dO (cN s)) else if v = nI 3 then nI (nO (cN s)) else if v = nI 4 then nI (kc (aks (cN s)) 0 (adn (cN s)))
  else if v = nI 5 then nI (kc (aks (cN s)) 1 (adn (cN s))) else if v = nI 6 then nI (atx (cN s)) else if v = nI 7 then nI (adn (cN s)) else if v = nI 8 then nI (aal (cN s) - adn (cN s)) else if v = nI 9 then nI (cTl s) else -(nI 2)
section FC4
variable {G : GC} {e : Nat} {mi : Nat → Nat → Int32} {ml : Nat → Nat → Int64} {y : Nat → Nat → Option Nat} {s : Cst}
theorem off67.X {mi mi1 : Nat → Nat → Int32} (h : off67 mi mi1) : offX mi mi1 := fun o oo => h o (by omega)
theorem off16.X {mi mi1 : Nat → Nat → Int32} (h : off16 mi mi1) : offX mi mi1 := fun o oo => h o (by omega)
theorem off72.X {mi mi1 : Nat → Nat → Int32} (h : off72 mi mi1) : offX mi mi1 := fun o oo => h o (by omega)
theorem p_about (h : CI mo s mi) {v1 v2 : Int32} {K : Int32 → (Nat → Nat → Int32) → (Nat → Nat → Int64) → Prop} (hK : ∀ mi1, CI mo s mi1 → K (fAbout s v1 v2) mi1 ml) : wpI G e 154 m_X9_about [.ref 0, .int v1, .int v2] (mi, ml, RX y) K := by
  obtain ⟨g, hE⟩ := h.en
  have hd7 := hE.w.d7
  have hq2 := hE.w.q2
  unfold fAbout at hK
  apply e_X9_about
  refine q_has0 h (fun i hi hv hlt => ⟨fun _ => ?_, fun z => absurd z (by decide)⟩) (fun hno => ⟨fun z => absurd rfl z, fun _ => ?_⟩)
  · rw [hi] at hK
    replace hK : ∀ mi1, CI mo s mi1 → K (if v2 = nI 0 then oI (chc (aq (cN s)) (am (cN s)) (dO (cN s)) (amd (cN s) i 0)) else if v2 = nI 1 then (match chc (aq (cN s)) (am (cN s)) (dO (cN s)) (amd (cN s) i 0) with
      | none => NONE
      | some c => oI (hgt (aq (cN s)) (am (cN s)) (dO (cN s)) (amd (cN s) i) c)) else if v2 = nI 2 then nI (pts (aq (cN s)) (am (cN s)) (dO (cN s)) (amd (cN s) i)) else NONE) mi1 ml := hK
    obtain ⟨m1, m2, m3, m4, m5⟩ := h.mod hlt
    have hf0 := m3.2.2 0
    subst hv
    have hin : vp_in (nI 0) (an (98 + i)) := by rw [s_in (by omega), m2]; omega
    refine p_sget0 m5 ⟨fun z => ⟨m1.1, hin, ?_⟩, fun z0 => ⟨fun z => ⟨m1.1, hin, ?_⟩, fun z1 => ⟨fun z => ?_, fun z2 => ?_⟩⟩⟩
    · rw [s_ix (by omega), m3.1 0 (by omega)]
      refine p_chc hE hf0 (fun c mi1 ho1 hc hlt2 => ?_)
      have := hK mi1 (h.off ho1.X)
      rw [if_pos z, hc] at this
      exact this
    · rw [s_ix (by omega), m3.1 0 (by omega)]
      refine p_chc hE hf0 (fun c mi1 ho1 hc hlt2 => ?_)
      have hc13 : c < aq (cN s) ^ 13 := Nat.lt_of_lt_of_le hlt2 (Nat.pow_le_pow_right (by omega) (by omega))
      refine p_height (hE.off16 ho1) m1 (by omega) (by omega) hc13 (m3.off (ho1 _ (by omega))) (fun mi2 ho2 => ?_)
      have := hK mi2 ((h.off ho1.X).off ho2.X)
      rw [if_neg z0, if_pos z, hc] at this
      exact this
    · refine p_points hE m1 (by omega) (by omega) m3 (fun mi1 ho1 hM hlt2 => ?_)
      have := hK mi1 (h.off ho1.X)
      rw [if_neg z0, if_neg z1, if_pos z] at this
      exact this
    · have := hK mi h
      rw [if_neg z0, if_neg z1, if_neg z2] at this
      exact this
  · rw [hno] at hK
    exact hK mi h
theorem p_parts (hOK : partsOK) (h : CI mo s mi) {v1 v2 : Int32} {K : Int32 → (Nat → Nat → Int32) → (Nat → Nat → Int64) → Prop} (hK : ∀ mi1, CI mo s mi1 → K (fParts s v1 v2) mi1 ml) : wpI G e 154 m_X9_parts [.ref 0, .int v1, .int v2] (mi, ml, RX y) K := by
  obtain ⟨g, hE⟩ := h.en
  have h31 := pow_lt31 (M := 13) hE.1.1 (Nat.le_refl _)
  unfold fParts at hK
  apply e_X9_parts
  refine q_has0 h (fun i hi hv hlt => ⟨fun z => absurd z (by decide), fun _ => ⟨fun z => ?_, fun z => ?_⟩⟩) (fun hno => ⟨fun _ => ?_, fun z => absurd rfl z⟩)
  · rw [if_neg (fun z2 => z2 z), hi] at hK
    obtain ⟨m1, m2, m3, m4, m5⟩ := h.mod hlt
    obtain ⟨R, hR⟩ := hOK _ _ _ _ h.2.2.2.1.1 (amd (cN s) i) m3.2.2 (fun k hk => m3.2.1 k (by omega)) m4
    replace hK : ∀ mi1, CI mo s mi1 → K (match fpa (aq (cN s)) (am (cN s)) (dO (cN s)) (amd (cN s) i) with
      | none => NONE
      | some R => fPartsR R v2) mi1 ml := hK
    rw [hR] at hK
    replace hK : ∀ mi1, CI mo s mi1 → K (fPartsR R v2) mi1 ml := hK
    unfold fPartsR at hK
    subst hv
    refine p_sget0 m5 (p_findParts hE m1 (by omega) (by omega) m3 hR (fun mi1 ho1 hP => ?_))
    have hK1 := hK mi1 (h.off ho1.X)
    have hcnt : cnt R 7 0 ≤ 7 := by
      have : ∀ r i, cnt R r i ≤ r + i := by
        intro r
        induction r with
        | zero => intro i; show i ≤ 0 + i; omega
        | succ r ih =>
          intro i
          unfold cnt
          split
          · omega
          · have := ih (i + 1)
            omega
      exact this 7 0
    refine ⟨fun c => ?_, fun c => ?_⟩
    · rw [if_neg c] at hK1
      have hnn : ¬ v2 < 0 := by
        intro z2
        have h1 : (-(nI 1)) ≤ v2 := z
        rw [Int32.le_iff_toInt_le] at h1
        rw [Int32.lt_iff_toInt_lt] at z2
        have h2 : (-(nI 1)).toInt = -1 := by decide
        have h3 : (0 : Int32).toInt = 0 := by decide
        have h4 : v2.toInt = -1 := by omega
        exact c (Int32.toInt_inj.mp (by rw [h4, h2]))
      obtain ⟨j, hj, rfl⟩ := nI_of hnn
      rw [asN_nI hj] at hK1
      simp (disch := omega) only [s_le, s_lt, s_eq, s_eq0, s_in, s_ix, s_rm, s_div, s_pdlt, s_pdle, s_lepd, s_pdpd, s_pdlepd, s_pdadd, nI_add, pk_mul, pd_succ, Nat.not_lt_zero, Nat.zero_lt_succ, not_false_eq_true, not_true_eq_false, false_implies, true_implies, implies_true, and_true, true_and, Nat.reduceLT, Nat.reduceLeDiff, Nat.reduceAdd, Nat.reduceSub, Nat.zero_add, Nat.add_zero]
      refine ⟨fun z2 => ?_, fun z2 => p_part hP (by omega) ?_⟩
      · rw [if_neg (by omega)] at hK1
        exact hK1
      · rw [if_pos (by omega)] at hK1
        exact hK1
    · rw [if_pos c] at hK1
      exact hK1
  · rw [if_pos z] at hK
    exact hK mi h
  · rw [hno] at hK
    by_cases z : ¬ NONE ≤ v2
    · rw [if_pos z] at hK; exact hK mi h
    · rw [if_neg z] at hK; exact hK mi h
theorem p_great (hOK : unitOK) (h : CI mo s mi) {v1 v2 : Int32} {K : Int32 → (Nat → Nat → Int32) → (Nat → Nat → Int64) → Prop} (hK : ∀ mi1, CI mo s mi1 → K (fGreat s v1 v2) mi1 ml) : wpI G e 154 m_X9_great [.ref 0, .int v1, .int v2] (mi, ml, RX y) K := by
  obtain ⟨g, hE⟩ := h.en
  have hn128 : nO (cN s) ≤ 128 := hE.w.2.2.2.2.2.2
  unfold fGreat at hK
  apply e_X9_great
  refine q_has0 h (fun i hi hv hlt => ⟨fun _ => ?_, fun z => absurd z (by decide)⟩) (fun hno => ⟨fun z => absurd rfl z, fun _ => ?_⟩)
  · rw [hi] at hK
    obtain ⟨m1, m2, m3, m4, m5⟩ := h.mod hlt
    have hrl := rl_le (amd (cN s) i) 4
    obtain ⟨c, hc, hcl⟩ := chc_some hE.w (m3.2.2 0)
    replace hK : ∀ mi1, CI mo s mi1 → K (if rl (amd (cN s) i) 4 = 3 then (match chc (aq (cN s)) (am (cN s)) (dO (cN s)) (amd (cN s) i 0) with
      | none => NONE
      | some c => if v2 = nI 0 then nI (gtr (aq (cN s)) (am (cN s)) (dO (cN s)) (nO (cN s)) (amd (cN s) i) c) else if v2 = nI 1 then nI (gno (aq (cN s)) (am (cN s)) (dO (cN s)) (nO (cN s)) (amd (cN s) i) c) else NONE) else NONE) mi1 ml := hK
    rw [hc] at hK
    replace hK : ∀ mi1, CI mo s mi1 → K (if rl (amd (cN s) i) 4 = 3 then (if v2 = nI 0 then nI (gtr (aq (cN s)) (am (cN s)) (dO (cN s)) (nO (cN s)) (amd (cN s) i) c) else if v2 = nI 1 then nI (gno (aq (cN s)) (am (cN s)) (dO (cN s)) (nO (cN s)) (amd (cN s) i) c) else NONE) else NONE) mi1 ml := hK
    subst hv
    refine p_sget0 m5 (p_degreeOf m1 (m3.row hn128) ?_)
    rw [m2]
    simp (disch := omega) only [s_le, s_lt, s_eq, s_eq0, s_in, s_ix, s_rm, s_div, s_pdlt, s_pdle, s_lepd, s_pdpd, s_pdlepd, s_pdadd, nI_add, pk_mul, pd_succ, Nat.not_lt_zero, Nat.zero_lt_succ, not_false_eq_true, not_true_eq_false, false_implies, true_implies, implies_true, and_true, true_and, Nat.reduceLT, Nat.reduceLeDiff, Nat.reduceAdd, Nat.reduceSub, Nat.zero_add, Nat.add_zero, s_pdeq]
    refine ⟨fun z => ?_, fun z => ?_⟩
    · have hu := hOK _ _ _ _ h.2.2.2.1.1 (amd (cN s) i 2) (m3.2.2 2) (rl_top z)
      refine ⟨fun z1 => ?_, fun z1 => ⟨fun z2 => ?_, fun z2 => ?_⟩⟩
      · refine p_greatTrace hE m1 (by omega) (by omega) (by omega) m3 hu (fun ch mi1 ho1 hch => ?_)
        rw [hc] at hch
        have e1 := Option.some.inj hch
        subst e1
        have := hK mi1 (h.off ho1.X)
        rw [if_pos z, if_pos z1] at this
        exact this
      · refine p_greatNorm hE m1 (by omega) (by omega) m3 hu (fun ch mi1 ho1 hch hlt2 => ?_)
        rw [hc] at hch
        have e1 := Option.some.inj hch
        subst e1
        have := hK mi1 (h.off ho1.X)
        rw [if_pos z, if_neg z1, if_pos z2] at this
        exact this
      · have := hK mi h
        rw [if_pos z, if_neg z1, if_neg z2] at this
        exact this
    · have := hK mi h
      rw [if_neg z] at this
      exact this
  · rw [hno] at hK
    exact hK mi h
theorem p_areMM (h : CI mo s mi) {v1 v2 : Int32} {K : Int32 → (Nat → Nat → Int32) → (Nat → Nat → Int64) → Prop}
    (h1 : ∀ i j, asN (kc (aks (cN s)) 1 (adn (cN s))) v1 = some i → asN (kc (aks (cN s)) 0 (adn (cN s))) v2 = some j → v1 = nI i → i < kc (aks (cN s)) 1 (adn (cN s)) → v2 = nI j → j < kc (aks (cN s)) 0 (adn (cN s)) → K (nI 1) mi ml)
    (h0 : (asN (kc (aks (cN s)) 1 (adn (cN s))) v1 = none ∨ asN (kc (aks (cN s)) 0 (adn (cN s))) v2 = none) → K (nI 0) mi ml) : wpI G e 154 m_X9_areMapAndModule [.ref 0, .int v1, .int v2] (mi, ml, RX y) K := by
  apply e_X9_areMapAndModule
  refine q_has1 h (fun i hi hv hlt => ⟨fun z => absurd z (by decide), fun _ => ?_⟩) (fun hno => ⟨fun _ => ⟨Or.inl rfl, h0 (Or.inl hno)⟩, fun z => absurd rfl z⟩)
  exact q_has0 h (fun a ha hva hla => ⟨fun z => absurd z (by decide), fun _ => ⟨Or.inr rfl, h1 i a hi ha hv hlt hva hla⟩⟩) (fun hno => ⟨fun _ => ⟨Or.inl rfl, h0 (Or.inr hno)⟩, fun z => absurd rfl z⟩)
theorem p_leads (h : CI mo s mi) {v1 v2 v3 : Int32} {K : Int32 → (Nat → Nat → Int32) → (Nat → Nat → Int64) → Prop} (hK : ∀ mi1, CI mo s mi1 → K (fLeads s v1 v2 v3) mi1 ml) : wpI G e 154 m_X9_leads [.ref 0, .int v1, .int v2, .int v3] (mi, ml, RX y) K := by
  obtain ⟨g, hE⟩ := h.en
  obtain ⟨-, -, -, -, r153, l153⟩ := rowK
  unfold fLeads at hK
  apply e_X9_leads
  refine p_areMM h (fun i j hi hj hv hlt hv2 hlt2 => ⟨fun z => absurd z (by decide), fun _ => ?_⟩) (fun hno => ⟨fun _ => ?_, fun z => absurd rfl z⟩)
  · rw [hi, hj] at hK
    obtain ⟨m1, m2, m3, m4, m5⟩ := h.map hlt
    obtain ⟨n1, n2, n3, n4, n5⟩ := h.mod hlt2
    subst hv
    subst hv2
    refine ⟨fun z => ?_, fun z => ?_⟩
    · rw [asN_neg (by rw [nI_0] at z; exact z)] at hK
      exact hK mi h
    · obtain ⟨k, hk, rfl⟩ := nI_of (by rw [nI_0] at z; exact z)
      rw [asN_nI hk] at hK
      simp (disch := omega) only [s_le, s_lt, s_eq, s_eq0, s_in, s_ix, s_rm, s_div, s_pdlt, s_pdle, s_lepd, s_pdpd, s_pdlepd, s_pdadd, nI_add, pk_mul, pd_succ, Nat.not_lt_zero, Nat.zero_lt_succ, not_false_eq_true, not_true_eq_false, false_implies, true_implies, implies_true, and_true, true_and, Nat.reduceLT, Nat.reduceLeDiff, Nat.reduceAdd, Nat.reduceSub, Nat.zero_add, Nat.add_zero]
      refine ⟨fun z2 => p_sget1 m5 (p_sget0 n5 ?_), fun z2 => ?_⟩
      · rw [if_pos (by omega)] at hK
        refine p_lead hE m1 n1 r153 m2 n2 l153 (by omega) (by omega) (by omega) (by omega) m3 n3 (by omega) (fun mi1 ho1 hr1 => ?_)
        have h1 := h.off (mi1 := mi1) (fun o oo => ho1 o (by omega) (by omega))
        have hK1 := hK mi1 h1
        by_cases c : rl (lds (aq (cN s)) (am (cN s)) (dO (cN s)) (nO (cN s)) (amp (cN s) i) (amd (cN s) j)).1 25 = 0
        · rw [if_pos c]
          refine ⟨fun _ => ⟨by omega, ?_⟩, fun z => absurd z (by decide)⟩
          rw [hr1.1 k (by omega)]
          simp only [if_pos c] at hK1
          exact hK1
        · rw [if_neg c]
          refine ⟨fun z => absurd rfl z, fun _ => ?_⟩
          simp only [if_neg c] at hK1
          exact hK1
      · rw [if_neg (by omega)] at hK
        exact hK mi h
  · rcases hno with z | z
    · rw [z] at hK
      exact hK mi h
    · rw [z] at hK
      rcases opt_cases (asN (kc (aks (cN s)) 1 (adn (cN s))) v1) with z2 | ⟨i, z2⟩ <;> rw [z2] at hK <;> exact hK mi h
theorem p_made (h : CI mo s mi) {v1 v2 : Int32} {K : Int32 → (Nat → Nat → Int32) → (Nat → Nat → Int64) → Prop} (hK : ∀ mi1, CI mo (fMade s v1 v2).2 mi1 → K (fMade s v1 v2).1 mi1 ml) : wpI G e 154 m_X9_made [.ref 0, .int v1, .int v2] (mi, ml, RX y) K := by
  obtain ⟨g, hE⟩ := h.en
  obtain ⟨-, -, -, -, r153, l153⟩ := rowK
  unfold fMade at hK
  apply e_X9_made
  refine q_has0 h (fun i hi hv hlt => ⟨fun z => absurd z (by decide), fun _ => ?_⟩) (fun hno => ⟨fun _ => ?_, fun z => absurd rfl z⟩)
  · rw [hi] at hK
    refine q_rholds hE (fun x hx hvx hlx => ⟨fun _ => ?_, fun z => absurd z (by decide)⟩) (fun hno => ⟨fun z => absurd rfl z, fun _ => ?_⟩)
    · rw [hx] at hK
      obtain ⟨m1, m2, m3, m4, m5⟩ := h.mod hlt
      subst hv
      subst hvx
      refine p_sget0 m5 (p_make hE r153 m1 l153 (by omega) (by omega) (by omega) (by omega) hlx m3 (fun mi1 ho1 hr1 => ?_))
      exact q_tellP (h.off (fun o oo => ho1 o (by omega))) r153 l153 (by omega) hr1 (fun mi2 ho2 h2 => hK mi2 h2)
    · rw [hno] at hK
      exact hK mi h
  · rw [hno] at hK
    exact hK mi h
theorem p_ends (h : CI mo s mi) {v1 v2 : Int32} {K : Int32 → (Nat → Nat → Int32) → (Nat → Nat → Int64) → Prop} (hK : ∀ mi1, CI mo s mi1 → K (fEnds s v1 v2) mi1 ml) : wpI G e 154 m_X9_ends [.ref 0, .int v1, .int v2] (mi, ml, RX y) K := by
  obtain ⟨g, hE⟩ := h.en
  unfold fEnds at hK
  apply e_X9_ends
  refine q_has0 h (fun i hi hv hlt => ⟨fun z => absurd z (by decide), fun _ => ?_⟩) (fun hno => ⟨fun _ => ?_, fun z => absurd rfl z⟩)
  · rw [hi] at hK
    obtain ⟨m1, m2, m3, m4, m5⟩ := h.mod hlt
    subst hv
    refine ⟨fun z => ?_, fun z => ?_⟩
    · rw [asN_neg (by rw [nI_0] at z; exact z)] at hK
      exact hK mi h
    · obtain ⟨k, hk, rfl⟩ := nI_of (by rw [nI_0] at z; exact z)
      rw [asN_nI hk] at hK
      simp (disch := omega) only [s_le, s_lt, s_eq, s_eq0, s_in, s_ix, s_rm, s_div, s_pdlt, s_pdle, s_lepd, s_pdpd, s_pdlepd, s_pdadd, nI_add, pk_mul, pd_succ, Nat.not_lt_zero, Nat.zero_lt_succ, not_false_eq_true, not_true_eq_false, false_implies, true_implies, implies_true, and_true, true_and, Nat.reduceLT, Nat.reduceLeDiff, Nat.reduceAdd, Nat.reduceSub, Nat.zero_add, Nat.add_zero]
      refine ⟨fun z2 => p_sget0 m5 (p_countEnds hE m1 m2 (by omega) z2 m3 (fun mi1 ho1 => ?_)), fun z2 => ?_⟩
      · rw [if_pos (by omega)] at hK
        exact hK mi1 (h.off ho1.X)
      · rw [if_neg (by omega)] at hK
        exact hK mi h
  · rw [hno] at hK
    exact hK mi h
theorem p_alike (h : CI mo s mi) {v1 v2 : Int32} {K : Int32 → (Nat → Nat → Int32) → (Nat → Nat → Int64) → Prop} (hK : K (fAlike s v1 v2) mi ml) : wpI G e 154 m_X9_alike [.ref 0, .int v1, .int v2] (mi, ml, RX y) K := by
  obtain ⟨g, hE⟩ := h.en
  unfold fAlike at hK
  apply e_X9_alike
  refine q_has0 h (fun i hi hv hlt => ⟨fun z => absurd z (by decide), fun _ => ?_⟩) (fun hno => ⟨fun _ => ?_, fun z => absurd rfl z⟩)
  · rw [hi] at hK
    refine q_has0 h (fun j hj hv2 hlt2 => ⟨fun _ => ?_, fun z => absurd z (by decide)⟩) (fun hno => ⟨fun z => absurd rfl z, fun _ => ?_⟩)
    · rw [hj] at hK
      obtain ⟨m1, m2, m3, m4, m5⟩ := h.mod hlt
      obtain ⟨n1, n2, n3, n4, n5⟩ := h.mod hlt2
      subst hv
      subst hv2
      exact p_sget0 m5 (p_sget0 n5 (p_leastAlike hE m1 n1 m2 n2 m3 n3 hK))
    · rw [hno] at hK
      exact hK
  · rw [hno] at hK
    exact hK
theorem p_classes (h : CI mo s mi) {v1 v2 : Int32} {K : Int32 → (Nat → Nat → Int32) → (Nat → Nat → Int64) → Prop} (hK : K (fClasses s v1 v2) mi ml) : wpI G e 154 m_X9_classes [.ref 0, .int v1, .int v2] (mi, ml, RX y) K := by
  obtain ⟨g, hE⟩ := h.en
  unfold fClasses at hK
  apply e_X9_classes
  refine q_rholds hE (fun x hx hvx hlx => ⟨fun z => absurd z (by decide), fun _ => ?_⟩) (fun hno => ⟨fun _ => ?_, fun z => absurd rfl z⟩)
  · rw [hx] at hK
    by_cases z : v2 < 0
    · rw [asN_neg z] at hK
      refine ⟨fun _ => hK, fun z2 => absurd ?_ z2⟩
      rw [Int32.lt_iff_toInt_lt] at z ⊢
      have h1 : (nI 1).toInt = 1 := by decide
      have h3 : (0 : Int32).toInt = 0 := by decide
      omega
    · obtain ⟨r, hr, rfl⟩ := nI_of z
      rw [asN_nI hr] at hK
      simp (disch := omega) only [s_le, s_lt, s_eq, s_eq0, s_in, s_ix, s_rm, s_div, s_pdlt, s_pdle, s_lepd, s_pdpd, s_pdlepd, s_pdadd, nI_add, pk_mul, pd_succ, Nat.not_lt_zero, Nat.zero_lt_succ, not_false_eq_true, not_true_eq_false, false_implies, true_implies, implies_true, and_true, true_and, Nat.reduceLT, Nat.reduceLeDiff, Nat.reduceAdd, Nat.reduceSub, Nat.zero_add, Nat.add_zero]
      refine ⟨fun z1 => ?_, fun z1 => ⟨fun z2 => ?_, fun z2 => ?_⟩⟩
      · rw [if_pos (by omega)] at hK
        replace hK : K (if r = 0 then NONE else nI (ccs (aq (cN s)) (nO (cN s)) r)) mi ml := hK
        rw [if_pos (by omega)] at hK
        exact hK
      · rw [if_pos (by omega)] at hK
        replace hK : K (if r = 0 then NONE else nI (ccs (aq (cN s)) (nO (cN s)) r)) mi ml := hK
        rw [if_neg (by omega)] at hK
        exact p_countClasses hE (by omega) z2 hK
      · rw [if_neg (by omega)] at hK
        exact hK
  · rw [hno] at hK
    exact hK
theorem p_greatest (h : CI mo s mi) {v : Int32} {K : Int32 → (Nat → Nat → Int32) → (Nat → Nat → Int64) → Prop}
    (hK0 : asN (nO (cN s)) v = none → K NONE mi ml)
    (hK1 : ∀ a g c, asN (nO (cN s)) v = some a → a < nO (cN s) → 1 ≤ g → g < nO (cN s) → full (aq (cN s)) (am (cN s)) (nO (cN s)) g → chc (aq (cN s)) (am (cN s)) (dO (cN s)) a = some c → ∀ mi1, CI mo s mi1 → K (nI (cgr (aq (cN s)) (am (cN s)) (dO (cN s)) (nO (cN s)) g a c)) mi1 ml) :
    wpI G e 154 m_X9_greatest [.ref 0, .int v] (mi, ml, RX y) K := by
  obtain ⟨g, hE⟩ := h.en
  apply e_X9_greatest
  refine q_rholds hE (fun x hx hvx hlx => ⟨fun z => absurd z (by decide), fun _ => ?_⟩) (fun hno => ⟨fun _ => hK0 hno, fun z => absurd rfl z⟩)
  subst hvx
  exact p_countGreatest hE hlx (fun c mi1 ho1 hc => hK1 x g c hx hlx hE.2.1.2.1 hE.2.1.2.2.1 hE.2.1.2.2.2.1 hc mi1 (h.off ho1.X))
theorem p_sums (h : CI mo s mi) {v1 v2 : Int32} {K : Int32 → (Nat → Nat → Int32) → (Nat → Nat → Int64) → Prop} (hK : K (fSums s v1 v2) mi ml) : wpI G e 154 m_X9_sums [.ref 0, .int v1, .int v2] (mi, ml, RX y) K := by
  obtain ⟨g, hE⟩ := h.en
  unfold fSums at hK
  have neg1 : ∀ v : Int32, v < 0 → v < nI 1 := fun v z => by
    rw [Int32.lt_iff_toInt_lt] at z ⊢
    have h1 : (nI 1).toInt = 1 := by decide
    have h3 : (0 : Int32).toInt = 0 := by decide
    omega
  apply e_X9_sums
  by_cases z : v1 < 0
  · rw [asN_neg z] at hK
    exact ⟨fun _ => hK, fun z2 => absurd (neg1 v1 z) z2⟩
  obtain ⟨k, hk, rfl⟩ := nI_of z
  rw [asN_nI hk] at hK
  by_cases c1 : k < 13
  · rw [if_pos c1] at hK
    by_cases z3 : v2 < 0
    · rw [asN_neg z3] at hK
      simp (disch := omega) only [s_le, s_lt, s_eq, s_eq0, s_in, s_ix, s_rm, s_div, s_pdlt, s_pdle, s_lepd, s_pdpd, s_pdlepd, s_pdadd, nI_add, pk_mul, pd_succ, Nat.not_lt_zero, Nat.zero_lt_succ, not_false_eq_true, not_true_eq_false, false_implies, true_implies, implies_true, and_true, true_and, Nat.reduceLT, Nat.reduceLeDiff, Nat.reduceAdd, Nat.reduceSub, Nat.zero_add, Nat.add_zero]
      exact ⟨fun _ => hK, fun _ => ⟨fun _ => hK, fun _ => ⟨fun _ => hK, fun z4 => absurd (neg1 v2 z3) z4⟩⟩⟩
    obtain ⟨d, hd, rfl⟩ := nI_of z3
    rw [asN_nI hd] at hK
    by_cases c2 : d < 5
    · rw [if_pos c2] at hK
      replace hK : K (if k = 0 ∨ d = 0 ∨ 12 < d * k then NONE else nI (sps (aq (cN s)) k d)) mi ml := hK
      have hdk : d * k ≤ 4 * 12 := Nat.mul_le_mul (by omega) (by omega)
      simp (disch := omega) only [s_le, s_lt, s_eq, s_eq0, s_in, s_ix, s_rm, s_div, s_pdlt, s_pdle, s_lepd, s_pdpd, s_pdlepd, s_pdadd, nI_add, pk_mul, pd_succ, Nat.not_lt_zero, Nat.zero_lt_succ, not_false_eq_true, not_true_eq_false, false_implies, true_implies, implies_true, and_true, true_and, Nat.reduceLT, Nat.reduceLeDiff, Nat.reduceAdd, Nat.reduceSub, Nat.zero_add, Nat.add_zero]
      refine ⟨fun z4 => ?_, fun z4 => ⟨fun z5 => absurd z5 (by omega), fun _ => ⟨fun z5 => ?_, fun z5 => ⟨fun z6 => absurd z6 (by omega), fun _ => ⟨fun z6 => ?_, fun z6 => ?_⟩⟩⟩⟩⟩
      · rw [if_pos (by omega)] at hK; exact hK
      · rw [if_pos (by omega)] at hK; exact hK
      · rw [if_neg (by omega)] at hK
        exact p_sumOfPowers hE.1 (by omega) (by omega) z6 hK
      · rw [if_pos (by omega)] at hK; exact hK
    · rw [if_neg c2] at hK
      simp (disch := omega) only [s_le, s_lt, s_eq, s_eq0, s_in, s_ix, s_rm, s_div, s_pdlt, s_pdle, s_lepd, s_pdpd, s_pdlepd, s_pdadd, nI_add, pk_mul, pd_succ, Nat.not_lt_zero, Nat.zero_lt_succ, not_false_eq_true, not_true_eq_false, false_implies, true_implies, implies_true, and_true, true_and, Nat.reduceLT, Nat.reduceLeDiff, Nat.reduceAdd, Nat.reduceSub, Nat.zero_add, Nat.add_zero]
      exact ⟨fun _ => hK, fun _ => ⟨fun _ => hK, fun _ => ⟨fun _ => hK, fun _ => ⟨fun _ => hK, fun z4 => absurd (show 4 < d by omega) z4⟩⟩⟩⟩
  · rw [if_neg c1] at hK
    simp (disch := omega) only [s_le, s_lt, s_eq, s_eq0, s_in, s_ix, s_rm, s_div, s_pdlt, s_pdle, s_lepd, s_pdpd, s_pdlepd, s_pdadd, nI_add, pk_mul, pd_succ, Nat.not_lt_zero, Nat.zero_lt_succ, not_false_eq_true, not_true_eq_false, false_implies, true_implies, implies_true, and_true, true_and, Nat.reduceLT, Nat.reduceLeDiff, Nat.reduceAdd, Nat.reduceSub, Nat.zero_add, Nat.add_zero]
    exact ⟨fun _ => hK, fun _ => ⟨fun _ => hK, fun z4 => absurd (show 12 < k by omega) z4⟩⟩
theorem p_symbol (h : CI mo s mi) {v1 v2 : Int32} {K : Int32 → (Nat → Nat → Int32) → (Nat → Nat → Int64) → Prop} (hK : K (fSymbol s v1 v2) mi ml) : wpI G e 154 m_X9_symbol [.ref 0, .int v1, .int v2] (mi, ml, RX y) K := by
  obtain ⟨g, hE⟩ := h.en
  unfold fSymbol at hK
  apply e_X9_symbol
  refine q_holds hE.1 (fun a ha hv hlt => ?_) (fun hno => ?_)
  · rw [ha] at hK
    refine ⟨fun z => absurd z (by decide), fun _ => q_holds hE.1 (fun b hb hvb hltb => ?_) (fun hno => ?_)⟩
    · rw [hb] at hK
      replace hK : K (if fst (aq (cN s)) b = 1 ∧ 2 ≤ ln (aq (cN s)) 13 b ∧ ln (aq (cN s)) 13 b ≤ 7 then nI (sym (aq (cN s)) a b) else NONE) mi ml := hK
      have hl := ln_le (aq (cN s)) 13 b
      subst hv
      subst hvb
      refine ⟨fun z => absurd z (by decide), fun _ => p_isMonic hE.1 hltb (fun z1 => ⟨fun _ => p_degree hE.1 hltb ?_, fun z => absurd z (by decide)⟩) (fun z1 => ⟨fun z => absurd rfl z, fun _ => ?_⟩)⟩
      · simp (disch := omega) only [s_le, s_lt, s_eq, s_eq0, s_in, s_ix, s_rm, s_div, s_pdlt, s_pdle, s_lepd, s_pdpd, s_pdlepd, s_pdadd, nI_add, pk_mul, pd_succ, Nat.not_lt_zero, Nat.zero_lt_succ, not_false_eq_true, not_true_eq_false, false_implies, true_implies, implies_true, and_true, true_and, Nat.reduceLT, Nat.reduceLeDiff, Nat.reduceAdd, Nat.reduceSub, Nat.zero_add, Nat.add_zero]
        refine ⟨fun z2 => ?_, fun z2 => ⟨fun z3 => ?_, fun z3 => ?_⟩⟩
        · rw [if_neg (by omega)] at hK; exact hK
        · rw [if_pos (by omega)] at hK
          exact p_symbolOver hE.1 hlt hltb hK
        · rw [if_neg (by omega)] at hK; exact hK
      · rw [if_neg (fun z => z1 z.1)] at hK
        exact hK
    · rw [hno] at hK
      exact ⟨fun _ => hK, fun z => absurd rfl z⟩
  · rw [hno] at hK
    exact ⟨fun _ => hK, fun z => absurd rfl z⟩
theorem p_factors (h : CI mo s mi) {v1 v2 : Int32} {K : Int32 → (Nat → Nat → Int32) → (Nat → Nat → Int64) → Prop} (hK : ∀ mi1, CI mo s mi1 → K (fFactors s v1 v2) mi1 ml) : wpI G e 154 m_X9_factors [.ref 0, .int v1, .int v2] (mi, ml, RX y) K := by
  obtain ⟨g, hE⟩ := h.en
  have h31 := pow_lt31 (M := 13) hE.1.1 (Nat.le_refl _)
  unfold fFactors at hK
  apply e_X9_factors
  refine q_holds hE.1 (fun a ha hv hlt => ?_) (fun hno => ?_)
  · rw [ha] at hK
    replace hK : ∀ mi1, CI mo s mi1 → K (if a = 0 ∨ ¬ NONE ≤ v2 then NONE else if v2 = NONE then nI (fnd (aq (cN s)) a).1 else match asN (fnd (aq (cN s)) a).1 v2 with
      | none => NONE
      | some i => nI ((fnd (aq (cN s)) a).2 i)) mi1 ml := hK
    subst hv
    refine ⟨fun z => absurd z (by decide), fun _ => ?_⟩
    rw [s_eq (by omega) (by omega)]
    refine ⟨fun z => ?_, fun z => ⟨fun z2 => ?_, fun z2 => ?_⟩⟩
    · rw [if_pos (Or.inl z)] at hK; exact hK mi h
    · rw [if_neg (fun z3 => z3.elim z (fun z4 => z4 z2))] at hK
      refine p_find hE.1 hlt (by omega) (fun mi1 ho1 hFd => ?_)
      have hL := hFd.2.1
      have hK1 := hK mi1 (h.off (fun o oo => ho1 o (by omega) (by omega) (by omega)))
      refine ⟨fun c => ?_, fun c => ?_⟩
      · rw [if_neg c] at hK1
        have hnn : ¬ v2 < 0 := by
          intro z3
          have h1 : (-(nI 1)) ≤ v2 := z2
          rw [Int32.le_iff_toInt_le] at h1
          rw [Int32.lt_iff_toInt_lt] at z3
          have h2 : (-(nI 1)).toInt = -1 := by decide
          have h3 : (0 : Int32).toInt = 0 := by decide
          have h4 : v2.toInt = -1 := by omega
          exact c (Int32.toInt_inj.mp (by rw [h4, h2]))
        obtain ⟨j, hj, rfl⟩ := nI_of hnn
        rw [asN_nI hj] at hK1
        refine p_many hFd ?_
        simp (disch := omega) only [s_le, s_lt, s_eq, s_eq0, s_in, s_ix, s_rm, s_div, s_pdlt, s_pdle, s_lepd, s_pdpd, s_pdlepd, s_pdadd, nI_add, pk_mul, pd_succ, Nat.not_lt_zero, Nat.zero_lt_succ, not_false_eq_true, not_true_eq_false, false_implies, true_implies, implies_true, and_true, true_and, Nat.reduceLT, Nat.reduceLeDiff, Nat.reduceAdd, Nat.reduceSub, Nat.zero_add, Nat.add_zero]
        refine ⟨fun z3 => ?_, fun z3 => p_get hFd hj ?_⟩
        · rw [if_neg (by omega)] at hK1
          exact hK1
        · rw [if_pos (by omega)] at hK1 ⊢
          exact hK1
      · rw [if_pos c] at hK1
        exact p_many hFd hK1
    · rw [if_pos (Or.inr z2)] at hK; exact hK mi h
  · rw [hno] at hK
    exact ⟨fun _ => hK mi h, fun z => absurd rfl z⟩
theorem p_undo (h : CI mo s mi) {K : Int32 → (Nat → Nat → Int32) → (Nat → Nat → Int64) → Prop} (hK : ∀ mi1, CI mo (fUndo s).2 mi1 → K (fUndo s).1 mi1 ml) : wpI G e 154 m_X9_undo [.ref 0] (mi, ml, RX y) K := by
  obtain ⟨⟨g1, num, S, -, hR⟩, hN, -, hSN, -⟩ := id h
  obtain ⟨p, t1, t2, t3, t4, t5, t6, t7, t8⟩ := id hSN
  unfold fUndo at hK
  apply e_X9_undo
  refine p_undoLatest hN (by omega) t6 (fun z => ?_) (fun z mi1 ho1 hS1 => ?_)
  · rw [if_pos z] at hK
    exact hK mi h
  · rw [if_neg (by omega)] at hK
    exact hK mi1 (h.newN (fun o a b => ho1 o (by omega) (by omega)) ⟨num, S, hR.off (fun o o1 o2 => ho1 o (by omega) (by omega))⟩ hS1 rfl rfl ⟨p, t1, by show adn (cN s) - 1 ≤ aal (cN s); omega, t3, t4, t5, t6, t7, t8⟩)
theorem p_redo (h : CI mo s mi) {K : Int32 → (Nat → Nat → Int32) → (Nat → Nat → Int64) → Prop} (hK : ∀ mi1, CI mo (fRedo s).2 mi1 → K (fRedo s).1 mi1 ml) : wpI G e 154 m_X9_redo [.ref 0] (mi, ml, RX y) K := by
  obtain ⟨⟨g1, num, S, -, hR⟩, hN, -, hSN, -⟩ := id h
  obtain ⟨p, t1, t2, t3, t4, t5, t6, t7, t8⟩ := id hSN
  unfold fRedo at hK
  apply e_X9_redo
  refine p_redoLatest hN t3 t6 (fun z => ?_) (by omega) (fun z mi1 ho1 hS1 => ?_)
  · rw [if_pos z] at hK
    exact hK mi h
  · rw [if_neg (by omega)] at hK
    exact hK mi1 (h.newN (fun o a b => ho1 o (by omega) (by omega)) ⟨num, S, hR.off (fun o o1 o2 => ho1 o (by omega) (by omega))⟩ hS1 rfl rfl ⟨p, t1, by show adn (cN s) + 1 ≤ aal (cN s); omega, t3, t4, t5, t6, t7, t8⟩)
theorem p_image (h : CI mo s mi) {K : Int32 → (Nat → Nat → Int32) → (Nat → Nat → Int64) → Prop} (hK : ∀ mi1, CI mo (fImage s).2 mi1 → K (fImage s).1 mi1 ml) : wpI G e 154 m_X9_image [.ref 0] (mi, ml, RX y) K := by
  obtain ⟨⟨g1, num, S, hE, hR⟩, hN, hKp, hSN, hSK, hT⟩ := id h
  have h10 := h.ten
  obtain ⟨p, t1, t2, t3, t4, t5, t6, t7, t8⟩ := id hSN
  apply e_X9_image
  refine p_copyOf_k hN t6 (by omega) (by omega) (fun mi1 ho1 hS1 => ?_)
  apply e_X6_steps
  have e3 : mi1 96 3 = nI (adn (cN s)) := by rw [ho1 96 (by omega)]; exact hN.2.2.2.1
  rw [e3]
  exact hK mi1 ⟨⟨g1, num, S, hE.off (fun o o1 o2 => ho1 o (by omega)), hR.off (fun o o1 o2 => ho1 o (by omega))⟩, hN.off (fun o o1 o2 => ho1 o (by omega)), hS1, hSN, hSN, TI.off (s := s) hT (ho1 0 (by omega)) (fun o o1 o2 => ho1 o (by omega)) (fun o o1 => ho1 o (by omega))⟩
theorem p_back (h : CI mo s mi) {K : Int32 → (Nat → Nat → Int32) → (Nat → Nat → Int64) → Prop} (hK : ∀ mi1, CI mo (fBack s).2 mi1 → K (fBack s).1 mi1 ml) : wpI G e 154 m_X9_back [.ref 0] (mi, ml, RX y) K := by
  obtain ⟨⟨g1, num, S, hE, hR⟩, hN, hKp, hSN, hSK, hT⟩ := id h
  obtain ⟨p, t1, t2, t3, t4, t5, t6, t7, t8⟩ := id hSK
  have k0 := kc_le (ks := aks (cK s)) (b := 0) t2
  have k1 := kc_le (ks := aks (cK s)) (b := 1) t2
  apply e_X9_back
  refine p_copyOf hKp t6 (by omega) (by omega) (fun mi1 ho1 hS1 => ?_)
  apply e_X6_base
  rw [show mi1 96 0 = _ from hS1.1]
  refine p_setBase p.1.1 (fun mi2 ho2 hF2 => ?_)
  apply e_X6_modulus
  have e1 : mi2 96 1 = nI (am (cK s)) := by rw [ho2 96 (by omega) (by omega)]; exact hS1.2.1
  rw [e1]
  refine p_setWorld p hF2 (fun g3 mi3 ho3 hE3 => ?_)
  apply e_X6_steps
  have hall : ∀ o, (o = 0 ∨ 6 < o) → (o < 96 ∨ 120 < o) → mi3 o = mi o := fun o a b => by rw [ho3 o (by omega) (by omega) (by omega) (by omega), ho2 o (by omega) (by omega), ho1 o (by omega)]
  have hS3 : SM 96 (cK s) mi3 := (hS1.off (fun o o1 o2 => ho2 o (by omega) (by omega))).off (fun o o1 o2 => ho3 o (by omega) (by omega) (by omega) (by omega))
  rw [show mi3 96 3 = _ from hS3.2.2.2.1]
  exact hK mi3 ⟨⟨g3, num, S, hE3, hR.off (fun o o1 o2 => hall o (by omega) (by omega))⟩, hS3, hKp.off (fun o o1 o2 => hall o (by omega) (by omega)), hSK, hSK, TI.off (s := s) hT (hall 0 (by omega) (by omega)) (fun o o1 o2 => hall o (by omega) (by omega)) (fun o o1 => hall o (by omega) (by omega))⟩
theorem p_count (h : CI mo s mi) {v : Int32} {K : Int32 → (Nat → Nat → Int32) → (Nat → Nat → Int64) → Prop} (hK : K (fCount s v) mi ml) : wpI G e 154 m_X9_count [.ref 0, .int v] (mi, ml, RX y) K := by
  obtain ⟨⟨g1, num, S, hE, hR⟩, hN, hKp, hSN, hSK, hT⟩ := id h
  obtain ⟨n0, n1, n2, n3, n4, -⟩ := id hN
  unfold fCount at hK
  apply e_X9_count
  refine ⟨fun z => ?_, fun z0 => ⟨fun z => ?_, fun z1 => ⟨fun z => ?_, fun z2 => ⟨fun z => ?_, fun z3 => ⟨fun z => ?_, fun z4 => ⟨fun z => ?_, fun z5 => ⟨fun z => ?_, fun z6 => ⟨fun z => ?_, fun z7 => ⟨fun z => ?_, fun z8 => ⟨fun z => ?_, fun z9 => ?_⟩⟩⟩⟩⟩⟩⟩⟩⟩⟩
  · rw [if_pos z] at hK; exact p_base hE.1 hK
  · rw [if_neg z0, if_pos z] at hK; exact p_rmodulus hE.2.1 hK
  · rw [if_neg z0, if_neg z1, if_pos z] at hK; exact p_rdegree hE.2.1 hK
  · rw [if_neg z0, if_neg z1, if_neg z2, if_pos z] at hK; exact p_rsize hE.2.1 hK
  · rw [if_neg z0, if_neg z1, if_neg z2, if_neg z3, if_pos z] at hK; exact p_smany0 hN hK
  · rw [if_neg z0, if_neg z1, if_neg z2, if_neg z3, if_neg z4, if_pos z] at hK; exact p_smany1 hN hK
  · rw [if_neg z0, if_neg z1, if_neg z2, if_neg z3, if_neg z4, if_neg z5, if_pos z] at hK
    apply e_X6_texts
    rw [n2]
    exact hK
  · rw [if_neg z0, if_neg z1, if_neg z2, if_neg z3, if_neg z4, if_neg z5, if_neg z6, if_pos z] at hK
    apply e_X6_steps
    rw [n3]
    exact hK
  · rw [if_neg z0, if_neg z1, if_neg z2, if_neg z3, if_neg z4, if_neg z5, if_neg z6, if_neg z7, if_pos z] at hK
    apply e_X6_undone
    rw [n3, n4, s_sub hSN.2.2.1]
    exact hK
  · rw [if_neg z0, if_neg z1, if_neg z2, if_neg z3, if_neg z4, if_neg z5, if_neg z6, if_neg z7, if_neg z8, if_pos z] at hK
    rw [hT.1]
    exact hK
  · rw [if_neg z0, if_neg z1, if_neg z2, if_neg z3, if_neg z4, if_neg z5, if_neg z6, if_neg z7, if_neg z8, if_neg z9] at hK
    exact hK
end FC4
