/-! the class's face: work .. noughts -/
variable {mo : Nat → Nat → Int32}
def fWork (s : Cst) (v1 v2 v3 : Int32) : Int32 := match asN (nO (cN s)) v2, asN (nO (cN s)) v3 with
  | some a, some b => if v1 = nI 0 then nI (cmb (aq (cN s)) 1 13 a b) else if v1 = nI 1 then nI (cmb (aq (cN s)) (aq (cN s) - 1) 13 a b) else if v1 = nI 2 then nI (mu (aq (cN s)) (am (cN s)) a b) else if v1 = nI 3 then (if b = 0 then NONE else nI (dv (aq (cN s)) (am (cN s)) (nO (cN s)) a b)) else NONE
  | some _, none => NONE
  | none, _ => NONE
def fPoly (s : Cst) (v1 v2 v3 : Int32) : Int32 := match asN (aq (cN s) ^ 13) v2, asN (aq (cN s) ^ 13) v3 with
  | some a, some b => if v1 = nI 0 then nI (cmb (aq (cN s)) 1 13 a b) else if v1 = nI 1 then nI (cmb (aq (cN s)) (aq (cN s) - 1) 13 a b) else if v1 = nI 2 then (if ln (aq (cN s)) 13 a + ln (aq (cN s)) 13 b ≤ 14 then nI (prd (aq (cN s)) a b) else NONE)
    else if v1 = nI 3 then (if b = 0 then NONE else nI (rst (aq (cN s)) a b)) else if v1 = nI 4 then (if b = 0 then NONE else nI (quo (aq (cN s)) a b)) else if v1 = nI 5 then nI (gcn (aq (cN s)) a b) else NONE
  | some _, none => NONE
  | none, _ => NONE
def r4 (a b c d : Nat) : Nat → Nat := fun k => if k = 0 then a else if k = 1 then b else if k = 2 then c else if k = 3 then d else 0
def tellM (s : Cst) (f : Nat → Nat) : Int32 × Cst := if (2 ≤ rl f 25 ∧ rl f 25 ≤ 4) ∧ kc (aks (cN s)) 0 (adn (cN s)) < 10 then (nI (kc (aks (cN s)) 0 (adn (cN s))), (tell0A (cN s) f, s.2)) else (NONE, s)
def tellP (s : Cst) (f : Nat → Nat) : Int32 × Cst := if (1 ≤ rl f 25 ∧ rl f 25 ≤ 8) ∧ kc (aks (cN s)) 1 (adn (cN s)) < 10 then (nI (kc (aks (cN s)) 1 (adn (cN s))), (tell1A (cN s) f, s.2)) else (NONE, s)
def fModule (s : Cst) (v1 v2 v3 v4 : Int32) : Int32 × Cst := match asN (nO (cN s)) v1, asN (nO (cN s)) v2, asN (nO (cN s)) v3, asN (nO (cN s)) v4 with
  | some a, some b, some c, some d => tellM s (r4 a b c d)
  | some _, some _, some _, none => (NONE, s)
  | some _, some _, none, _ => (NONE, s)
  | some _, none, _, _ => (NONE, s)
  | none, _, _, _ => (NONE, s)
def fMap (s : Cst) (v1 v2 v3 : Int32) : Int32 × Cst := match asN (nO (cN s)) v1, asN (nO (cN s)) v2, asN (nO (cN s)) v3 with
  | some a, some b, some c => tellP s (r4 a b c 0)
  | some _, some _, none => (NONE, s)
  | some _, none, _ => (NONE, s)
  | none, _, _ => (NONE, s)
theorem rl_same {f : Nat → Nat} {N M : Nat} (h : rl f N ≤ M) (hMN : M ≤ N) : rl f M = rl f N := by
  induction N with
  | zero =>
    have : M = 0 := by omega
    rw [this]
  | succ N ih =>
    by_cases c : M = N + 1
    · rw [c]
    · have eN : rl f (N + 1) = if f N = 0 then rl f N else N + 1 := rfl
      rw [eN] at h ⊢
      by_cases z : f N = 0
      · rw [if_pos z] at h ⊢
        exact ih h (by omega)
      · rw [if_neg z] at h
        omega
theorem SI_tell0 {A : Ast} {d n : Nat} (h : SI A d n) {f : Nat → Nat} (hf : ∀ k, f k < n) (h1 : 2 ≤ rl f 25) (h2 : rl f 25 ≤ 4) (h10 : kc (aks A) 0 (adn A) < 10) : SI (tell0A A f) d n := by
  obtain ⟨p, t1, t2, t3, t4, t5, t6, t7, t8⟩ := h
  have hle0 := kc_le (ks := aks A) (b := 0) t2
  have hle1 := kc_le (ks := aks A) (b := 1) t2
  have hs := kc_sum t6 (adn A)
  have e0 : kc (up1 (aks A) (adn A) 0) 0 (adn A + 1) = kc (aks A) 0 (adn A) + 1 := by
    show kc (up1 (aks A) (adn A) 0) 0 (adn A) + (if up1 (aks A) (adn A) 0 (adn A) = 0 then 1 else 0) = _
    rw [kc_up (Nat.le_refl _), if_pos (show up1 (aks A) (adn A) 0 (adn A) = 0 from if_pos rfl)]
  have e1 : kc (up1 (aks A) (adn A) 0) 1 (adn A + 1) = kc (aks A) 1 (adn A) := by
    show kc (up1 (aks A) (adn A) 0) 1 (adn A) + (if up1 (aks A) (adn A) 0 (adn A) = 1 then 1 else 0) = _
    have e9 : up1 (aks A) (adn A) 0 (adn A) = 0 := if_pos rfl
    rw [kc_up (Nat.le_refl _), e9, if_neg (by omega)]
    rfl
  refine ⟨p, t1, Nat.le_refl _, by show adn A + 1 ≤ 20; omega, by show kc (up1 (aks A) (adn A) 0) 0 (adn A + 1) ≤ 10; omega, by show kc (up1 (aks A) (adn A) 0) 1 (adn A + 1) ≤ 10; omega, fun i => ?_, fun i hi => ?_, fun i hi => ?_⟩
  · show (if i = adn A then 0 else aks A i) ≤ 1
    split
    · omega
    · exact t6 i
  · have hi2 : i < kc (up1 (aks A) (adn A) 0) 0 (adn A + 1) := hi
    show (∀ k, upR (amd A) (kc (aks A) 0 (adn A)) f i k < n) ∧ 2 ≤ rl (upR (amd A) (kc (aks A) 0 (adn A)) f i) 4
    by_cases c : i = kc (aks A) 0 (adn A)
    · rw [c, upR_eq]
      exact ⟨hf, by rw [rl_same h2 (by omega)]; exact h1⟩
    · rw [upR_ne c]
      exact t7 i (by omega)
  · have hi2 : i < kc (up1 (aks A) (adn A) 0) 1 (adn A + 1) := hi
    exact t8 i (by omega)
theorem SI_tell1 {A : Ast} {d n : Nat} (h : SI A d n) {f : Nat → Nat} (hf : ∀ k, f k < n) (h1 : 1 ≤ rl f 25) (h2 : rl f 25 ≤ 8) (h10 : kc (aks A) 1 (adn A) < 10) : SI (tell1A A f) d n := by
  obtain ⟨p, t1, t2, t3, t4, t5, t6, t7, t8⟩ := h
  have hle0 := kc_le (ks := aks A) (b := 0) t2
  have hle1 := kc_le (ks := aks A) (b := 1) t2
  have hs := kc_sum t6 (adn A)
  have e9 : up1 (aks A) (adn A) 1 (adn A) = 1 := if_pos rfl
  have e0 : kc (up1 (aks A) (adn A) 1) 0 (adn A + 1) = kc (aks A) 0 (adn A) := by
    show kc (up1 (aks A) (adn A) 1) 0 (adn A) + (if up1 (aks A) (adn A) 1 (adn A) = 0 then 1 else 0) = _
    rw [kc_up (Nat.le_refl _), e9, if_neg (by omega)]
    rfl
  have e1 : kc (up1 (aks A) (adn A) 1) 1 (adn A + 1) = kc (aks A) 1 (adn A) + 1 := by
    show kc (up1 (aks A) (adn A) 1) 1 (adn A) + (if up1 (aks A) (adn A) 1 (adn A) = 1 then 1 else 0) = _
    rw [kc_up (Nat.le_refl _), e9, if_pos rfl]
  refine ⟨p, t1, Nat.le_refl _, by show adn A + 1 ≤ 20; omega, by show kc (up1 (aks A) (adn A) 1) 0 (adn A + 1) ≤ 10; omega, by show kc (up1 (aks A) (adn A) 1) 1 (adn A + 1) ≤ 10; omega, fun i => ?_, fun i hi => ?_, fun i hi => ?_⟩
  · show (if i = adn A then 1 else aks A i) ≤ 1
    split
    · omega
    · exact t6 i
  · have hi2 : i < kc (up1 (aks A) (adn A) 1) 0 (adn A + 1) := hi
    exact t7 i (by omega)
  · have hi2 : i < kc (up1 (aks A) (adn A) 1) 1 (adn A + 1) := hi
    show (∀ k, upR (amp A) (kc (aks A) 1 (adn A)) f i k < n) ∧ 1 ≤ rl (upR (amp A) (kc (aks A) 1 (adn A)) f i) 8
    by_cases c : i = kc (aks A) 1 (adn A)
    · rw [c, upR_eq]
      exact ⟨hf, by rw [rl_same h2 (by omega)]; exact h1⟩
    · rw [upR_ne c]
      exact t8 i (by omega)
section FC2
variable {G : GC} {e : Nat} {mi : Nat → Nat → Int32} {ml : Nat → Nat → Int64} {y : Nat → Nat → Option Nat} {s : Cst}
theorem p_work (h : CI mo s mi) {v1 v2 v3 : Int32} {K : Int32 → (Nat → Nat → Int32) → (Nat → Nat → Int64) → Prop} (hK : K (fWork s v1 v2 v3) mi ml) : wpI G e 154 m_X9_work [.ref 0, .int v1, .int v2, .int v3] (mi, ml, RX y) K := by
  obtain ⟨g, hE⟩ := h.en
  have w := hE.w
  have hn128 : nO (cN s) ≤ 128 := w.2.2.2.2.2.2
  unfold fWork at hK
  apply e_X9_work
  refine q_rholds hE (fun a ha hv hlt => ?_) (fun hno => ?_)
  · rw [ha] at hK
    refine ⟨fun z => absurd z (by decide), fun _ => q_rholds hE (fun b hb hvb hltb => ?_) (fun hno => ?_)⟩
    · rw [hb] at hK
      replace hK : K (if v1 = nI 0 then nI (cmb (aq (cN s)) 1 13 a b) else if v1 = nI 1 then nI (cmb (aq (cN s)) (aq (cN s) - 1) 13 a b) else if v1 = nI 2 then nI (mu (aq (cN s)) (am (cN s)) a b) else if v1 = nI 3 then (if b = 0 then NONE else nI (dv (aq (cN s)) (am (cN s)) (nO (cN s)) a b)) else NONE) mi ml := hK
      subst hv
      subst hvb
      refine ⟨fun _ => ⟨fun z => ?_, fun z0 => ⟨fun z => ?_, fun z1 => ⟨fun z => ?_, fun z2 => ⟨fun z => ⟨fun zb => ?_, fun zb => ?_⟩, fun z3 => ?_⟩⟩⟩⟩, fun z => absurd z (by decide)⟩
      · rw [if_pos z] at hK
        exact p_sum hE.1 (w.lt13 hlt) (w.lt13 hltb) hK
      · rw [if_neg z0, if_pos z] at hK
        exact p_difference hE.1 (w.lt13 hlt) (w.lt13 hltb) hK
      · rw [if_neg z0, if_neg z1, if_pos z] at hK
        exact p_mu hE hlt hltb hK
      · rw [s_eq (by omega) (by omega)] at zb
        rw [if_neg z0, if_neg z1, if_neg z2, if_pos z, if_neg zb] at hK
        exact p_dv hE hlt hltb hK
      · rw [s_eq (by omega) (by omega)] at zb
        rw [if_neg z0, if_neg z1, if_neg z2, if_pos z, if_pos zb] at hK
        exact hK
      · rw [if_neg z0, if_neg z1, if_neg z2, if_neg z3] at hK
        exact hK
    · rw [hno] at hK
      exact ⟨fun z => absurd rfl z, fun _ => hK⟩
  · rw [hno] at hK
    exact ⟨fun _ => hK, fun z => absurd rfl z⟩
theorem p_poly (h : CI mo s mi) {v1 v2 v3 : Int32} {K : Int32 → (Nat → Nat → Int32) → (Nat → Nat → Int64) → Prop} (hK : K (fPoly s v1 v2 v3) mi ml) : wpI G e 154 m_X9_poly [.ref 0, .int v1, .int v2, .int v3] (mi, ml, RX y) K := by
  obtain ⟨g, hE⟩ := h.en
  have w := hE.w
  have h31 := pow_lt31 (M := 13) hE.1.1 (Nat.le_refl _)
  unfold fPoly at hK
  apply e_X9_poly
  refine q_holds hE.1 (fun a ha hv hlt => ?_) (fun hno => ?_)
  · rw [ha] at hK
    refine ⟨fun z => absurd z (by decide), fun _ => q_holds hE.1 (fun b hb hvb hltb => ?_) (fun hno => ?_)⟩
    · rw [hb] at hK
      replace hK : K (if v1 = nI 0 then nI (cmb (aq (cN s)) 1 13 a b) else if v1 = nI 1 then nI (cmb (aq (cN s)) (aq (cN s) - 1) 13 a b) else if v1 = nI 2 then (if ln (aq (cN s)) 13 a + ln (aq (cN s)) 13 b ≤ 14 then nI (prd (aq (cN s)) a b) else NONE) else if v1 = nI 3 then (if b = 0 then NONE else nI (rst (aq (cN s)) a b)) else if v1 = nI 4 then (if b = 0 then NONE else nI (quo (aq (cN s)) a b)) else if v1 = nI 5 then nI (gcn (aq (cN s)) a b) else NONE) mi ml := hK
      subst hv
      subst hvb
      refine ⟨fun _ => ⟨fun z => ?_, fun z0 => ⟨fun z => ?_, fun z1 => ⟨fun z => ?_, fun z2 => ⟨fun z => ⟨fun zb => ?_, fun zb => ?_⟩, fun z3 => ⟨fun z => ⟨fun zb => ?_, fun zb => ?_⟩, fun z4 => ⟨fun z => ?_, fun z5 => ?_⟩⟩⟩⟩⟩⟩, fun z => absurd z (by decide)⟩
      · rw [if_pos z] at hK
        exact p_sum hE.1 hlt hltb hK
      · rw [if_neg z0, if_pos z] at hK
        exact p_difference hE.1 hlt hltb hK
      · rw [if_neg z0, if_neg z1, if_pos z] at hK
        refine p_fits hE.1 hlt hltb (fun c => ?_) (fun c => ?_)
        · rw [if_pos c] at hK
          exact ⟨fun z2 => absurd z2 (by decide), fun _ => p_product hE.1 hlt hltb c hK⟩
        · rw [if_neg (by omega)] at hK
          exact ⟨fun _ => hK, fun z2 => absurd rfl z2⟩
      · rw [s_eq (by omega) (by omega)] at zb
        rw [if_neg z0, if_neg z1, if_neg z2, if_pos z, if_neg zb] at hK
        exact p_rest hE.1 hlt hltb (by omega) hK
      · rw [s_eq (by omega) (by omega)] at zb
        rw [if_neg z0, if_neg z1, if_neg z2, if_pos z, if_pos zb] at hK
        exact hK
      · rw [s_eq (by omega) (by omega)] at zb
        rw [if_neg z0, if_neg z1, if_neg z2, if_neg z3, if_pos z, if_neg zb] at hK
        exact p_quotient hE.1 hlt hltb (by omega) hK
      · rw [s_eq (by omega) (by omega)] at zb
        rw [if_neg z0, if_neg z1, if_neg z2, if_neg z3, if_pos z, if_pos zb] at hK
        exact hK
      · rw [if_neg z0, if_neg z1, if_neg z2, if_neg z3, if_neg z4, if_pos z] at hK
        exact p_common hE.1 hlt hltb hK
      · rw [if_neg z0, if_neg z1, if_neg z2, if_neg z3, if_neg z4, if_neg z5] at hK
        exact hK
    · rw [hno] at hK
      exact ⟨fun z => absurd rfl z, fun _ => hK⟩
  · rw [hno] at hK
    exact ⟨fun _ => hK, fun z => absurd rfl z⟩
/-- what now stands for A1 -/
theorem CI.newN (h : CI mo s mi) {mi1 : Nat → Nat → Int32} {A1 : Ast} (ho : ∀ o, (o < 7 ∨ (94 < o ∧ o ≠ 153)) → (o < 96 ∨ 120 < o) → mi1 o = mi o) (hR : ∃ num S, Rdi num S mi1) (hS : SM 96 A1 mi1) (hq : aq A1 = aq (cN s)) (hm : am A1 = am (cN s)) (hI : SI A1 (dO (cN s)) (nO (cN s))) : CI mo (A1, s.2) mi1 := by
  obtain ⟨⟨g, num, S, h1, h2⟩, h3, h4, h5, h6, h7⟩ := h
  obtain ⟨num1, S1, hR1⟩ := hR
  have hd : dO A1 = dO (cN s) := by unfold dO; rw [hq, hm]
  have hn : nO A1 = nO (cN s) := by unfold nO; rw [hq, hd]
  refine ⟨⟨g, num1, S1, ?_, hR1⟩, hS, h4.off (fun o o1 o2 => ho o (by omega) (by omega)), ?_, h6, TI.off h7 (ho 0 (by omega) (by omega)) (fun o o1 o2 => ho o (by omega) (by omega)) (fun o o1 => ho o (by omega) (by omega))⟩
  · show En (aq A1) (am A1) (dO A1) (nO A1) g mi1
    rw [hd, hn, hq, hm]
    exact h1.off (fun o o1 o2 => ho o (by omega) (by omega))
  · show SI A1 (dO A1) (nO A1)
    rw [hd, hn]
    exact hI
theorem q_tellM (h : CI mo s mi) {c : Nat} (hc : isR c) (c25 : an c = 25) (hc96 : c < 96 ∨ 120 < c) {f : Nat → Nat} (hf : Rw (nO (cN s)) mi c f) {K : Int32 → (Nat → Nat → Int32) → (Nat → Nat → Int64) → Prop} (hK : ∀ mi1, (∀ o, (o < 96 ∨ 120 < o) → mi1 o = mi o) → CI mo (tellM s f).2 mi1 → K (tellM s f).1 mi1 ml) : wpI G e 154 m_X6_tell [.ref 96, .int (nI 0), .ref c] (mi, ml, RX y) K := by
  obtain ⟨g, hE⟩ := h.en
  have hn128 : nO (cN s) ≤ 128 := hE.w.2.2.2.2.2.2
  obtain ⟨⟨g1, num, S, -, hR⟩, hN, -, hSN, -⟩ := id h
  have h10 := h.ten
  unfold tellM at hK
  refine p_tell0 hN hSN.2.2.2.2.2.2.1 h10.1 h10.2 hn128 hc c25 hc96 hf (fun z => ?_) (fun z1 z2 mi1 ho1 hS1 => ?_)
  · rw [if_neg z] at hK
    exact hK mi (fun _ _ => rfl) h
  · rw [if_pos ⟨z1, z2⟩] at hK
    exact hK mi1 ho1 (h.newN (fun o a b => ho1 o b) ⟨num, S, hR.off (fun o o1 o2 => ho1 o (by omega))⟩ hS1 rfl rfl (SI_tell0 hSN hf.2.2 z1.1 z1.2 z2))
theorem q_tellP (h : CI mo s mi) {c : Nat} (hc : isR c) (c25 : an c = 25) (hc96 : c < 96 ∨ 120 < c) {f : Nat → Nat} (hf : Rw (nO (cN s)) mi c f) {K : Int32 → (Nat → Nat → Int32) → (Nat → Nat → Int64) → Prop} (hK : ∀ mi1, (∀ o, (o < 96 ∨ 120 < o) → mi1 o = mi o) → CI mo (tellP s f).2 mi1 → K (tellP s f).1 mi1 ml) : wpI G e 154 m_X6_tell [.ref 96, .int (nI 1), .ref c] (mi, ml, RX y) K := by
  obtain ⟨g, hE⟩ := h.en
  have hn128 : nO (cN s) ≤ 128 := hE.w.2.2.2.2.2.2
  obtain ⟨⟨g1, num, S, -, hR⟩, hN, -, hSN, -⟩ := id h
  have h10 := h.ten
  unfold tellP at hK
  refine p_tell1 hN hSN.2.2.2.2.2.2.1 h10.1 h10.2 hn128 hc c25 hc96 hf (fun z => ?_) (fun z1 z2 mi1 ho1 hS1 => ?_)
  · rw [if_neg z] at hK
    exact hK mi (fun _ _ => rfl) h
  · rw [if_pos ⟨z1, z2⟩] at hK
    exact hK mi1 ho1 (h.newN (fun o a b => ho1 o b) ⟨num, S, hR.off (fun o o1 o2 => ho1 o (by omega))⟩ hS1 rfl rfl (SI_tell1 hSN hf.2.2 z1.1 z1.2 z2))
theorem p_putRow {n a b c d : Nat} (hn : n ≤ 128) (ha : a < n) (hb : b < n) (hc : c < n) (hd : d < n) {K : (Nat → Nat → Int32) → (Nat → Nat → Int64) → Prop} (hK : ∀ mi1, (∀ o, o ≠ 153 → mi1 o = mi o) → Rw n mi1 153 (r4 a b c d) → K mi1 ml) : wpV G e 154 m_X9_putRow [.ref 0, .int (nI a), .int (nI b), .int (nI c), .int (nI d)] (mi, ml, RX y) K := by
  obtain ⟨-, -, -, -, r153, l153⟩ := rowK
  apply e_X9_putRow
  refine p_clear r153 (fun mi1 ho1 hr1 => ?_)
  simp (disch := omega) only [s_le, s_lt, s_eq, s_eq0, s_in, s_ix, s_rm, s_div, s_pdlt, s_pdle, s_lepd, s_pdpd, s_pdlepd, s_pdadd, nI_add, pk_mul, pd_succ, Nat.not_lt_zero, Nat.zero_lt_succ, not_false_eq_true, not_true_eq_false, false_implies, true_implies, implies_true, and_true, true_and, Nat.reduceLT, Nat.reduceLeDiff, Nat.reduceAdd, Nat.reduceSub, Nat.zero_add, Nat.add_zero]
  refine hK _ (fun o h => by rw [u2_off h, u2_off h, u2_off h, u2_off h]; exact ho1 o h) ⟨fun k hk => ?_, fun k hk => ?_, fun k => ?_⟩
  · rcases (show k = 0 ∨ k = 1 ∨ k = 2 ∨ k = 3 ∨ 4 ≤ k by omega) with rfl | rfl | rfl | rfl | z
    · rfl
    · rfl
    · rfl
    · rfl
    · rw [u2_ne (by omega), u2_ne (by omega), u2_ne (by omega), u2_ne (by omega), (hr1 k hk).1]
      unfold r4
      rw [if_neg (by omega), if_neg (by omega), if_neg (by omega), if_neg (by omega)]
  · unfold r4
    rw [if_neg (by omega), if_neg (by omega), if_neg (by omega), if_neg (by omega)]
  · unfold r4
    split
    · exact ha
    split
    · exact hb
    split
    · exact hc
    split
    · exact hd
    · omega
theorem p_module (h : CI mo s mi) {v1 v2 v3 v4 : Int32} {K : Int32 → (Nat → Nat → Int32) → (Nat → Nat → Int64) → Prop} (hK : ∀ mi1, CI mo (fModule s v1 v2 v3 v4).2 mi1 → K (fModule s v1 v2 v3 v4).1 mi1 ml) : wpI G e 154 m_X9_module [.ref 0, .int v1, .int v2, .int v3, .int v4] (mi, ml, RX y) K := by
  obtain ⟨g, hE⟩ := h.en
  have hn128 : nO (cN s) ≤ 128 := hE.w.2.2.2.2.2.2
  obtain ⟨-, -, -, -, r153, l153⟩ := rowK
  unfold fModule at hK
  apply e_X9_module
  refine q_rholds hE (fun a ha hva hla => ?_) (fun hno => ?_)
  · rw [ha] at hK
    refine ⟨fun z => absurd z (by decide), fun _ => q_rholds hE (fun b hb hvb hlb => ?_) (fun hno => ?_)⟩
    · rw [hb] at hK
      refine ⟨fun z => absurd z (by decide), fun _ => q_rholds hE (fun c hc hvc hlc => ?_) (fun hno => ?_)⟩
      · rw [hc] at hK
        refine ⟨fun z => absurd z (by decide), fun _ => q_rholds hE (fun d hd hvd hld => ?_) (fun hno => ?_)⟩
        · rw [hd] at hK
          subst hva
          subst hvb
          subst hvc
          subst hvd
          refine ⟨fun _ => p_putRow hn128 hla hlb hlc hld (fun mi1 ho1 hr1 => ?_), fun z => absurd z (by decide)⟩
          exact q_tellM (h.off (fun o oo => ho1 o (by omega))) r153 l153 (by omega) hr1 (fun mi2 ho2 h2 => hK mi2 h2)
        · rw [hno] at hK
          exact ⟨fun z => absurd rfl z, fun _ => hK mi h⟩
      · rw [hno] at hK
        exact ⟨fun _ => hK mi h, fun z => absurd rfl z⟩
    · rw [hno] at hK
      exact ⟨fun _ => hK mi h, fun z => absurd rfl z⟩
  · rw [hno] at hK
    exact ⟨fun _ => hK mi h, fun z => absurd rfl z⟩
theorem p_map (h : CI mo s mi) {v1 v2 v3 : Int32} {K : Int32 → (Nat → Nat → Int32) → (Nat → Nat → Int64) → Prop} (hK : ∀ mi1, CI mo (fMap s v1 v2 v3).2 mi1 → K (fMap s v1 v2 v3).1 mi1 ml) : wpI G e 154 m_X9_map [.ref 0, .int v1, .int v2, .int v3] (mi, ml, RX y) K := by
  obtain ⟨g, hE⟩ := h.en
  have hn128 : nO (cN s) ≤ 128 := hE.w.2.2.2.2.2.2
  have hn2 := hE.w.n2
  obtain ⟨-, -, -, -, r153, l153⟩ := rowK
  unfold fMap at hK
  apply e_X9_map
  refine q_rholds hE (fun a ha hva hla => ?_) (fun hno => ?_)
  · rw [ha] at hK
    refine ⟨fun z => absurd z (by decide), fun _ => q_rholds hE (fun b hb hvb hlb => ?_) (fun hno => ?_)⟩
    · rw [hb] at hK
      refine ⟨fun z => absurd z (by decide), fun _ => q_rholds hE (fun c hc hvc hlc => ?_) (fun hno => ?_)⟩
      · rw [hc] at hK
        subst hva
        subst hvb
        subst hvc
        refine ⟨fun _ => p_putRow hn128 hla hlb hlc (show 0 < nO (cN s) by omega) (fun mi1 ho1 hr1 => ?_), fun z => absurd z (by decide)⟩
        exact q_tellP (h.off (fun o oo => ho1 o (by omega))) r153 l153 (by omega) hr1 (fun mi2 ho2 h2 => hK mi2 h2)
      · rw [hno] at hK
        exact ⟨fun z => absurd rfl z, fun _ => hK mi h⟩
    · rw [hno] at hK
      exact ⟨fun _ => hK mi h, fun z => absurd rfl z⟩
  · rw [hno] at hK
    exact ⟨fun _ => hK mi h, fun z => absurd rfl z⟩
end FC2
