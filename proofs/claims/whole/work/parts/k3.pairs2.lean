/-! both objects: world, text -/
section PR3
variable {G : GC} {e : Nat} {mi : Nat → Nat → Int32} {ml : Nat → Nat → Int64} {s : Cst} {mo : Nat → Nat → Int32}
theorem wd_same {q q1 m m1 : Nat} {v1 v2 : Int32} (hq : q = 2 ∨ q = 3 ∨ q = 5) (hq1 : q1 = 2 ∨ q1 = 3 ∨ q1 = 5) (h1 : v1 = nI q) (h2 : v2 = nI m) (h3 : v1 = nI q1) (h4 : v2 = nI m1) (hm : m < q ^ 13) (hm1 : m1 < q1 ^ 13) : q1 = q ∧ m1 = m := by
  have a := pow_lt31 (M := 13) hq (Nat.le_refl _)
  have b := pow_lt31 (M := 13) hq1 (Nat.le_refl _)
  refine ⟨(s_eq (by omega) (by omega)).mp (h3.symm.trans h1), (s_eq (by omega) (by omega)).mp (h4.symm.trans h2)⟩
theorem w_world (h : CM s mi) {v1 v2 : Int32} {L : (Nat → Nat → Int32) → (Nat → Nat → Int64) → Prop} (hL : ∀ s1 mi1 ml1, CM s1 mi1 → L mi1 ml1) : wpI G e 168 m_X9_world [.ref 0, .int v1, .int v2] (mi, ml, RX RM) (fun r mi1 ml1 => wpI G e 168 m_X10_world [.ref 154, .int v1, .int v2] (mi1, ml1, RX RM) (fun r2 mi2 ml2 => r2 = r ∧ L mi2 ml2)) := by
  refine wpc_lb rfl (show 154 ≤ 168 by omega) (p_world modOK_is h.1 (fun q m hq e1 e2 hm hmod mi1 hc1 => ?_) (fun hno mi1 hc1 => ?_))
  · have hm1 := h.2.hi hc1.hi
    refine m_world (fun q1 m1 hq1 f1 f2 hmm hmod1 mi2 hw hMw => ?_) (fun hno => absurd hmod (hno q m hq e1 e2 hm))
    obtain ⟨z1, z2⟩ := wd_same hq hq1 e1 e2 f1 f2 hm hmm
    subst z1 z2
    refine ⟨rfl, hL _ mi2 ml ⟨hc1.lo (fun o o1 => hw.1 o (by omega) (by omega) (by omega) (by omega) (by omega)), ?_⟩⟩
    obtain ⟨h1, h2, h3, h4, h5, h6, h7, h8⟩ := hm1
    obtain ⟨w1, w2, w3, w4, w5, w6, w7, w8, w9⟩ := hw
    obtain ⟨b0, b1, b2, b3, b4, b5, b6, b7, b8, b9⟩ := h2
    refine ⟨hMw, ⟨w3, w4, w5, w6, ?_, w7, w8, fun i hi k hk => ?_, fun i hi k hk => ?_, fun i hi => ?_⟩, h3.off (w1 156 (by omega) (by omega) (by omega) (by omega) (by omega)), h4.cg (w2 12 (by omega) (by omega) (by omega) (by omega)) (w1 162 (by omega) (by omega) (by omega) (by omega) (by omega)), by rw [w2 13 (by omega) (by omega) (by omega) (by omega)]; exact h5, by rw [w2 14 (by omega) (by omega) (by omega) (by omega)]; exact h6, fun j hj => ⟨(h7 j hj).1, (h7 j hj).2.cg (w1 157 (by omega) (by omega) (by omega) (by omega) (by omega))⟩, h8.cg (w1 163 (by omega) (by omega) (by omega) (by omega) (by omega)) (fun k k1 k2 => w2 k (by omega) (by omega) (by omega) (by omega))⟩
    · rw [w9 4 (by omega)]
      exact b4
    · rw [w9 _ (by omega)]
      exact b7 i hi k hk
    · rw [w9 _ (by omega)]
      exact b8 i hi k hk
    · rw [w9 _ (by omega)]
      exact b9 i hi
  · have hm1 := h.2.hi hc1.hi
    exact m_world (fun q1 m1 hq1 f1 f2 hmm hmod1 => absurd hmod1 (hno q1 m1 hq1 f1 f2 hmm)) (fun _ mi2 ho => ⟨rfl, hL s mi2 ml (CM.of hc1 hm1 ho.toS)⟩)
theorem MI.txt {mi2 : Nat → Nat → Int32} (h : MI s mi) (ho : offTc (atx (cN s)) mi mi2) (hY : Yd mi2) (h12 : mi2 154 12 = nI 0) : Mw (aq (cN s)) (am (cN s)) (dO (cN s)) (nO (cN s)) mi2 ∧ (∀ A : Ast, aq A = aq (cN s) → am A = am (cN s) → adn A = adn (cN s) → aal A = aal (cN s) → amd A = amd (cN s) → amp A = amp (cN s) → aks A = aks (cN s) → mi2 155 4 = nI (atx A) → Ma 155 A mi2) ∧ Ma 156 (cK s) mi2 ∧ Mt 0 (cTb s) mi2 := by
  obtain ⟨h1, h2, h3, h4, h5, h6, h7, h8⟩ := h
  obtain ⟨o1, o2, o3, o4⟩ := ho
  obtain ⟨t1, t2, t3, t4⟩ := h4
  obtain ⟨b0, b1, b2, b3, b4, b5, b6, b7, b8, b9⟩ := h2
  refine ⟨h1.off ⟨o3 0 (by omega), o3 1 (by omega)⟩ ⟨o2 3 (by omega), o2 4 (by omega)⟩ (o1 158 (by omega) (by omega) (by omega) (by omega)) (o1 159 (by omega) (by omega) (by omega) (by omega)) (o1 160 (by omega) (by omega) (by omega) (by omega)), fun A a1 a2 a3 a4 a5 a6 a7 a8 => ?_, h3.off (o1 156 (by omega) (by omega) (by omega) (by omega)), h12, Nat.zero_le _, fun i hi => ?_, t4⟩
  · refine ⟨by rw [o3 0 (by omega), a1]; exact b0, by rw [o3 1 (by omega), a2]; exact b1, by rw [o3 2 (by omega), a7, a3]; exact b2, by rw [o3 3 (by omega), a7, a3]; exact b3, a8, by rw [o3 5 (by omega), a3]; exact b5, by rw [o3 6 (by omega), a4]; exact b6, fun i hi k hk => ?_, fun i hi k hk => ?_, fun i hi => ?_⟩
    · rw [o3 _ (by omega), a5]
      exact b7 i hi k hk
    · rw [o3 _ (by omega), a6]
      exact b8 i hi k hk
    · rw [o3 _ (by omega), a7]
      exact b9 i hi
  · rw [o1 162 (by omega) (by omega) (by omega) (by omega)]
    exact t3 i hi
theorem w_text (he : 32 ≤ e) (h : CM s mi) {L : (Nat → Nat → Int32) → (Nat → Nat → Int64) → Prop} (hL : ∀ s1 mi1 ml1, CM s1 mi1 → L mi1 ml1) : wpI G e 168 m_X9_text [.ref 0] (mi, ml, RX RM) (fun r mi1 ml1 => wpI G e 168 m_X10_text [.ref 154] (mi1, ml1, RX RM) (fun r2 mi2 ml2 => r2 = r ∧ L mi2 ml2)) := by
  have hx4 := h.1.si.2.1
  obtain ⟨t1, t2, t3, t4, t5, t6, t7, t8, t9⟩ := h.1.2.2.2.2.2
  refine wpc_lb rfl (show 154 ≤ 168 by omega) (p_text he h.1 (fun num S mi1 hn hc1 => ?_))
  have hm1 := h.2.hi hc1.hi
  have hrp := rTx_p (q := aq (cN s)) (m := am (cN s)) (d := dO (cN s)) (n := nO (cN s)) (tx := cTb s) (len := cTl s) num S
  have h155 : mi1 155 4 = nI (atx (cN s)) := hm1.2.1.2.2.2.2.1
  have hold : ∀ mi2, offTc (atx (cN s)) mi1 mi2 → ∀ j, j ≠ atx (cN s) → (j < atx (cN s) ∨ j < atx (cK s)) → StT j (cXb s j) (cXl s j) mi2 := fun mi2 ho j hj hj2 => by
    have h7 := (hm1.2.2.2.2.2.2.1 j hj2).2
    have hK4 := h.1.2.2.2.2.1.2.1
    have hj4 : j < 4 := by omega
    have hl := rTx_len (tx := cXb s j) (len := cXl s j) (fun i => t8 j i) (v := 0) (by omega) h7.1
    have hl2 := (t7 j hj4).2.1
    refine h7.same (fun k k1 k2 => ho.2.2.2 k (by omega)) (by omega)
  refine m_text (t0 := atx (cN s)) (tx := cTb s) (len := cTl s) hx4 h155 hm1.2.2.2.1 hm1.2.2.2.2.2.2.2 (fun z => ?_) (fun mi2 ml2 z ho hY h12 hz h13 h14 h4 hS => ?_) (fun mi2 ml2 z ho hY h12 hz h13 h14 h4 => ?_)
  · have ee : fText s num S = (NONE, s) := if_pos (by omega)
    rw [ee] at hc1 ⊢
    exact ⟨rfl, hL s mi1 ml ⟨hc1.lo (fun _ _ => rfl), hm1⟩⟩
  · have hz2 : sF (cR s num S) = 0 := hrp.1.trans hz
    have ee : fText s num S = (nI (atx (cN s)), (textA (cN s), cK s, (0, cTb s), (up1 (cXl s) (atx (cN s)) (cTl s), upR (cXb s) (atx (cN s)) (fun i => if i < cTl s then cTb s i else cXb s (atx (cN s)) i)), (nI 0, NONE))) := by
      unfold fText
      rw [if_neg (by omega), if_pos hz2]
    rw [ee] at hc1 ⊢
    obtain ⟨m1, m2, m3, m4⟩ := hm1.txt ho hY h12
    refine ⟨rfl, hL _ mi2 ml2 ⟨hc1.lo (fun o o1 => ho.1 o (by omega) (by omega) (by omega) (by omega)), m1, m2 _ rfl rfl rfl rfl rfl rfl rfl h4, m3, m4, h13, h14, fun j hj => ?_, hY⟩⟩
    have hlt : j < atx (cN s) + 1 := hj.elim id (fun z => Nat.lt_succ_of_lt (hm1.2.2.2.2.2.2.1 j (Or.inr z)).1)
    refine ⟨hlt, ?_⟩
    show StT j (upR (cXb s) (atx (cN s)) (fun i => if i < cTl s then cTb s i else cXb s (atx (cN s)) i) j) (up1 (cXl s) (atx (cN s)) (cTl s) j) mi2
    by_cases c : j = atx (cN s)
    · subst c
      rw [upR_at, show up1 (cXl s) (atx (cN s)) (cTl s) (atx (cN s)) = cTl s from if_pos rfl]
      exact hS.ofx (fun i hi => (if_pos hi).symm)
    · rw [upR_ne c, show up1 (cXl s) (atx (cN s)) (cTl s) j = cXl s j from if_neg c]
      exact hold mi2 ho j c (Or.inl (by omega))
  · have hz2 : ¬ sF (cR s num S) = 0 := fun z2 => hz (hrp.1.symm.trans z2)
    have ee : fText s num S = (NONE, (cN s, cK s, (0, cTb s), s.2.2.2.1, (nI (sF (cR s num S)), nI (sA (cR s num S))))) := by
      unfold fText
      rw [if_neg (by omega), if_neg hz2]
    rw [ee] at hc1 ⊢
    obtain ⟨m1, m2, m3, m4⟩ := hm1.txt ho hY h12
    have e1 : sF (cR s num S) = (rTx (cTb s) (cTl s) 0).1 := hrp.1
    have e2 : sA (cR s num S) = (rTx (cTb s) (cTl s) 0).2.1.2.1 := hrp.2 hz
    refine ⟨rfl, hL _ mi2 ml2 ⟨hc1.lo (fun o o1 => ho.1 o (by omega) (by omega) (by omega) (by omega)), m1, m2 _ rfl rfl rfl rfl rfl rfl rfl h4, m3, m4, by rw [e1]; exact h13, by rw [e2]; exact h14, fun j hj => ?_, hY⟩⟩
    have hj2 : j < atx (cN s) ∨ j < atx (cK s) := hj
    have hlt := (hm1.2.2.2.2.2.2.1 j hj2).1
    exact ⟨hlt, hold mi2 ho j (by omega) hj2⟩
end PR3
