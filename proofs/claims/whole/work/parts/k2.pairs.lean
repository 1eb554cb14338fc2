/-! both objects: calls that change what they stand for -/
section PRS
variable {G : GC} {e : Nat} {mi : Nat → Nat → Int32} {ml : Nat → Nat → Int64} {s : Cst} {mo : Nat → Nat → Int32}
/-- all but the modules and maps kept -/
def kp (s s2 : Cst) : Prop := s2.2 = s.2 ∧ aq (cN s2) = aq (cN s) ∧ am (cN s2) = am (cN s) ∧ atx (cN s2) = atx (cN s)
theorem kp.refl (s : Cst) : kp s s := ⟨rfl, rfl, rfl, rfl⟩
theorem kp.trans {s s2 s3 : Cst} (h : kp s s2) (h1 : kp s2 s3) : kp s s3 := ⟨h1.1.trans h.1, h1.2.1.trans h.2.1, h1.2.2.1.trans h.2.2.1, h1.2.2.2.trans h.2.2.2⟩
theorem tellM_kp (s : Cst) (f : Nat → Nat) : kp s (tellM s f).2 := by
  unfold tellM
  split
  · exact ⟨rfl, rfl, rfl, rfl⟩
  · exact kp.refl s
theorem tellP_kp (s : Cst) (f : Nat → Nat) : kp s (tellP s f).2 := by
  unfold tellP
  split
  · exact ⟨rfl, rfl, rfl, rfl⟩
  · exact kp.refl s
theorem fModule_kp (s : Cst) (v1 v2 v3 v4 : Int32) : kp s (fModule s v1 v2 v3 v4).2 := by
  unfold fModule
  split
  · exact tellM_kp s _
  · exact kp.refl s
  · exact kp.refl s
  · exact kp.refl s
  · exact kp.refl s
theorem fMap_kp (s : Cst) (v1 v2 v3 : Int32) : kp s (fMap s v1 v2 v3).2 := by
  unfold fMap
  split
  · exact tellP_kp s _
  · exact kp.refl s
  · exact kp.refl s
  · exact kp.refl s
theorem fMade_kp (s : Cst) (v1 v2 : Int32) : kp s (fMade s v1 v2).2 := by
  unfold fMade
  split
  · exact tellP_kp s _
  · exact kp.refl s
  · exact kp.refl s
theorem tol_kp {q m d n : Nat} {tx : Nat → Nat} {len : Nat} {R : Int32 × Cst} : ∀ (f k : Nat) (p : PS) (nC : Nat) (c : Cst), tol q m d n tx len f k p nC c = some R → kp c R.2
  | 0, k, p, nC, c, h => by
    have e := Option.some.inj h
    rw [← e]
    exact kp.refl c
  | f + 1, k, p, nC, c, h => by
    unfold tol at h
    split at h
    · rw [← Option.some.inj h]
      exact kp.refl c
    · split at h
      · cases h
      · split at h
        · rw [← Option.some.inj h]
          exact kp.refl c
        · split at h
          · split at h
            · rw [← Option.some.inj h]
              exact kp.refl c
            · exact (tellP_kp c _).trans (tol_kp f _ _ _ _ h)
          · split at h
            · rw [← Option.some.inj h]
              exact kp.refl c
            · exact (tellM_kp c _).trans (tol_kp f _ _ _ _ h)
theorem fTold_kp {s : Cst} {v : Int32} {num : Nat} {S : Nat → Nat → Nat} {R : Int32 × Cst} (h : fTold s v num S = some R) : kp s R.2 := by
  unfold fTold at h
  split at h
  · rw [← Option.some.inj h]
    exact kp.refl s
  · exact tol_kp _ _ _ _ _ h
theorem MI.tell {s2 : Cst} {mi2 : Nat → Nat → Int32} (h : MI s mi) (ho : offL mi mi2) (hMa : Ma 155 (cN s2) mi2) (hk : kp s s2) : MI s2 mi2 := by
  obtain ⟨h1, h2, h3, h4, h5, h6, h7, h8⟩ := h
  obtain ⟨N2, r2⟩ := s2
  obtain ⟨k1, k2, k3, k4⟩ := hk
  have k1' : r2 = s.2 := k1
  subst k1'
  have e : mi2 154 = mi 154 := ho.1 154 (by omega) (by omega)
  have ed : dO N2 = dO (cN s) := by
    unfold dO
    rw [show aq N2 = aq (cN s) from k2, show am N2 = am (cN s) from k3]
  have en : nO N2 = nO (cN s) := by
    unfold nO
    rw [ed, show aq N2 = aq (cN s) from k2]
  refine ⟨?_, hMa, h3.off (ho.1 156 (by omega) (by omega)), h4.cg (by rw [e]) (ho.1 162 (by omega) (by omega)), by rw [e]; exact h5, by rw [e]; exact h6, fun j hj => ?_, h8.cg (ho.1 163 (by omega) (by omega)) (fun k _ _ => by rw [e])⟩
  · show Mw (aq N2) (am N2) (dO N2) (nO N2) mi2
    rw [ed, en, show aq N2 = aq (cN s) from k2, show am N2 = am (cN s) from k3]
    exact h1.offL ho
  · have hj2 : j < atx (cN s) ∨ j < atx (cK s) := by
      rw [← show atx N2 = atx (cN s) from k4]
      exact hj
    refine ⟨?_, (h7 j hj2).2.cg (ho.1 157 (by omega) (by omega))⟩
    have h71 := (h7 j hj2).1
    rw [← show atx N2 = atx (cN s) from k4] at h71
    exact h71
theorem CM.tell {s2 : Cst} {mi1 mi2 : Nat → Nat → Int32} (h : CM s mi) (hc1 : CI mi s2 mi1) (ho : offL mi1 mi2) (hMa : Ma 155 (cN s2) mi2) (hk : kp s s2) : CM s2 mi2 := ⟨hc1.lo (fun o o1 => ho.1 o (by omega) (by omega)), (h.2.hi hc1.hi).tell ho hMa hk⟩
theorem CI.hks (h : CI mo s mi) : ∀ i, aks (cN s) i ≤ 1 := h.si.2.2.2.2.2.2.1
theorem w_module (h : CM s mi) {v1 v2 v3 v4 : Int32} {L : (Nat → Nat → Int32) → (Nat → Nat → Int64) → Prop} (hL : ∀ s1 mi1 ml1, CM s1 mi1 → L mi1 ml1) : wpI G e 168 m_X9_module [.ref 0, .int v1, .int v2, .int v3, .int v4] (mi, ml, RX RM) (fun r mi1 ml1 => wpI G e 168 m_X10_module [.ref 154, .int v1, .int v2, .int v3, .int v4] (mi1, ml1, RX RM) (fun r2 mi2 ml2 => r2 = r ∧ L mi2 ml2)) := by
  refine wpc_lb rfl (show 154 ≤ 168 by omega) (p_module h.1 (fun mi1 hc1 => ?_))
  have hm1 := h.2.hi hc1.hi
  exact m_module (s := s) rfl hm1.1 rfl hm1.2.1 h.1.ten.1 h.1.ten.2 h.1.hks (fun mi2 ho h0 h1 hMa => ⟨rfl, hL _ mi2 ml (h.tell hc1 ⟨ho, h0, h1⟩ hMa (fModule_kp s v1 v2 v3 v4))⟩)
theorem w_map (h : CM s mi) {v1 v2 v3 : Int32} {L : (Nat → Nat → Int32) → (Nat → Nat → Int64) → Prop} (hL : ∀ s1 mi1 ml1, CM s1 mi1 → L mi1 ml1) : wpI G e 168 m_X9_map [.ref 0, .int v1, .int v2, .int v3] (mi, ml, RX RM) (fun r mi1 ml1 => wpI G e 168 m_X10_map [.ref 154, .int v1, .int v2, .int v3] (mi1, ml1, RX RM) (fun r2 mi2 ml2 => r2 = r ∧ L mi2 ml2)) := by
  refine wpc_lb rfl (show 154 ≤ 168 by omega) (p_map h.1 (fun mi1 hc1 => ?_))
  have hm1 := h.2.hi hc1.hi
  exact m_map (s := s) rfl hm1.1 rfl hm1.2.1 h.1.ten.1 h.1.ten.2 h.1.hks (fun mi2 ho h0 h1 hMa => ⟨rfl, hL _ mi2 ml (h.tell hc1 ⟨ho, h0, h1⟩ hMa (fMap_kp s v1 v2 v3))⟩)
theorem w_made (h : CM s mi) {v1 v2 : Int32} {L : (Nat → Nat → Int32) → (Nat → Nat → Int64) → Prop} (hL : ∀ s1 mi1 ml1, CM s1 mi1 → L mi1 ml1) : wpI G e 168 m_X9_made [.ref 0, .int v1, .int v2] (mi, ml, RX RM) (fun r mi1 ml1 => wpI G e 168 m_X10_made [.ref 154, .int v1, .int v2] (mi1, ml1, RX RM) (fun r2 mi2 ml2 => r2 = r ∧ L mi2 ml2)) := by
  refine wpc_lb rfl (show 154 ≤ 168 by omega) (p_made h.1 (fun mi1 hc1 => ?_))
  have hm1 := h.2.hi hc1.hi
  exact m_made madeOK (s := s) rfl hm1.1 rfl rfl rfl rfl hm1.2.1 h.1.ten.1 h.1.ten.2 h.1.hks (fun i hi => h.1.rmo hi) (fun mi2 ho h0 h1 hMa => ⟨rfl, hL _ mi2 ml (h.tell hc1 ⟨ho, h0, h1⟩ hMa (fMade_kp s v1 v2))⟩)
theorem w_told (he : 32 ≤ e) (h : CM s mi) {v : Int32} {L : (Nat → Nat → Int32) → (Nat → Nat → Int64) → Prop} (hL : ∀ s1 mi1 ml1, CM s1 mi1 → L mi1 ml1) : wpI G e 168 m_X9_told [.ref 0, .int v] (mi, ml, RX RM) (fun r mi1 ml1 => wpI G e 168 m_X10_told [.ref 154, .int v] (mi1, ml1, RX RM) (fun r2 mi2 ml2 => r2 = r ∧ L mi2 ml2)) := by
  have hx4 := h.1.si.2.1
  refine wpc_lb rfl (show 154 ≤ 168 by omega) (p_told he h.1 (fun num S hn => ?_))
  obtain ⟨R, hR⟩ := told_some (s := s) (v := v) (num := num) (S := S) (fun j hj => (h.2.2.2.2.2.2.2.1 j (Or.inl (asN_some hj).2.1)).2.1)
  refine ⟨R, hR, fun mi1 hc1 => ?_⟩
  have hm1 := h.2.hi hc1.hi
  obtain ⟨t1, t2, t3, t4, t5, t6, t7, t8, t9⟩ := h.1.2.2.2.2.2
  exact m_told (sq := s) hm1.1 hm1.2.1 h.1.si hx4 (fun i hi hlt => ⟨(hm1.2.2.2.2.2.2.1 i (Or.inl hlt)).2, fun k => t8 i k, (t7 i (by omega)).2.1⟩) hR rfl rfl rfl rfl (fun mi2 ho hMa => ⟨rfl, hL _ mi2 ml (h.tell hc1 ho hMa (fTold_kp hR))⟩)
theorem w_undo (h : CM s mi) {L : (Nat → Nat → Int32) → (Nat → Nat → Int64) → Prop} (hL : ∀ s1 mi1 ml1, CM s1 mi1 → L mi1 ml1) : wpI G e 168 m_X9_undo [.ref 0] (mi, ml, RX RM) (fun r mi1 ml1 => wpI G e 168 m_X10_undo [.ref 154] (mi1, ml1, RX RM) (fun r2 mi2 ml2 => r2 = r ∧ L mi2 ml2)) := by
  obtain ⟨-, -, s3, s4, -⟩ := h.1.si
  refine wpc_lb rfl (show 154 ≤ 168 by omega) (p_undo h.1 (fun mi1 hc1 => ?_))
  have hm1 := h.2.hi hc1.hi
  by_cases z : adn (cN s) = 0
  · have ee : fUndo s = (NONE, s) := if_pos z
    rw [ee] at hc1 ⊢
    exact m_undo hm1.2.1 (by omega) h.1.hks (fun _ => ⟨rfl, hL s mi1 ml ⟨hc1.lo (fun _ _ => rfl), hm1⟩⟩) (fun z1 => absurd z (by omega))
  · have ee : fUndo s = (nI (adn (cN s) - 1), (undoA (cN s), s.2)) := if_neg z
    rw [ee] at hc1 ⊢
    exact m_undo hm1.2.1 (by omega) h.1.hks (fun z1 => absurd z1 z) (fun _ mi2 ho h0 h1 hMa => ⟨rfl, hL _ mi2 ml (h.tell hc1 ⟨fun o o1 _ => ho o o1, h0, h1⟩ hMa ⟨rfl, rfl, rfl, rfl⟩)⟩)
theorem w_redo (h : CM s mi) {L : (Nat → Nat → Int32) → (Nat → Nat → Int64) → Prop} (hL : ∀ s1 mi1 ml1, CM s1 mi1 → L mi1 ml1) : wpI G e 168 m_X9_redo [.ref 0] (mi, ml, RX RM) (fun r mi1 ml1 => wpI G e 168 m_X10_redo [.ref 154] (mi1, ml1, RX RM) (fun r2 mi2 ml2 => r2 = r ∧ L mi2 ml2)) := by
  obtain ⟨-, -, s3, s4, -⟩ := h.1.si
  refine wpc_lb rfl (show 154 ≤ 168 by omega) (p_redo h.1 (fun mi1 hc1 => ?_))
  have hm1 := h.2.hi hc1.hi
  by_cases z : aal (cN s) ≤ adn (cN s)
  · have ee : fRedo s = (NONE, s) := if_pos z
    rw [ee] at hc1 ⊢
    exact m_redo hm1.2.1 (by omega) s3 h.1.hks (fun _ => ⟨rfl, hL s mi1 ml ⟨hc1.lo (fun _ _ => rfl), hm1⟩⟩) (fun z1 => absurd z (by omega))
  · have ee : fRedo s = (nI (adn (cN s) + 1), (redoA (cN s), s.2)) := if_neg z
    rw [ee] at hc1 ⊢
    exact m_redo hm1.2.1 (by omega) s3 h.1.hks (fun z1 => absurd z1 (by omega)) (fun _ mi2 ho h0 h1 hMa => ⟨rfl, hL _ mi2 ml (h.tell hc1 ⟨fun o o1 _ => ho o o1, h0, h1⟩ hMa ⟨rfl, rfl, rfl, rfl⟩)⟩)
theorem w_image (h : CM s mi) {L : (Nat → Nat → Int32) → (Nat → Nat → Int64) → Prop} (hL : ∀ s1 mi1 ml1, CM s1 mi1 → L mi1 ml1) : wpI G e 168 m_X9_image [.ref 0] (mi, ml, RX RM) (fun r mi1 ml1 => wpI G e 168 m_X10_image [.ref 154] (mi1, ml1, RX RM) (fun r2 mi2 ml2 => r2 = r ∧ L mi2 ml2)) := by
  refine wpc_lb rfl (show 154 ≤ 168 by omega) (p_image h.1 (fun mi1 hc1 => ?_))
  have hm1 := h.2.hi hc1.hi
  refine m_image hm1.2.1 (fun mi2 ho hMa => ⟨rfl, hL _ mi2 ml ⟨hc1.lo (fun o o1 => ho o (by omega)), ?_⟩⟩)
  obtain ⟨h1, h2, h3, h4, h5, h6, h7, h8⟩ := hm1
  have e := ho 154 (by omega)
  exact ⟨h1.off (by rw [ho 155 (by omega)]; exact ⟨rfl, rfl⟩) (by rw [e]; exact ⟨rfl, rfl⟩) (ho 158 (by omega)) (ho 159 (by omega)) (ho 160 (by omega)), h2.off (ho 155 (by omega)), hMa, h4.cg (by rw [e]) (ho 162 (by omega)), by rw [e]; exact h5, by rw [e]; exact h6, fun j hj => ⟨hj.elim id id, (h7 j (Or.inl (hj.elim id id))).2.cg (ho 157 (by omega))⟩, h8.cg (ho 163 (by omega)) (fun k _ _ => by rw [e])⟩
theorem w_back (h : CM s mi) {L : (Nat → Nat → Int32) → (Nat → Nat → Int64) → Prop} (hL : ∀ s1 mi1 ml1, CM s1 mi1 → L mi1 ml1) : wpI G e 168 m_X9_back [.ref 0] (mi, ml, RX RM) (fun r mi1 ml1 => wpI G e 168 m_X10_back [.ref 154] (mi1, ml1, RX RM) (fun r2 mi2 ml2 => r2 = r ∧ L mi2 ml2)) := by
  have hK := h.1.2.2.2.2.1.1
  refine wpc_lb rfl (show 154 ≤ 168 by omega) (p_back h.1 (fun mi1 hc1 => ?_))
  have hm1 := h.2.hi hc1.hi
  refine m_back hm1.2.2.1 hK (fun mi2 ho hk hMa hMw => ⟨rfl, hL _ mi2 ml ⟨hc1.lo (fun o o1 => ho o (by omega) (by omega) (by omega) (by omega) (by omega)), ?_⟩⟩)
  obtain ⟨h1, h2, h3, h4, h5, h6, h7, h8⟩ := hm1
  have c : ∀ o, o = 156 ∨ o = 157 ∨ 161 ≤ o → mi2 o = mi1 o := fun o a => ho o (by omega) (by omega) (by omega) (by omega) (by omega)
  exact ⟨hMw, hMa, h3.off (c 156 (by omega)), h4.cg (hk 12 (by omega) (by omega) (by omega) (by omega)) (c 162 (by omega)), by rw [hk 13 (by omega) (by omega) (by omega) (by omega)]; exact h5, by rw [hk 14 (by omega) (by omega) (by omega) (by omega)]; exact h6, fun j hj => ⟨hj.elim id id, (h7 j (Or.inr (hj.elim id id))).2.cg (c 157 (by omega))⟩, h8.cg (c 163 (by omega)) (fun k k1 k2 => hk k (by omega) (by omega) (by omega) (by omega))⟩
theorem MI.tape {s2 : Cst} {mi2 : Nat → Nat → Int32} (h : MI s mi) (ho : offT mi mi2) (hMt : Mt (cTl s2) (cTb s2) mi2) (hk : cN s2 = cN s ∧ cK s2 = cK s ∧ s2.2.2.2 = s.2.2.2) : MI s2 mi2 := by
  obtain ⟨h1, h2, h3, h4, h5, h6, h7, h8⟩ := h
  obtain ⟨N2, K2, T2, r2⟩ := s2
  obtain ⟨k1, k2, k3⟩ := hk
  have k1' : N2 = s.1 := k1
  have k2' : K2 = s.2.1 := k2
  have k3' : r2 = s.2.2.2 := k3
  subst k1' k2' k3'
  have c : ∀ o, o ≠ 154 → o ≠ 162 → mi2 o = mi o := ho.1
  have k : ∀ k, k ≠ 12 → mi2 154 k = mi 154 k := ho.2
  exact ⟨h1.off (by rw [c 155 (by omega) (by omega)]; exact ⟨rfl, rfl⟩) ⟨k 3 (by omega), k 4 (by omega)⟩ (c 158 (by omega) (by omega)) (c 159 (by omega) (by omega)) (c 160 (by omega) (by omega)), h2.off (c 155 (by omega) (by omega)), h3.off (c 156 (by omega) (by omega)), hMt, by rw [k 13 (by omega)]; exact h5, by rw [k 14 (by omega)]; exact h6, fun j hj => ⟨(h7 j hj).1, (h7 j hj).2.cg (c 157 (by omega) (by omega))⟩, h8.cg (c 163 (by omega) (by omega)) (fun i i1 i2 => k i (by omega))⟩
theorem fFeed_k (s : Cst) (v1 v2 v3 v4 v5 : Int32) : cN (fFeed s v1 v2 v3 v4 v5).2 = cN s ∧ cK (fFeed s v1 v2 v3 v4 v5).2 = cK s ∧ (fFeed s v1 v2 v3 v4 v5).2.2.2.2 = s.2.2.2 := by
  unfold fFeed
  split
  · exact ⟨rfl, rfl, rfl⟩
  · exact ⟨rfl, rfl, rfl⟩
theorem fEnd_k (s : Cst) (v : Int32) : cN (fEnd s v).2 = cN s ∧ cK (fEnd s v).2 = cK s ∧ (fEnd s v).2.2.2.2 = s.2.2.2 := by
  unfold fEnd
  split
  · exact ⟨rfl, rfl, rfl⟩
  · exact ⟨rfl, rfl, rfl⟩
theorem w_feed (h : CM s mi) {v1 v2 v3 v4 v5 : Int32} {L : (Nat → Nat → Int32) → (Nat → Nat → Int64) → Prop} (hL : ∀ s1 mi1 ml1, CM s1 mi1 → L mi1 ml1) : wpI G e 168 m_X9_feed [.ref 0, .int v1, .int v2, .int v3, .int v4, .int v5] (mi, ml, RX RM) (fun r mi1 ml1 => wpI G e 168 m_X10_feed [.ref 154, .int v1, .int v2, .int v3, .int v4, .int v5] (mi1, ml1, RX RM) (fun r2 mi2 ml2 => r2 = r ∧ L mi2 ml2)) := by
  refine wpc_lb rfl (show 154 ≤ 168 by omega) (p_feed h.1 (fun mi1 hc1 => ?_))
  have hm1 := h.2.hi hc1.hi
  exact m_feed hm1.2.2.2.1 (fun mi2 ho hMt => ⟨rfl, hL _ mi2 ml ⟨hc1.lo (fun o o1 => ho.1 o (by omega) (by omega)), hm1.tape ho hMt (fFeed_k s v1 v2 v3 v4 v5)⟩⟩)
theorem w_end (h : CM s mi) {v : Int32} {L : (Nat → Nat → Int32) → (Nat → Nat → Int64) → Prop} (hL : ∀ s1 mi1 ml1, CM s1 mi1 → L mi1 ml1) : wpI G e 168 m_X9_end [.ref 0, .int v] (mi, ml, RX RM) (fun r mi1 ml1 => wpI G e 168 m_X10_end [.ref 154, .int v] (mi1, ml1, RX RM) (fun r2 mi2 ml2 => r2 = r ∧ L mi2 ml2)) := by
  refine wpc_lb rfl (show 154 ≤ 168 by omega) (p_end h.1 (fun mi1 hc1 => ?_))
  have hm1 := h.2.hi hc1.hi
  exact m_end hm1.2.2.2.1 (fun mi2 ho hMt => ⟨rfl, hL _ mi2 ml ⟨hc1.lo (fun o o1 => ho.1 o (by omega) (by omega)), hm1.tape ho hMt (fEnd_k s v)⟩⟩)
theorem w_count (h : CM s mi) {v : Int32} {L : (Nat → Nat → Int32) → (Nat → Nat → Int64) → Prop} (hL : ∀ s1 mi1 ml1, CM s1 mi1 → L mi1 ml1) : wpI G e 168 m_X9_count [.ref 0, .int v] (mi, ml, RX RM) (fun r mi1 ml1 => wpI G e 168 m_X10_count [.ref 154, .int v] (mi1, ml1, RX RM) (fun r2 mi2 ml2 => r2 = r ∧ L mi2 ml2)) := by
  refine wpc_lb rfl (show 154 ≤ 168 by omega) (p_count h.1 ?_)
  have hc1 := h.1
  have hm1 := h.2
  generalize hmi : mi = mi1 at *
  exact m_count (s := s) hm1.1 rfl rfl hm1.2.1 hc1.si.2.2.1 hm1.2.2.2.1.1 ⟨rfl, hL s mi1 ml ⟨hc1.lo (fun _ _ => rfl), hm1⟩⟩
theorem w_greatest (h : CM s mi) {v : Int32} {L : (Nat → Nat → Int32) → (Nat → Nat → Int64) → Prop} (hL : ∀ s1 mi1 ml1, CM s1 mi1 → L mi1 ml1) : wpI G e 168 m_X9_greatest [.ref 0, .int v] (mi, ml, RX RM) (fun r mi1 ml1 => wpI G e 168 m_X10_greatest [.ref 154, .int v] (mi1, ml1, RX RM) (fun r2 mi2 ml2 => r2 = r ∧ L mi2 ml2)) := by
  have hp := h.1.si.1
  refine wpc_lb rfl (show 154 ≤ 168 by omega) (p_greatest h.1 (fun hno => ?_) (fun a g c ha han hg1 hg hf hc mi1 hc1 => ?_))
  · refine m_greatest chrOK (s := s) h.2.1 h.2.2.1 (fun _ => ⟨rfl, hL s mi ml h⟩) (fun g0 hg0 => ?_)
    rw [hno] at hg0
    cases hg0
  · have hm1 := h.2.hi hc1.hi
    refine m_greatest chrOK (s := s) hm1.1 hm1.2.1 (fun hno => ?_) (fun g0 hg0 hgn mi2 ho => ⟨?_, hL s mi2 ml (CM.of hc1 hm1 ho)⟩)
    · rw [hno] at ha
      cases ha
    · rw [ha] at hg0
      have e1 := Option.some.inj hg0
      subst e1
      have e2 := (chrOK _ _ _ _ a hp han).1
      rw [hc] at e2
      have e3 := Option.some.inj e2
      rw [greOK _ _ _ _ g a hp hg1 hg hf han, ← e3]
end PRS
