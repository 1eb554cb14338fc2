/-! both objects between calls -/
section BTH
variable {G : GC} {e : Nat} {mi : Nat → Nat → Int32} {ml : Nat → Nat → Int64} {s : Cst} {mo : Nat → Nat → Int32}
theorem wpc_lb {lb lb1 j : Nat} {As : List Value} {M : Mem} {K : Option Value → Mem → Prop} (hx : mx j = false) (hl : lb ≤ lb1) (h : wpc G e lb j As M K) : wpc G e lb1 j As M K := fun lch cur hc => h lch cur ⟨fun z => absurd (hx.symm.trans z) Bool.false_ne_true, Nat.le_trans hl hc.2⟩
theorem CI.hi (h : CI mo s mi) : ∀ o, 154 ≤ o → mi o = mo o := h.2.2.2.2.2.2.2.2.2.2.2.2.2
theorem CI.lo (h : CI mo s mi) {mi1 : Nat → Nat → Int32} (ho : ∀ o, o < 154 → mi1 o = mi o) : CI mi1 s mi1 := by
  obtain ⟨⟨g, num, S, h1, h2⟩, h3, h4, h5, h6, t1, t2, t3, t4, t5, t6, t7, t8, t9⟩ := h
  refine ⟨⟨g, num, S, h1.off (fun o o1 o2 => ho o (by omega)), h2.off (fun o o1 o2 => ho o (by omega))⟩, h3.off (fun o o1 o2 => ho o (by omega)), h4.off (fun o o1 o2 => ho o (by omega)), h5, h6, ?_⟩
  refine ⟨by rw [ho 0 (by omega)]; exact t1, t2, by rw [ho 0 (by omega)]; exact t3, by rw [ho 0 (by omega)]; exact t4, by rw [ho 152 (by omega)]; exact t5, t6, fun j hj => ?_, t8, fun _ _ => rfl⟩
  rw [ho 151 (by omega), ho (147 + j) (by omega)]
  exact t7 j hj
/-- the reference's memory stands for s -/
def MI (s : Cst) (mi : Nat → Nat → Int32) : Prop := Mw (aq (cN s)) (am (cN s)) (dO (cN s)) (nO (cN s)) mi ∧ Ma 155 (cN s) mi ∧ Ma 156 (cK s) mi ∧ Mt (cTl s) (cTb s) mi ∧ mi 154 13 = cF s ∧ mi 154 14 = cP s ∧ (∀ j, (j < atx (cN s) ∨ j < atx (cK s)) → j < atx (cN s) ∧ StT j (cXb s j) (cXl s j) mi) ∧ Yd mi
theorem StT.cg {t0 len : Nat} {tx : Nat → Nat} {mi1 : Nat → Nat → Int32} (h : StT t0 tx len mi) (ho : mi1 157 = mi 157) : StT t0 tx len mi1 := by
  unfold StT ClsM CodM at h ⊢
  rw [ho]
  exact h
theorem PilM.cg {mi1 : Nat → Nat → Int32} (ho : mi1 163 = mi 163) : ∀ {P : List Nat}, PilM mi P → PilM mi1 P
  | [], _ => trivial
  | o :: P, h => ⟨by rw [ho]; exact h.1, h.2.1, PilM.cg ho h.2.2⟩
theorem Yd.cg {mi1 : Nat → Nat → Int32} (h : Yd mi) (ho : mi1 163 = mi 163) (hk : ∀ k, 22 ≤ k → k < 27 → mi1 154 k = mi 154 k) : Yd mi1 := by
  obtain ⟨P, b, c, h1, h2, h3, h4⟩ := h
  exact ⟨P, b, c, by rw [hk 22 (by omega) (by omega)]; exact h1, by rw [hk 25 (by omega) (by omega)]; exact h2, by rw [hk 26 (by omega) (by omega)]; exact h3, h4.cg ho⟩
theorem Mt.cg {tl : Nat} {tb : Nat → Nat} {mi1 : Nat → Nat → Int32} (h : Mt tl tb mi) (h12 : mi1 154 12 = mi 154 12) (ho : mi1 162 = mi 162) : Mt tl tb mi1 := by
  unfold Mt at h ⊢
  rw [h12, ho]
  exact h
theorem MI.offS {mi1 : Nat → Nat → Int32} (h : MI s mi) (ho : offS mi mi1) : MI s mi1 := by
  obtain ⟨h1, h2, h3, h4, h5, h6, h7, h8⟩ := h
  have c : ∀ o, 155 ≤ o → o < 164 → o ≠ 161 → mi1 o = mi o := fun o a b d => ho.1 o (by omega) d (by omega) (by omega) (by omega) (by omega)
  refine ⟨h1.offS ho, h2.offS (Or.inl rfl) ho, h3.offS (Or.inr rfl) ho, h4.cg (ho.2 12 (by omega) (by omega)) (c 162 (by omega) (by omega) (by omega)), by rw [ho.2 13 (by omega) (by omega)]; exact h5, by rw [ho.2 14 (by omega) (by omega)]; exact h6, fun j hj => ⟨(h7 j hj).1, (h7 j hj).2.cg (c 157 (by omega) (by omega) (by omega))⟩, h8.cg (c 163 (by omega) (by omega) (by omega)) (fun k k1 k2 => ho.2 k (by omega) (by omega))⟩
theorem offS.hi {mi1 : Nat → Nat → Int32} (ho : ∀ o, 154 ≤ o → mi1 o = mi o) {mi2 : Nat → Nat → Int32} (h : offS mi1 mi2) : offS mi1 mi2 := h
theorem MI.hi {mi1 : Nat → Nat → Int32} (h : MI s mi) (ho : ∀ o, 154 ≤ o → mi1 o = mi o) : MI s mi1 := by
  obtain ⟨h1, h2, h3, h4, h5, h6, h7, h8⟩ := h
  have e := ho 154 (by omega)
  refine ⟨h1.off (by rw [ho 155 (by omega)]; exact ⟨rfl, rfl⟩) (by rw [e]; exact ⟨rfl, rfl⟩) (ho 158 (by omega)) (ho 159 (by omega)) (ho 160 (by omega)), h2.off (ho 155 (by omega)), h3.off (ho 156 (by omega)), h4.cg (by rw [e]) (ho 162 (by omega)), by rw [e]; exact h5, by rw [e]; exact h6, fun j hj => ⟨(h7 j hj).1, (h7 j hj).2.cg (ho 157 (by omega))⟩, h8.cg (ho 163 (by omega)) (fun k _ _ => by rw [e])⟩
/-- both stand for s -/
def CM (s : Cst) (mi : Nat → Nat → Int32) : Prop := CI mi s mi ∧ MI s mi
theorem CM.of {mi1 mi2 : Nat → Nat → Int32} (h : CI mo s mi1) (hm : MI s mi1) (ho : offS mi1 mi2) : CM s mi2 := ⟨h.lo (fun o o1 => ho.1 o (by omega) (by omega) (by omega) (by omega) (by omega) (by omega)), hm.offS ho⟩
theorem CM.mh {mi1 : Nat → Nat → Int32} (h : CM s mi) (h1 : CI mi s mi1) : MI s mi1 := h.2.hi h1.hi
/-- what the specs of the reference ask of s -/
theorem CI.si (h : CI mo s mi) : SI (cN s) (dO (cN s)) (nO (cN s)) := h.2.2.2.1
theorem CI.rmo (h : CI mo s mi) {i : Nat} (hi : i < kc (aks (cN s)) 0 (adn (cN s))) : Rmo (nO (cN s)) (amd (cN s) i) := by
  obtain ⟨-, a2, m3, m4, -⟩ := h.mod hi
  have hz : ∀ k, 4 ≤ k → amd (cN s) i k = 0 := fun k hk => m3.2.1 k (by rw [a2]; exact hk)
  exact ⟨m3.2.2, hz, by rw [rl_ext (N := 4) (M := 25) (by omega) hz]; exact m4⟩
theorem CI.rma (h : CI mo s mi) {i : Nat} (hi : i < kc (aks (cN s)) 1 (adn (cN s))) : Rma (nO (cN s)) (amp (cN s) i) := by
  obtain ⟨-, a2, m3, m4, -⟩ := h.map hi
  have hz : ∀ k, 8 ≤ k → amp (cN s) i k = 0 := fun k hk => m3.2.1 k (by rw [a2]; exact hk)
  exact ⟨m3.2.2, hz, by rw [rl_ext (N := 8) (M := 25) (by omega) hz]; exact m4⟩
theorem offS.o161 {mi1 : Nat → Nat → Int32} (h : ∀ o, o ≠ 161 → mi1 o = mi o) : offS mi mi1 := offS.w h
theorem w_work (h : CM s mi) {v1 v2 v3 : Int32} {L : (Nat → Nat → Int32) → (Nat → Nat → Int64) → Prop} (hL : ∀ s1 mi1 ml1, CM s1 mi1 → L mi1 ml1) : wpI G e 168 m_X9_work [.ref 0, .int v1, .int v2, .int v3] (mi, ml, RX RM) (fun r mi1 ml1 => wpI G e 168 m_X10_work [.ref 154, .int v1, .int v2, .int v3] (mi1, ml1, RX RM) (fun r2 mi2 ml2 => r2 = r ∧ L mi2 ml2)) := by
  refine wpc_lb rfl (show 154 ≤ 168 by omega) (p_work h.1 ?_)
  have hc1 := h.1
  have hm1 := h.2
  generalize hmi : mi = mi1 at *
  exact m_work hm1.1 rfl rfl rfl ⟨rfl, hL s mi1 ml ⟨hc1.lo (fun _ _ => rfl), hm1⟩⟩
theorem w_poly (h : CM s mi) {v1 v2 v3 : Int32} {L : (Nat → Nat → Int32) → (Nat → Nat → Int64) → Prop} (hL : ∀ s1 mi1 ml1, CM s1 mi1 → L mi1 ml1) : wpI G e 168 m_X9_poly [.ref 0, .int v1, .int v2, .int v3] (mi, ml, RX RM) (fun r mi1 ml1 => wpI G e 168 m_X10_poly [.ref 154, .int v1, .int v2, .int v3] (mi1, ml1, RX RM) (fun r2 mi2 ml2 => r2 = r ∧ L mi2 ml2)) := by
  refine wpc_lb rfl (show 154 ≤ 168 by omega) (p_poly h.1 ?_)
  have hc1 := h.1
  have hm1 := h.2
  generalize hmi : mi = mi1 at *
  exact m_poly ⟨hc1.si.1.1.hq, hm1.2.1.1⟩ rfl (fun mi2 ho => ⟨rfl, hL s mi2 ml (CM.of hc1 hm1 (ho.toS))⟩)
theorem w_fault (h : CM s mi) {v : Int32} {L : (Nat → Nat → Int32) → (Nat → Nat → Int64) → Prop} (hL : ∀ s1 mi1 ml1, CM s1 mi1 → L mi1 ml1) : wpI G e 168 m_X9_fault [.ref 0, .int v] (mi, ml, RX RM) (fun r mi1 ml1 => wpI G e 168 m_X10_fault [.ref 154, .int v] (mi1, ml1, RX RM) (fun r2 mi2 ml2 => r2 = r ∧ L mi2 ml2)) := by
  refine wpc_lb rfl (show 154 ≤ 168 by omega) (p_fault h.1 ?_)
  have hc1 := h.1
  have hm1 := h.2
  generalize hmi : mi = mi1 at *
  exact m_fault hm1.2.2.2.2.1 hm1.2.2.2.2.2.1 ⟨rfl, hL s mi1 ml ⟨hc1.lo (fun _ _ => rfl), hm1⟩⟩
theorem w_of (h : CM s mi) {v1 v2 v3 : Int32} {L : (Nat → Nat → Int32) → (Nat → Nat → Int64) → Prop} (hL : ∀ s1 mi1 ml1, CM s1 mi1 → L mi1 ml1) : wpI G e 168 m_X9_of [.ref 0, .int v1, .int v2, .int v3] (mi, ml, RX RM) (fun r mi1 ml1 => wpI G e 168 m_X10_of [.ref 154, .int v1, .int v2, .int v3] (mi1, ml1, RX RM) (fun r2 mi2 ml2 => r2 = r ∧ L mi2 ml2)) := by
  refine wpc_lb rfl (show 154 ≤ 168 by omega) (p_of h.1 ?_)
  have hc1 := h.1
  have hm1 := h.2
  generalize hmi : mi = mi1 at *
  exact m_of (s := s) (n := nO (cN s)) rfl hc1.si.1.1.2.2.2.2.2.2 hm1.2.1 hc1.ten.1 hc1.ten.2 (fun i hi => ⟨(hc1.rmo hi).1, (hc1.rmo hi).2.1⟩) (fun i hi => ⟨(hc1.rma hi).1, (hc1.rma hi).2.1⟩) (fun mi2 ho => ⟨rfl, hL s mi2 ml (CM.of hc1 hm1 (offS.o161 ho))⟩)
theorem w_act (h : CM s mi) {v1 v2 v3 : Int32} {L : (Nat → Nat → Int32) → (Nat → Nat → Int64) → Prop} (hL : ∀ s1 mi1 ml1, CM s1 mi1 → L mi1 ml1) : wpI G e 168 m_X9_act [.ref 0, .int v1, .int v2, .int v3] (mi, ml, RX RM) (fun r mi1 ml1 => wpI G e 168 m_X10_act [.ref 154, .int v1, .int v2, .int v3] (mi1, ml1, RX RM) (fun r2 mi2 ml2 => r2 = r ∧ L mi2 ml2)) := by
  refine wpc_lb rfl (show 154 ≤ 168 by omega) (p_act h.1 ?_)
  have hc1 := h.1
  have hm1 := h.2
  generalize hmi : mi = mi1 at *
  exact m_act (s := s) rfl hm1.1 rfl rfl rfl rfl hm1.2.1 hc1.ten.1 (fun i hi => ⟨(hc1.rmo hi).1, (hc1.rmo hi).2.1⟩) ⟨rfl, hL s mi1 ml ⟨hc1.lo (fun _ _ => rfl), hm1⟩⟩
theorem w_acts (h : CM s mi) {v1 v2 v3 : Int32} {L : (Nat → Nat → Int32) → (Nat → Nat → Int64) → Prop} (hL : ∀ s1 mi1 ml1, CM s1 mi1 → L mi1 ml1) : wpI G e 168 m_X9_acts [.ref 0, .int v1, .int v2, .int v3] (mi, ml, RX RM) (fun r mi1 ml1 => wpI G e 168 m_X10_acts [.ref 154, .int v1, .int v2, .int v3] (mi1, ml1, RX RM) (fun r2 mi2 ml2 => r2 = r ∧ L mi2 ml2)) := by
  refine wpc_lb rfl (show 154 ≤ 168 by omega) (p_acts h.1 (fun mi1 hc1 => ?_))
  have hm1 := h.mh hc1
  exact m_acts (s := s) rfl hm1.1 rfl rfl rfl hm1.2.1 hc1.ten.1 (fun i hi => hc1.rmo hi) (fun mi2 ho => ⟨rfl, hL s mi2 ml (CM.of hc1 hm1 (offS.o161 ho))⟩)
theorem w_send (h : CM s mi) {v1 v2 : Int32} {L : (Nat → Nat → Int32) → (Nat → Nat → Int64) → Prop} (hL : ∀ s1 mi1 ml1, CM s1 mi1 → L mi1 ml1) : wpI G e 168 m_X9_send [.ref 0, .int v1, .int v2] (mi, ml, RX RM) (fun r mi1 ml1 => wpI G e 168 m_X10_send [.ref 154, .int v1, .int v2] (mi1, ml1, RX RM) (fun r2 mi2 ml2 => r2 = r ∧ L mi2 ml2)) := by
  refine wpc_lb rfl (show 154 ≤ 168 by omega) (p_send h.1 ?_)
  have hc1 := h.1
  have hm1 := h.2
  generalize hmi : mi = mi1 at *
  exact m_send (s := s) rfl hm1.1 rfl rfl rfl rfl hm1.2.1 hc1.ten.2 (fun i hi => ⟨(hc1.rma hi).1, (hc1.rma hi).2.1⟩) (fun mi2 ho => ⟨rfl, hL s mi2 ml (CM.of hc1 hm1 (offS.o161 ho))⟩)
theorem w_noughts (h : CM s mi) {v1 v2 v3 : Int32} {L : (Nat → Nat → Int32) → (Nat → Nat → Int64) → Prop} (hL : ∀ s1 mi1 ml1, CM s1 mi1 → L mi1 ml1) : wpI G e 168 m_X9_noughts [.ref 0, .int v1, .int v2, .int v3] (mi, ml, RX RM) (fun r mi1 ml1 => wpI G e 168 m_X10_noughts [.ref 154, .int v1, .int v2, .int v3] (mi1, ml1, RX RM) (fun r2 mi2 ml2 => r2 = r ∧ L mi2 ml2)) := by
  refine wpc_lb rfl (show 154 ≤ 168 by omega) (p_noughts h.1 ?_)
  have hc1 := h.1
  have hm1 := h.2
  generalize hmi : mi = mi1 at *
  exact m_noughts (s := s) rfl hm1.1 rfl rfl rfl rfl hm1.2.1 hc1.ten.1 (fun i hi => ⟨(hc1.rmo hi).1, (hc1.rmo hi).2.1⟩) ⟨rfl, hL s mi1 ml ⟨hc1.lo (fun _ _ => rfl), hm1⟩⟩
theorem w_about (h : CM s mi) {v1 v2 : Int32} {L : (Nat → Nat → Int32) → (Nat → Nat → Int64) → Prop} (hL : ∀ s1 mi1 ml1, CM s1 mi1 → L mi1 ml1) : wpI G e 168 m_X9_about [.ref 0, .int v1, .int v2] (mi, ml, RX RM) (fun r mi1 ml1 => wpI G e 168 m_X10_about [.ref 154, .int v1, .int v2] (mi1, ml1, RX RM) (fun r2 mi2 ml2 => r2 = r ∧ L mi2 ml2)) := by
  refine wpc_lb rfl (show 154 ≤ 168 by omega) (p_about h.1 (fun mi1 hc1 => ?_))
  have hm1 := h.mh hc1
  exact m_about chrOK ptsOK (s := s) rfl hm1.1 rfl rfl rfl hm1.2.1 hc1.ten.1 (fun i hi => hc1.rmo hi) (fun mi2 ho => ⟨rfl, hL s mi2 ml (CM.of hc1 hm1 (ho))⟩)
theorem w_parts (h : CM s mi) {v1 v2 : Int32} {L : (Nat → Nat → Int32) → (Nat → Nat → Int64) → Prop} (hL : ∀ s1 mi1 ml1, CM s1 mi1 → L mi1 ml1) : wpI G e 168 m_X9_parts [.ref 0, .int v1, .int v2] (mi, ml, RX RM) (fun r mi1 ml1 => wpI G e 168 m_X10_parts [.ref 154, .int v1, .int v2] (mi1, ml1, RX RM) (fun r2 mi2 ml2 => r2 = r ∧ L mi2 ml2)) := by
  refine wpc_lb rfl (show 154 ≤ 168 by omega) (p_parts partsOK_is h.1 (fun mi1 hc1 => ?_))
  have hm1 := h.mh hc1
  exact m_parts nspOK ptsOK prtOK (s := s) rfl hm1.1 rfl rfl rfl hm1.2.1 hc1.ten.1 (fun i hi => ⟨hc1.rmo hi, (pts_mn hc1.si.1.1 _).1⟩) (fun mi2 ho => ⟨rfl, hL s mi2 ml (CM.of hc1 hm1 (ho))⟩)
theorem w_great (h : CM s mi) {v1 v2 : Int32} {L : (Nat → Nat → Int32) → (Nat → Nat → Int64) → Prop} (hL : ∀ s1 mi1 ml1, CM s1 mi1 → L mi1 ml1) : wpI G e 168 m_X9_great [.ref 0, .int v1, .int v2] (mi, ml, RX RM) (fun r mi1 ml1 => wpI G e 168 m_X10_great [.ref 154, .int v1, .int v2] (mi1, ml1, RX RM) (fun r2 mi2 ml2 => r2 = r ∧ L mi2 ml2)) := by
  refine wpc_lb rfl (show 154 ≤ 168 by omega) (p_great unit_ok h.1 (fun mi1 hc1 => ?_))
  have hm1 := h.mh hc1
  exact m_great chrOK uniOK trcOK (s := s) rfl hm1.1 rfl rfl rfl rfl hm1.2.1 hc1.ten.1 (fun i hi => hc1.rmo hi) (fun mi2 ho => ⟨rfl, hL s mi2 ml (CM.of hc1 hm1 (ho))⟩)
theorem w_leads (h : CM s mi) {v1 v2 v3 : Int32} {L : (Nat → Nat → Int32) → (Nat → Nat → Int64) → Prop} (hL : ∀ s1 mi1 ml1, CM s1 mi1 → L mi1 ml1) : wpI G e 168 m_X9_leads [.ref 0, .int v1, .int v2, .int v3] (mi, ml, RX RM) (fun r mi1 ml1 => wpI G e 168 m_X10_leads [.ref 154, .int v1, .int v2, .int v3] (mi1, ml1, RX RM) (fun r2 mi2 ml2 => r2 = r ∧ L mi2 ml2)) := by
  refine wpc_lb rfl (show 154 ≤ 168 by omega) (p_leads h.1 (fun mi1 hc1 => ?_))
  have hm1 := h.mh hc1
  exact m_leads (s := s) rfl hm1.1 rfl rfl rfl rfl hm1.2.1 hc1.ten.1 hc1.ten.2 (fun i hi => hc1.rmo hi) (fun i hi => hc1.rma hi) (fun mi2 ho => ⟨rfl, hL s mi2 ml (CM.of hc1 hm1 (ho))⟩)
theorem w_dual (h : CM s mi) {v1 v2 v3 : Int32} {L : (Nat → Nat → Int32) → (Nat → Nat → Int64) → Prop} (hL : ∀ s1 mi1 ml1, CM s1 mi1 → L mi1 ml1) : wpI G e 168 m_X9_dual [.ref 0, .int v1, .int v2, .int v3] (mi, ml, RX RM) (fun r mi1 ml1 => wpI G e 168 m_X10_dual [.ref 154, .int v1, .int v2, .int v3] (mi1, ml1, RX RM) (fun r2 mi2 ml2 => r2 = r ∧ L mi2 ml2)) := by
  refine wpc_lb rfl (show 154 ≤ 168 by omega) (p_dual h.1 (fun mi1 hc1 => ?_))
  have hm1 := h.mh hc1
  exact m_dual dualOK (s := s) rfl hm1.1 rfl rfl rfl rfl hm1.2.1 hc1.ten.1 hc1.ten.2 (fun i hi => hc1.rmo hi) (fun i hi => hc1.rma hi) (fun mi2 ho => ⟨rfl, hL s mi2 ml (CM.of hc1 hm1 (ho))⟩)
theorem w_ends (h : CM s mi) {v1 v2 : Int32} {L : (Nat → Nat → Int32) → (Nat → Nat → Int64) → Prop} (hL : ∀ s1 mi1 ml1, CM s1 mi1 → L mi1 ml1) : wpI G e 168 m_X9_ends [.ref 0, .int v1, .int v2] (mi, ml, RX RM) (fun r mi1 ml1 => wpI G e 168 m_X10_ends [.ref 154, .int v1, .int v2] (mi1, ml1, RX RM) (fun r2 mi2 ml2 => r2 = r ∧ L mi2 ml2)) := by
  refine wpc_lb rfl (show 154 ≤ 168 by omega) (p_ends h.1 (fun mi1 hc1 => ?_))
  have hm1 := h.mh hc1
  exact m_ends endsOK (s := s) rfl hm1.1 rfl rfl rfl hm1.2.1 hc1.ten.1 (fun i hi => hc1.rmo hi) (fun mi2 ho => ⟨rfl, hL s mi2 ml (CM.of hc1 hm1 (ho))⟩)
theorem w_alike (h : CM s mi) {v1 v2 : Int32} {L : (Nat → Nat → Int32) → (Nat → Nat → Int64) → Prop} (hL : ∀ s1 mi1 ml1, CM s1 mi1 → L mi1 ml1) : wpI G e 168 m_X9_alike [.ref 0, .int v1, .int v2] (mi, ml, RX RM) (fun r mi1 ml1 => wpI G e 168 m_X10_alike [.ref 154, .int v1, .int v2] (mi1, ml1, RX RM) (fun r2 mi2 ml2 => r2 = r ∧ L mi2 ml2)) := by
  refine wpc_lb rfl (show 154 ≤ 168 by omega) (p_alike h.1 ?_)
  have hc1 := h.1
  have hm1 := h.2
  generalize hmi : mi = mi1 at *
  exact m_alike (s := s) rfl hm1.1 rfl rfl rfl rfl hm1.2.1 hc1.ten.1 (fun i hi => hc1.rmo hi) ⟨rfl, hL s mi1 ml ⟨hc1.lo (fun _ _ => rfl), hm1⟩⟩
theorem w_classes (h : CM s mi) {v1 v2 : Int32} {L : (Nat → Nat → Int32) → (Nat → Nat → Int64) → Prop} (hL : ∀ s1 mi1 ml1, CM s1 mi1 → L mi1 ml1) : wpI G e 168 m_X9_classes [.ref 0, .int v1, .int v2] (mi, ml, RX RM) (fun r mi1 ml1 => wpI G e 168 m_X10_classes [.ref 154, .int v1, .int v2] (mi1, ml1, RX RM) (fun r2 mi2 ml2 => r2 = r ∧ L mi2 ml2)) := by
  refine wpc_lb rfl (show 154 ≤ 168 by omega) (p_classes h.1 ?_)
  have hc1 := h.1
  have hm1 := h.2
  generalize hmi : mi = mi1 at *
  exact m_classes hm1.1 rfl rfl ⟨rfl, hL s mi1 ml ⟨hc1.lo (fun _ _ => rfl), hm1⟩⟩
theorem w_sums (h : CM s mi) {v1 v2 : Int32} {L : (Nat → Nat → Int32) → (Nat → Nat → Int64) → Prop} (hL : ∀ s1 mi1 ml1, CM s1 mi1 → L mi1 ml1) : wpI G e 168 m_X9_sums [.ref 0, .int v1, .int v2] (mi, ml, RX RM) (fun r mi1 ml1 => wpI G e 168 m_X10_sums [.ref 154, .int v1, .int v2] (mi1, ml1, RX RM) (fun r2 mi2 ml2 => r2 = r ∧ L mi2 ml2)) := by
  refine wpc_lb rfl (show 154 ≤ 168 by omega) (p_sums h.1 ?_)
  have hc1 := h.1
  have hm1 := h.2
  generalize hmi : mi = mi1 at *
  exact m_sums ⟨hc1.si.1.1.hq, hm1.2.1.1⟩ rfl ⟨rfl, hL s mi1 ml ⟨hc1.lo (fun _ _ => rfl), hm1⟩⟩
theorem w_symbol (h : CM s mi) {v1 v2 : Int32} {L : (Nat → Nat → Int32) → (Nat → Nat → Int64) → Prop} (hL : ∀ s1 mi1 ml1, CM s1 mi1 → L mi1 ml1) : wpI G e 168 m_X9_symbol [.ref 0, .int v1, .int v2] (mi, ml, RX RM) (fun r mi1 ml1 => wpI G e 168 m_X10_symbol [.ref 154, .int v1, .int v2] (mi1, ml1, RX RM) (fun r2 mi2 ml2 => r2 = r ∧ L mi2 ml2)) := by
  refine wpc_lb rfl (show 154 ≤ 168 by omega) (p_symbol h.1 ?_)
  have hc1 := h.1
  have hm1 := h.2
  generalize hmi : mi = mi1 at *
  exact m_symbol symOK ⟨hc1.si.1.1.hq, hm1.2.1.1⟩ rfl (fun mi2 ho => ⟨rfl, hL s mi2 ml (CM.of hc1 hm1 (ho.toS))⟩)
theorem w_factors (h : CM s mi) {v1 v2 : Int32} {L : (Nat → Nat → Int32) → (Nat → Nat → Int64) → Prop} (hL : ∀ s1 mi1 ml1, CM s1 mi1 → L mi1 ml1) : wpI G e 168 m_X9_factors [.ref 0, .int v1, .int v2] (mi, ml, RX RM) (fun r mi1 ml1 => wpI G e 168 m_X10_factors [.ref 154, .int v1, .int v2] (mi1, ml1, RX RM) (fun r2 mi2 ml2 => r2 = r ∧ L mi2 ml2)) := by
  refine wpc_lb rfl (show 154 ≤ 168 by omega) (p_factors h.1 (fun mi1 hc1 => ?_))
  have hm1 := h.mh hc1
  exact m_factors fctOK ⟨hc1.si.1.1.hq, hm1.2.1.1⟩ rfl (fun mi2 ho => ⟨rfl, hL s mi2 ml (CM.of hc1 hm1 (ho.toS))⟩)
end BTH
