/-! the reference: feed, end -/
theorem b255 : ∀ i, i < 32 → 8 ≤ i → (255#32).getLsbD i = false := by decide
theorem sh_us (x : BitVec 32) (n : Nat) (h : n ≤ 24) : (x.sshiftRight n) &&& 255#32 = (x >>> n) &&& 255#32 := by
  apply BitVec.eq_of_getLsbD_eq
  intro i hi
  rw [BitVec.getLsbD_and, BitVec.getLsbD_and]
  by_cases c : i < 8
  · rw [BitVec.getLsbD_sshiftRight, BitVec.getLsbD_ushiftRight, if_pos (by omega)]
    have : decide (32 ≤ i) = false := decide_eq_false (by omega)
    rw [this]
    simp
  · rw [b255 i hi (by omega), Bool.and_false, Bool.and_false]
theorem sh_bt (v : Int32) {s : Nat} (h : s = 0 ∨ s = 8 ∨ s = 16 ∨ s = 24) : (sh v (nI s)) &&& (nI 255) = nI (bt v s) := by
  rw [← bt_eq]
  apply Int32.toBitVec_inj.mp
  rcases h with c | c | c | c <;> subst c
  · exact sh_us v.toBitVec 0 (by omega)
  · exact sh_us v.toBitVec 8 (by omega)
  · exact sh_us v.toBitVec 16 (by omega)
  · exact sh_us v.toBitVec 24 (by omega)
def Mt (tl : Nat) (tb : Nat → Nat) (mi : Nat → Nat → Int32) : Prop := mi 154 12 = nI tl ∧ tl ≤ 300 ∧ (∀ i, i < 300 → mi 162 i = nI (tb i)) ∧ ∀ i, tb i < 256
def offT (mi mi1 : Nat → Nat → Int32) : Prop := (∀ o, o ≠ 154 → o ≠ 162 → mi1 o = mi o) ∧ ∀ k, k ≠ 12 → mi1 154 k = mi 154 k
theorem offT.trans {a b c : Nat → Nat → Int32} (h : offT a b) (h1 : offT b c) : offT a c := ⟨fun o o1 o2 => by rw [h1.1 o o1 o2, h.1 o o1 o2], fun k hk => by rw [h1.2 k hk, h.2 k hk]⟩
section MFD
variable {G : GC} {e : Nat} {mi : Nat → Nat → Int32} {ml : Nat → Nat → Int64} {s : Cst}
theorem m_four {v : Int32} {tl : Nat} {tb : Nat → Nat} (h : Mt tl tb mi) (hl : tl + 4 ≤ 300) {K : (Nat → Nat → Int32) → (Nat → Nat → Int64) → Prop}
    (hK : ∀ mi1, offT mi mi1 → Mt (tl + 4) (fd4 v tl tb) mi1 → K mi1 ml) : wpV G e 168 m_X10_four [.ref 154, .int v] (mi, ml, RX RM) K := by
  have one : ∀ (r tl : Nat) (tb : Nat → Nat) (mi1 : Nat → Nat → Int32) (K1 : (Nat → Nat → Int32) → (Nat → Nat → Int64) → Prop), tl < 300 → (8 * r = 0 ∨ 8 * r = 8 ∨ 8 * r = 16 ∨ 8 * r = 24) → mi1 154 12 = nI tl → (∀ i, i < 300 → mi1 162 i = nI (tb i)) →
      (∀ mi2, offT mi1 mi2 → mi2 154 12 = nI (tl + 1) → (∀ i, i < 300 → mi2 162 i = nI (up1 tb tl (bt v (8 * r)) i)) → wp G e tM m_X10_four 3 [(0, .ref 154), (1, .int v), (2, .int (nI (8 * r) + (-(nI 8))))] [] (mi2, ml, RX RM) (QV K1)) →
      wp G e tM m_X10_four 3 [(0, .ref 154), (1, .int v), (2, .int (nI (8 * r)))] [] (mi1, ml, RX RM) (QV K1) := by
    intro r tl tb mi1 K1 hl hr h1 h2 hK
    apply b_X10_four_3
    rw [h1, s_ix (by omega), u2_off (show 154 ≠ 162 by omega), h1, nI_add, sh_bt v hr, s_in (by omega)]
    refine ⟨fun z => ?_, fun _ => ⟨by omega, hK _ ⟨fun o o1 o2 => by rw [u2_off o1, u2_off o2], fun k hk => by rw [u2_ne hk, u2_off (by omega)]⟩ u2_at (fun i hi => ?_)⟩⟩
    · rw [s_lt (by omega) (by omega)] at z
      omega
    · rw [u2_off (by omega)]
      show u2 mi1 162 tl _ 162 i = nI (if i = tl then _ else _)
      by_cases c : i = tl
      · rw [if_pos c, c, u2_at]
      · rw [if_neg c, u2_ne c]
        exact h2 i hi
  obtain ⟨h0, -, ht, hb⟩ := h
  apply e_X10_four
  refine one 3 tl tb mi K (by omega) (by omega) h0 ht (fun mi1 a1 a3 a4 => ?_)
  rw [neg8 2]
  refine one 2 (tl + 1) _ mi1 K (by omega) (by omega) a3 a4 (fun mi2 b1 b3 b4 => ?_)
  rw [neg8 1]
  refine one 1 (tl + 2) _ mi2 K (by omega) (by omega) b3 b4 (fun mi3 c1 c3 c4 => ?_)
  rw [neg8 0]
  refine one 0 (tl + 3) _ mi3 K (by omega) (by omega) c3 c4 (fun mi4 d1 d3 d4 => ?_)
  apply b_X10_four_3
  exact ⟨fun _ => hK mi4 (((a1.trans b1).trans c1).trans d1) ⟨d3, hl, d4, fd4_lt hb⟩, fun z => absurd (show (nI (8 * 0) + (-(nI 8))) < nI 0 by decide) z⟩
theorem m_feed (h : Mt (cTl s) (cTb s) mi) {v1 v2 v3 v4 v5 : Int32} {K : Int32 → (Nat → Nat → Int32) → (Nat → Nat → Int64) → Prop} (hK : ∀ mi1, offT mi mi1 → Mt (cTl (fFeed s v1 v2 v3 v4 v5).2) (cTb (fFeed s v1 v2 v3 v4 v5).2) mi1 → K (fFeed s v1 v2 v3 v4 v5).1 mi1 ml) : wpI G e 168 m_X10_feed [.ref 154, .int v1, .int v2, .int v3, .int v4, .int v5] (mi, ml, RX RM) K := by
  have t2 := h.2.1
  unfold fFeed at hK
  apply e_X10_feed
  rw [h.1]
  simp (disch := omega) only [s_le, s_lt, s_eq, s_eq0, s_in, s_ix, s_rm, s_div, s_pdlt, s_pdle, s_lepd, s_pdpd, s_pdlepd, s_pdadd, nI_add, pk_mul, pd_succ, Nat.not_lt_zero, Nat.zero_lt_succ, not_false_eq_true, not_true_eq_false, false_implies, true_implies, implies_true, and_true, true_and, Nat.reduceLT, Nat.reduceLeDiff, Nat.reduceAdd, Nat.reduceSub, Nat.zero_add, Nat.add_zero]
  refine ⟨fun c => ?_, fun c => ?_⟩
  · rw [if_pos (by omega)] at hK
    refine m_four h (by omega) (fun m1 a1 a3 => ?_)
    refine m_four a3 (by omega) (fun m2 b1 b3 => ?_)
    refine m_four b3 (by omega) (fun m3 c1 c3 => ?_)
    refine m_four c3 (by omega) (fun m4 d1 d3 => ?_)
    refine m_four d3 (by omega) (fun m5 e1 e3 => ?_)
    rw [e3.1]
    exact hK m5 ((((a1.trans b1).trans c1).trans d1).trans e1) e3
  · rw [if_neg (by omega)] at hK
    exact hK mi ⟨fun _ _ _ => rfl, fun _ _ => rfl⟩ h
theorem m_end (h : Mt (cTl s) (cTb s) mi) {v : Int32} {K : Int32 → (Nat → Nat → Int32) → (Nat → Nat → Int64) → Prop} (hK : ∀ mi1, offT mi mi1 → Mt (cTl (fEnd s v).2) (cTb (fEnd s v).2) mi1 → K (fEnd s v).1 mi1 ml) : wpI G e 168 m_X10_end [.ref 154, .int v] (mi, ml, RX RM) K := by
  have t2 := h.2.1
  unfold fEnd at hK
  apply e_X10_end
  rw [h.1]
  refine m_isIn (a := 0) (by omega) (by omega) (fun a hv _ ha => ⟨fun _ => ?_, fun z => absurd z (by decide)⟩) (fun hn => ⟨fun z => absurd rfl z, fun _ => ?_⟩)
  · subst hv
    rw [asN_nI (by omega), if_pos (by omega)] at hK
    exact hK _ ⟨fun o o1 _ => u2_off o1, fun k hk => u2_ne hk⟩ ⟨u2_at, by show a ≤ 300; omega, fun i hi => by rw [u2_off (by omega)]; exact h.2.2.1 i hi, h.2.2.2⟩
  · rw [asN_none (fun a ha => hn a (by omega) (by omega))] at hK
    exact hK mi ⟨fun _ _ _ => rfl, fun _ _ => rfl⟩ h
end MFD
