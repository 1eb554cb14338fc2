/-! the reference: the call text -/
/-- the yard between calls -/
def Yd (mi : Nat → Nat → Int32) : Prop := ∃ (P : List Nat) (b c : Bool), mi 154 22 = nI P.length ∧ mi 154 25 = nI (b2n b) ∧ mi 154 26 = nI (b2n c) ∧ PilM mi P
/-- a stored text -/
def StT (t0 : Nat) (tx : Nat → Nat) (len : Nat) (mi : Nat → Nat → Int32) : Prop := (rTx tx len 0).1 = 0 ∧ ClsM t0 mi (rTx tx len 0).2.2.1 ∧ CodM t0 mi (rTx tx len 0).2.2.2
def offTc (t0 : Nat) (mi mi1 : Nat → Nat → Int32) : Prop := (∀ o, o ≠ 154 → o ≠ 155 → o ≠ 157 → o ≠ 163 → mi1 o = mi o) ∧ (∀ k, (k < 12 ∨ 26 < k) → mi1 154 k = mi 154 k) ∧ (∀ k, k ≠ 4 → mi1 155 k = mi 155 k) ∧ ∀ j, (j < 670 * t0 ∨ 670 * t0 + 670 ≤ j) → mi1 157 j = mi 157 j
section MTC
variable {G : GC} {e len t0 : Nat} {tx : Nat → Nat}
theorem StT.same {mi mi1 : Nat → Nat → Int32} (h : StT t0 tx len mi) (ho : ∀ j, 670 * t0 ≤ j → j < 670 * t0 + 670 → mi1 157 j = mi 157 j) (hC : (rTx tx len 0).2.2.2.length ≤ 302) : StT t0 tx len mi1 := by
  obtain ⟨h1, ⟨h2, h3, h4⟩, h5⟩ := h
  refine ⟨h1, ⟨by rw [ho _ (by omega) (by omega)]; exact h2, h3, fun i hi => ?_⟩, fun i hi => ?_⟩
  · rw [ho _ (by omega) (by omega), ho _ (by omega) (by omega), ho _ (by omega) (by omega)]
    exact h4 i hi
  · rw [ho _ (by omega) (by omega), ho _ (by omega) (by omega)]
    exact h5 i hi
theorem cTx_len (ht : ∀ i, tx i < 256) : ∀ (f : Nat) (L : Lx) (Cs : List (Nat × Nat × Nat)) (C : List (Nat × Nat)), Lgd len L → C.length ≤ L.2.1 → (cTx tx len f L Cs C).1 = 0 → (cTx tx len f L Cs C).2.2.2.length ≤ (cTx tx len f L Cs C).2.1.2.1 ∧ (cTx tx len f L Cs C).2.1.2.1 ≤ len
  | 0, L, Cs, C, hL, hC, hz => ⟨hC, by have := hL.1.2.1; have := hL.1.2.2.2; show L.2.1 ≤ len; omega⟩
  | f + 1, L, Cs, C, hL, hC, hz => by
    unfold cTx at hz ⊢
    split at hz
    · next c =>
      rw [if_pos c]
      exact ⟨hC, by have := hL.1.2.1; have := hL.1.2.2.2; show L.2.1 ≤ len; omega⟩
    · next c =>
      rw [if_neg c]
      split at hz
      · next c2 =>
        rw [if_pos c2]
        obtain ⟨a1, a2, a3, a4⟩ := cCl_gd ht hL hC c2
        exact cTx_len ht f _ _ _ a1 a4 hz
      · next c2 => exact absurd hz c2
theorem rTx_len (ht : ∀ i, tx i < 256) {v : Nat} (hv : v ≤ 10000) (hz : (rTx tx len v).1 = 0) : (rTx tx len v).2.2.2.length ≤ len := by
  have hg : Lgd len (stp tx len (0, 0, v, 0)) := (stp_gd ht (L := (0, 0, v, 0)) ⟨⟨by show 0 < 256; omega, Nat.le_refl _, hv, Nat.zero_le _⟩, fun z => absurd rfl z⟩).1
  obtain ⟨a, b⟩ := cTx_len ht 302 _ [] [] hg (Nat.zero_le _) hz
  exact Nat.le_trans a b
theorem cTx_v : ∀ (f : Nat) (L : Lx) (Cs : List (Nat × Nat × Nat)) (C : List (Nat × Nat)), (cTx tx len f L Cs C).1 < 5
  | 0, L, Cs, C => by show 0 < 5; omega
  | f + 1, L, Cs, C => by
    unfold cTx
    split
    · show 0 < 5; omega
    · split
      · exact cTx_v f _ _ _
      · exact cCl_v _ _ _
theorem m_text {K : Int32 → (Nat → Nat → Int32) → (Nat → Nat → Int64) → Prop} {mi : Nat → Nat → Int32} {ml : Nat → Nat → Int64} (ht0 : t0 ≤ 4) (h4 : mi 155 4 = nI t0) (hT : Mtp len tx mi) (hY : Yd mi) (hfull : t0 = 4 → K NONE mi ml)
    (hK : ∀ mi1 ml1, t0 < 4 → offTc t0 mi mi1 → Yd mi1 → mi1 154 12 = nI 0 → (rTx tx len 0).1 = 0 → mi1 154 13 = nI 0 → mi1 154 14 = NONE → mi1 155 4 = nI (t0 + 1) → StT t0 tx len mi1 → K (nI t0) mi1 ml1)
    (hF : ∀ mi1 ml1, t0 < 4 → offTc t0 mi mi1 → Yd mi1 → mi1 154 12 = nI 0 → (rTx tx len 0).1 ≠ 0 → mi1 154 13 = nI (rTx tx len 0).1 → mi1 154 14 = nI (rTx tx len 0).2.1.2.1 → mi1 155 4 = nI t0 → K NONE mi1 ml1) : wpI G e 168 m_X10_text [.ref 154] (mi, ml, RX RM) K := by
  obtain ⟨P, b, c, y22, y25, y26, yP⟩ := hY
  have e2 : ix (nI 4) = 4 := by decide
  have eN : -(nI 1) = NONE := rfl
  apply e_X10_text
  rw [e2, h4, s_in (by omega), s_eq (by omega) (by omega)]
  refine ⟨by omega, fun c1 => ?_, fun c1 => ?_⟩
  · refine m_readText (by omega) h4 hT (v := 0) (by omega) y25 y26 y22 yP (fun mi1 ml1 P1 n1 C1 b1 c1 o1 z1 w1 => ?_)
    have h16 : mi1 154 16 = nI (rTx tx len 0).2.1.2.1 := z1.1.2.1
    obtain ⟨zL, z20, z21, z22, z23, z25, z26, zP, zC⟩ := z1
    dsimp only at z21 z22 z23 z25 z26 zP zC
    have hv5 : (rTx tx len 0).1 < 5 := cTx_v 302 _ _ _
    have hYd : ∀ mi2 : Nat → Nat → Int32, (∀ k, k = 22 ∨ k = 25 ∨ k = 26 → mi2 154 k = mi1 154 k) → mi2 163 = mi1 163 → Yd mi2 := fun mi2 g1 g2 => ⟨P1, b1, c1, by rw [g1 22 (by omega)]; exact z22, by rw [g1 25 (by omega)]; exact z25, by rw [g1 26 (by omega)]; exact z26, zP.same g2⟩
    have g4 : mi1 155 4 = nI t0 := by rw [o1.1 155 (by omega) (by omega) (by omega)]; exact h4
    rw [u2_at, s_eq (by omega) (by omega)]
    refine ⟨fun c2 => ?_, fun c2 => ?_⟩
    · have e13 : u2 (u2 (u2 mi1 154 13 (nI (rTx tx len 0).1)) 154 14 (u2 mi1 154 13 (nI (rTx tx len 0).1) 154 16)) 154 12 (nI 0) 154 13 = nI (rTx tx len 0).1 := by rw [u2_ne (by omega), u2_ne (by omega), u2_at]
      rw [e13, s_eq (by omega) (by omega)]
      refine ⟨fun z => absurd z c2, fun _ => ?_⟩
      rw [eN]
      have e14 : u2 mi1 154 13 (nI (rTx tx len 0).1) 154 16 = nI (rTx tx len 0).2.1.2.1 := by rw [u2_ne (by omega)]; exact h16
      rw [e14]
      refine hF _ ml1 (by omega) ⟨fun o q1 q2 q3 q4 => ?_, fun k hk => ?_, fun k hk => ?_, fun j hj => ?_⟩ (hYd _ (fun k hk => ?_) ?_) u2_at c2 ?_ ?_ ?_
      · rw [u2_off q1, u2_off q1, u2_off q1]; exact o1.1 o q1 q3 q4
      · rw [u2_ne (by omega), u2_ne (by omega), u2_ne (by omega)]; exact o1.2.1 k (by omega)
      · rw [u2_off (by omega), u2_off (by omega), u2_off (by omega), o1.1 155 (by omega) (by omega) (by omega)]
      · rw [u2_off (by omega), u2_off (by omega), u2_off (by omega)]; exact o1.2.2 j hj
      · rw [u2_ne (by omega), u2_ne (by omega), u2_ne (by omega)]
      · rw [u2_off (by omega), u2_off (by omega), u2_off (by omega)]
      · rw [u2_ne (by omega), u2_ne (by omega), u2_at]
      · rw [u2_ne (by omega), u2_at]
      · rw [u2_off (by omega), u2_off (by omega), u2_off (by omega)]; exact g4
    · obtain ⟨w2, w3⟩ := w1 c2
      subst w2
      rw [c2]
      have e13 : u2 (u2 (u2 mi1 154 13 (nI 0)) 154 14 (-nI 1)) 154 12 (nI 0) 154 13 = nI 0 := by rw [u2_ne (by omega), u2_ne (by omega), u2_at]
      have e155 : u2 (u2 (u2 mi1 154 13 (nI 0)) 154 14 (-nI 1)) 154 12 (nI 0) 155 4 = nI t0 := by rw [u2_off (by omega), u2_off (by omega), u2_off (by omega)]; exact g4
      rw [e13, e155, u2_at, nI_add, s_sub (by omega), Nat.add_sub_cancel]
      refine ⟨fun _ => ⟨by omega, by omega, by omega, ?_⟩, fun z => absurd rfl z⟩
      rw [eN]
      have hlen := rTx_len (tx := tx) (len := len) hT.2.2.2 (v := 0) (by omega) c2
      have hl := hT.2.1
      refine hK _ ml1 (by omega) ⟨fun o q1 q2 q3 q4 => ?_, fun k hk => ?_, fun k hk => ?_, fun j hj => ?_⟩ (hYd _ (fun k hk => ?_) ?_) ?_ c2 ?_ ?_ u2_at (StT.same (mi := mi1) ⟨c2, w3, zC⟩ (fun j _ _ => ?_) (by omega))
      · rw [u2_off q2, u2_off q1, u2_off q1, u2_off q1]; exact o1.1 o q1 q3 q4
      · rw [u2_off (by omega), u2_ne (by omega), u2_ne (by omega), u2_ne (by omega)]; exact o1.2.1 k (by omega)
      · rw [u2_ne (by omega), u2_off (by omega), u2_off (by omega), u2_off (by omega), o1.1 155 (by omega) (by omega) (by omega)]
      · rw [u2_off (by omega), u2_off (by omega), u2_off (by omega), u2_off (by omega)]; exact o1.2.2 j hj
      · rw [u2_off (by omega), u2_ne (by omega), u2_ne (by omega), u2_ne (by omega)]
      · rw [u2_off (by omega), u2_off (by omega), u2_off (by omega), u2_off (by omega)]
      · rw [u2_off (by omega), u2_at]
      · rw [u2_off (by omega), u2_ne (by omega), u2_ne (by omega), u2_at]
      · rw [u2_off (by omega), u2_ne (by omega), u2_at]
      · rw [u2_off (by omega), u2_off (by omega), u2_off (by omega), u2_off (by omega)]
  · rw [eN]
    exact hfull c1
end MTC
