/-! the reference: a text -/
section MTX
variable {G : GC} {e len t0 : Nat} {tx : Nat → Nat}
theorem cC2_gd (ht : ∀ i, tx i < 256) {s : Nat} {L : Lx} {Cs : List (Nat × Nat × Nat)} {C : List (Nat × Nat)} (hL : Lgd len L) (h0 : L.1 ≠ 0) (hC : C.length ≤ L.2.1) (hz : (cC2 tx len s L Cs C).1 = 0) : Lgd len (cC2 tx len s L Cs C).2.1 ∧ Lwd tx (cC2 tx len s L Cs C).2.1 ∧ L.2.1 < (cC2 tx len s L Cs C).2.1.2.1 := by
  unfold cC2 at hz ⊢
  obtain ⟨g1, g2⟩ := stp_gd ht hL
  have ga := stp_adv ht hL h0
  have ha3 := cSum_adv ht (cOne_adv ht 8) _ g1
  split at hz
  · exact absurd (show (4 : Nat) = 0 from hz) (by decide)
  · next c1 =>
    rw [if_neg c1]
    split at hz
    · next c2 =>
      rw [if_pos c2]
      split at hz
      · next c3 =>
        rw [if_pos c3]
        obtain ⟨g3, g4⟩ := stp_gd ht ha3.1
        have gb := stp_adv ht ha3.1 (by omega)
        exact ⟨g3, stp_wd _, by show L.2.1 < (stp tx len _).2.1; omega⟩
      · exact absurd (show (1 : Nat) = 0 from hz) (by decide)
    · next c2 => exact absurd hz c2
/-- the code isn't longer than what was read -/
def CAd (len : Nat) (one : Lx → CR) : Prop := ∀ L, Lgd len L → (one L).1 = 0 → L.2.1 + (one L).2.2.length ≤ (one L).2.1.2.1
theorem cPw2_ca (ht : ∀ i, tx i < 256) : CAd len (cPw2 tx len) := fun L h hz => by
  unfold cPw2 at hz ⊢
  split at hz
  · next c =>
    rw [if_pos c]
    split at hz
    · next c2 =>
      rw [if_pos c2]
      split at hz
      · next c3 =>
        rw [if_pos c3]
        obtain ⟨g1, g2⟩ := stp_gd ht h
        have ga := stp_adv ht h (by omega)
        obtain ⟨g3, g4⟩ := stp_gd ht g1
        have gb := stp_adv ht g1 (by omega)
        show L.2.1 + 1 ≤ (stp tx len (stp tx len L)).2.1
        omega
      · exact absurd (show (2 : Nat) = 0 from hz) (by decide)
    · exact absurd (show (1 : Nat) = 0 from hz) (by decide)
  · next c =>
    rw [if_neg c]
    exact Nat.le_refl _
theorem cPow_ca (ht : ∀ i, tx i < 256) {one : Lx → CR} (ho : Adv len one) (hc : CAd len one) : CAd len (cPow tx len one) := fun L h hz => by
  unfold cPow at hz ⊢
  split at hz
  · next c =>
    rw [if_pos c]
    have h1 := hc L h c
    have h2 := cPw2_ca ht _ (ho L h).1 hz
    show L.2.1 + ((one L).2.2 ++ (cPw2 tx len (one L).2.1).2.2).length ≤ (cPw2 tx len (one L).2.1).2.1.2.1
    rw [List.length_append]
    omega
  · next c => exact absurd hz c
theorem cProL_ca (ht : ∀ i, tx i < 256) {one : Lx → CR} (ho : Adv len one) (hc : CAd len one) : ∀ f, CAd len (cProL tx len one f)
  | 0, L, h, hz => Nat.le_refl _
  | f + 1, L, h, hz => by
    unfold cProL at hz ⊢
    split at hz
    · next c =>
      rw [if_pos c]
      obtain ⟨g1, g2⟩ := stp_gd ht h
      have ga := stp_adv ht h (by omega)
      split at hz
      · next c2 =>
        rw [if_pos c2]
        have h1 := cPow_ca ht ho hc _ g1 c2
        have h2 := cProL_ca ht ho hc f _ (cPow_adv ht ho _ g1).1 hz
        show L.2.1 + ((cPow tx len one (stp tx len L)).2.2 ++ (5, 0) :: (cProL tx len one f (cPow tx len one (stp tx len L)).2.1).2.2).length ≤ (cProL tx len one f (cPow tx len one (stp tx len L)).2.1).2.1.2.1
        rw [List.length_append, List.length_cons]
        omega
      · next c2 => exact absurd hz c2
    · next c =>
      rw [if_neg c]
      exact Nat.le_refl _
theorem cPro_ca (ht : ∀ i, tx i < 256) {one : Lx → CR} (ho : Adv len one) (hc : CAd len one) : CAd len (cPro tx len one) := fun L h hz => by
  unfold cPro at hz ⊢
  split at hz
  · next c =>
    rw [if_pos c]
    have h1 := cPow_ca ht ho hc L h c
    have h2 := cProL_ca ht ho hc 300 _ (cPow_adv ht ho L h).1 hz
    show L.2.1 + ((cPow tx len one L).2.2 ++ (cProL tx len one 300 (cPow tx len one L).2.1).2.2).length ≤ (cProL tx len one 300 (cPow tx len one L).2.1).2.1.2.1
    rw [List.length_append]
    omega
  · next c => exact absurd hz c
theorem cSumL_ca (ht : ∀ i, tx i < 256) {one : Lx → CR} (ho : Adv len one) (hc : CAd len one) : ∀ f, CAd len (cSumL tx len one f)
  | 0, L, h, hz => Nat.le_refl _
  | f + 1, L, h, hz => by
    unfold cSumL at hz ⊢
    split at hz
    · next c =>
      rw [if_pos c]
      obtain ⟨g1, g2⟩ := stp_gd ht h
      have ga := stp_adv ht h (by omega)
      split at hz
      · next c2 =>
        rw [if_pos c2]
        have h1 := cPro_ca ht ho hc _ g1 c2
        have h2 := cSumL_ca ht ho hc f _ (cPro_adv ht ho _ g1).1 hz
        show L.2.1 + ((cPro tx len one (stp tx len L)).2.2 ++ (if L.1 = 45 then 4 else 3, 0) :: (cSumL tx len one f (cPro tx len one (stp tx len L)).2.1).2.2).length ≤ (cSumL tx len one f (cPro tx len one (stp tx len L)).2.1).2.1.2.1
        rw [List.length_append, List.length_cons]
        omega
      · next c2 => exact absurd hz c2
    · next c =>
      rw [if_neg c]
      exact Nat.le_refl _
theorem cSum_ca (ht : ∀ i, tx i < 256) {one : Lx → CR} (ho : Adv len one) (hc : CAd len one) : CAd len (cSum tx len one) := fun L h hz => by
  unfold cSum at hz ⊢
  split at hz
  · next c =>
    rw [if_pos c]
    have h1 := cPro_ca ht ho hc L h c
    have h2 := cSumL_ca ht ho hc 300 _ (cPro_adv ht ho L h).1 hz
    show L.2.1 + ((cPro tx len one L).2.2 ++ (cSumL tx len one 300 (cPro tx len one L).2.1).2.2).length ≤ (cSumL tx len one 300 (cPro tx len one L).2.1).2.1.2.1
    rw [List.length_append]
    omega
  · next c => exact absurd hz c
theorem cLeaf_ca (ht : ∀ i, tx i < 256) : CAd len (cLeaf tx len) := fun L h hz => by
  unfold cLeaf at hz ⊢
  split at hz
  · next c =>
    rw [if_pos c]
    split at hz
    · next c2 =>
      rw [if_pos c2]
      have ga := stp_adv ht h (by omega)
      show L.2.1 + 1 ≤ (stp tx len L).2.1
      omega
    · exact absurd (show (2 : Nat) = 0 from hz) (by decide)
  · next c =>
    rw [if_neg c]
    split at hz
    · next c2 =>
      rw [if_pos c2]
      have ga := stp_adv ht h (by have := isw_tok c2; omega)
      show L.2.1 + 1 ≤ (stp tx len L).2.1
      omega
    · exact absurd (show (1 : Nat) = 0 from hz) (by decide)
theorem cOne_ca (ht : ∀ i, tx i < 256) : ∀ k, CAd len (cOne tx len k)
  | 0, L, h, hz => by
    unfold cOne at hz ⊢
    split at hz
    · exact absurd (show (3 : Nat) = 0 from hz) (by decide)
    · next c =>
      rw [if_neg c]
      exact cLeaf_ca ht L h hz
  | k + 1, L, h, hz => by
    unfold cOne at hz ⊢
    obtain ⟨g1, g2⟩ := stp_gd ht h
    split at hz
    · next c =>
      rw [if_pos c]
      have ga := stp_adv ht h (by omega)
      split at hz
      · next c2 =>
        rw [if_pos c2]
        split at hz
        · next c3 =>
          rw [if_pos c3]
          have h1 := cSum_ca ht (cOne_adv ht k) (cOne_ca ht k) _ g1 c2
          have hb := (cSum_adv ht (cOne_adv ht k) _ g1).1
          have gb := stp_adv ht hb (by omega)
          show L.2.1 + (cSum tx len (cOne tx len k) (stp tx len L)).2.2.length ≤ (stp tx len (cSum tx len (cOne tx len k) (stp tx len L)).2.1).2.1
          omega
        · exact absurd (show (1 : Nat) = 0 from hz) (by decide)
      · next c2 => exact absurd hz c2
    · next c =>
      rw [if_neg c]
      split at hz
      · next c1 =>
        rw [if_pos c1]
        have ga := stp_adv ht h (by omega)
        split at hz
        · next c2 =>
          rw [if_pos c2]
          have h1 := cOne_ca ht k _ g1 c2
          show L.2.1 + ((cOne tx len k (stp tx len L)).2.2 ++ [(2, 0)]).length ≤ (cOne tx len k (stp tx len L)).2.1.2.1
          rw [List.length_append]
          show L.2.1 + ((cOne tx len k (stp tx len L)).2.2.length + 1) ≤ _
          omega
        · next c2 => exact absurd hz c2
      · next c1 =>
        rw [if_neg c1]
        exact cLeaf_ca ht L h hz
theorem cC2_ca (ht : ∀ i, tx i < 256) {s : Nat} {L : Lx} {Cs : List (Nat × Nat × Nat)} {C : List (Nat × Nat)} (hL : Lgd len L) (h0 : L.1 ≠ 0) (hC : C.length ≤ L.2.1) (hz : (cC2 tx len s L Cs C).1 = 0) : (cC2 tx len s L Cs C).2.2.2.length ≤ (cC2 tx len s L Cs C).2.1.2.1 := by
  unfold cC2 at hz ⊢
  obtain ⟨g1, g2⟩ := stp_gd ht hL
  have ga := stp_adv ht hL h0
  have ha3 := cSum_adv ht (cOne_adv ht 8) _ g1
  have hca := cSum_ca ht (cOne_adv ht 8) (cOne_ca ht 8) _ g1
  split at hz
  · exact absurd (show (4 : Nat) = 0 from hz) (by decide)
  · next c1 =>
    rw [if_neg c1]
    split at hz
    · next c2 =>
      rw [if_pos c2]
      split at hz
      · next c3 =>
        rw [if_pos c3]
        have gb := stp_adv ht ha3.1 (by omega)
        have := hca c2
        show (C ++ _).length ≤ (stp tx len _).2.1
        rw [List.length_append]
        omega
      · exact absurd (show (1 : Nat) = 0 from hz) (by decide)
    · next c2 => exact absurd hz c2
theorem cCl_gd (ht : ∀ i, tx i < 256) {L : Lx} {Cs : List (Nat × Nat × Nat)} {C : List (Nat × Nat)} (hL : Lgd len L) (hC : C.length ≤ L.2.1) (hz : (cCl tx len L Cs C).1 = 0) : Lgd len (cCl tx len L Cs C).2.1 ∧ Lwd tx (cCl tx len L Cs C).2.1 ∧ L.2.1 < (cCl tx len L Cs C).2.1.2.1 ∧ (cCl tx len L Cs C).2.2.2.length ≤ (cCl tx len L Cs C).2.1.2.1 := by
  unfold cCl at hz ⊢
  split at hz
  · next c =>
    rw [if_pos c]
    have h0 : L.1 ≠ 0 := by have := isw_tok c; omega
    obtain ⟨a1, a2, a3⟩ := cC2_gd ht hL h0 hC hz
    exact ⟨a1, a2, a3, cC2_ca ht hL h0 hC hz⟩
  · next c =>
    rw [if_neg c]
    split at hz
    · next c2 =>
      rw [if_pos c2]
      have h0 : L.1 ≠ 0 := by have := isw_tok c2; omega
      obtain ⟨a1, a2, a3⟩ := cC2_gd ht hL h0 hC hz
      exact ⟨a1, a2, a3, cC2_ca ht hL h0 hC hz⟩
    · exact absurd (show (1 : Nat) = 0 from hz) (by decide)
theorem cCl_v (L : Lx) (Cs : List (Nat × Nat × Nat)) (C : List (Nat × Nat)) : (cCl tx len L Cs C).1 < 5 := by
  have h2 : ∀ s, (cC2 tx len s L Cs C).1 < 5 := fun s => by
    unfold cC2
    split
    · show 4 < 5; omega
    · split
      · split <;> (show _ < 5; omega)
      · exact cSum_v _
  unfold cCl
  split
  · exact h2 1
  · split
    · exact h2 0
    · show 1 < 5; omega
theorem Mtp.offT {mi mi1 : Nat → Nat → Int32} (h : Mtp len tx mi) (ho : offTx t0 mi mi1) : Mtp len tx mi1 := ⟨by rw [ho.2.1 12 (by omega)]; exact h.1, h.2.1, fun i hi => by rw [ho.1 162 (by omega) (by omega) (by omega)]; exact h.2.2.1 i hi, h.2.2.2⟩
theorem m_readL {K : Int32 → (Nat → Nat → Int32) → (Nat → Nat → Int64) → Prop} {mi0 : Nat → Nat → Int32} (ht0 : t0 < 4) (hl : len ≤ 300) (hT : Mtp len tx mi0) {Z : CL} (hK : ∀ mi1 ml1 P1 n1 C1 b1 c1, offTx t0 mi0 mi1 → Ym tx t0 (Z.2.1, P1, n1, C1, b1, c1) mi1 ml1 → (Z.1 = 0 → C1 = Z.2.2.2 ∧ ClsM t0 mi1 Z.2.2.1) → K (nI Z.1) mi1 ml1) : ∀ (f : Nat) (mi : Nat → Nat → Int32) (ml : Nat → Nat → Int64) (L : Lx) (P : List Nat) (C : List (Nat × Nat)) (Cs : List (Nat × Nat × Nat)) (b c : Bool), offTx t0 mi0 mi → Ym tx t0 (L, P, 0, C, b, c) mi ml → ClsM t0 mi Cs → Lgd len L → Lwd tx L → C.length ≤ L.2.1 → len < L.2.1 + f → cTx tx len f L Cs C = Z → wp G e tM m_X10_readText 43 [(0, .ref 154)] [] (mi, ml, RX RM) (QI K)
  | 0, mi, ml, L, P, C, Cs, b, c, ho, h, hcl, hL, hwd, hC, hf, hz => by
    have := hL.1.2.1
    have := hL.1.2.2.2
    omega
  | f + 1, mi, ml, L, P, C, Cs, b, c, ho, h, hcl, hL, hwd, hC, hf, hz => by
    have hz1 : (if L.1 = 0 then (0, L, Cs, C) else if (cCl tx len L Cs C).1 = 0 then cTx tx len f (cCl tx len L Cs C).2.1 (cCl tx len L Cs C).2.2.1 (cCl tx len L Cs C).2.2.2 else cCl tx len L Cs C) = Z := hz
    have hbt := hT.2.2.2
    have h256 : L.1 < 300 := by have := hL.1.1; omega
    have h17 : mi 154 17 = nI (tmp L.1) := h.1.2.2.1
    have h5 := cCl_v (tx := tx) (len := len) L Cs C
    apply b_X10_readText_43
    rw [h17, tmp_0 h256]
    refine ⟨fun c1 => ?_, fun c1 => ?_⟩
    · rw [if_pos c1] at hz1
      subst hz1
      exact hK mi ml P 0 C b c ho h (fun _ => ⟨rfl, hcl⟩)
    · rw [if_neg c1] at hz1
      refine m_clause ht0 hl (hT.offT ho) h hcl hL hwd hC (fun mi1 ml1 P1 n1 C1 b1 c1 o1 z1 y1 => ?_)
      rw [s_eq (by omega) (by omega)]
      refine ⟨fun c2 => ?_, fun c2 => ?_⟩
      · rw [if_pos c2] at hz1
        obtain ⟨y2, y3, y4⟩ := y1 c2
        subst y2 y3
        obtain ⟨a1, a2, a3, a4⟩ := cCl_gd hbt hL hC c2
        exact m_readL ht0 hl hT hK f mi1 ml1 _ P1 _ _ b1 c1 (ho.trans o1) z1 y4 a1 a2 a4 (by omega) hz1
      · rw [if_neg c2] at hz1
        subst hz1
        exact hK mi1 ml1 P1 n1 C1 b1 c1 (ho.trans o1) z1 (fun z => absurd z c2)
/-- a text, read from its beginning -/
def rTx (tx : Nat → Nat) (len v : Nat) : CL := cTx tx len 302 (stp tx len (0, 0, v, 0)) [] []
theorem m_readText {K : Int32 → (Nat → Nat → Int32) → (Nat → Nat → Int64) → Prop} {mi : Nat → Nat → Int32} {ml : Nat → Nat → Int64} (ht0 : t0 < 4) (h4 : mi 155 4 = nI t0) (hT : Mtp len tx mi) {v : Nat} (hv : v ≤ 10000) {bb cc : Bool} (h25 : mi 154 25 = nI (b2n bb)) (h26 : mi 154 26 = nI (b2n cc)) {P : List Nat} (h22 : mi 154 22 = nI P.length) (hP : PilM mi P) (hK : ∀ mi1 ml1 P1 n1 C1 b1 c1, offTx t0 mi mi1 → Ym tx t0 ((rTx tx len v).2.1, P1, n1, C1, b1, c1) mi1 ml1 → ((rTx tx len v).1 = 0 → C1 = (rTx tx len v).2.2.2 ∧ ClsM t0 mi1 (rTx tx len v).2.2.1) → K (nI (rTx tx len v).1) mi1 ml1) : wpI G e 168 m_X10_readText [.ref 154] (mi, ml, RX RM) K := by
  have hbt := hT.2.2.2
  have hl := hT.2.1
  apply e_X10_readText
  have e1 : nI 670 * nI t0 = nI (670 * t0) := pk_mul _ _
  have e2 : ix (nI 4) = 4 := by decide
  rw [e2, h4, e1, u2_at, s_in (by omega), s_in (by omega), s_ix (by omega)]
  refine ⟨by decide, by omega, ?_⟩
  have o1 : offTx t0 mi (u2 (u2 (u2 (u2 (u2 mi 154 20 (nI (670 * t0))) 157 (670 * t0) (nI 0)) 154 21 (nI 0)) 154 23 (nI 0)) 154 15 (nI 0)) := (((((offTx.refl t0 mi).p154 (by omega)).p157 (by omega)).p154 (by omega)).p154 (by omega)).p154 (by omega)
  have w20 : u2 (u2 (u2 (u2 (u2 mi 154 20 (nI (670 * t0))) 157 (670 * t0) (nI 0)) 154 21 (nI 0)) 154 23 (nI 0)) 154 15 (nI 0) 154 20 = nI (670 * t0) := by rw [u2_ne (by omega), u2_ne (by omega), u2_ne (by omega), u2_off (by omega), u2_at]
  have w21 : u2 (u2 (u2 (u2 (u2 mi 154 20 (nI (670 * t0))) 157 (670 * t0) (nI 0)) 154 21 (nI 0)) 154 23 (nI 0)) 154 15 (nI 0) 154 21 = nI 0 := by rw [u2_ne (by omega), u2_ne (by omega), u2_at]
  have w23 : u2 (u2 (u2 (u2 (u2 mi 154 20 (nI (670 * t0))) 157 (670 * t0) (nI 0)) 154 21 (nI 0)) 154 23 (nI 0)) 154 15 (nI 0) 154 23 = nI 0 := by rw [u2_ne (by omega), u2_at]
  have w15 : u2 (u2 (u2 (u2 (u2 mi 154 20 (nI (670 * t0))) 157 (670 * t0) (nI 0)) 154 21 (nI 0)) 154 23 (nI 0)) 154 15 (nI 0) 154 15 = nI 0 := u2_at
  have wk : ∀ k, k = 22 ∨ k = 25 ∨ k = 26 → u2 (u2 (u2 (u2 (u2 mi 154 20 (nI (670 * t0))) 157 (670 * t0) (nI 0)) 154 21 (nI 0)) 154 23 (nI 0)) 154 15 (nI 0) 154 k = mi 154 k := fun k hk => by rw [u2_ne (by omega), u2_ne (by omega), u2_ne (by omega), u2_off (by omega), u2_ne (by omega)]
  have w163 : u2 (u2 (u2 (u2 (u2 mi 154 20 (nI (670 * t0))) 157 (670 * t0) (nI 0)) 154 21 (nI 0)) 154 23 (nI 0)) 154 15 (nI 0) 163 = mi 163 := by rw [u2_off (by omega), u2_off (by omega), u2_off (by omega), u2_off (by omega), u2_off (by omega)]
  have w157 : u2 (u2 (u2 (u2 (u2 mi 154 20 (nI (670 * t0))) 157 (670 * t0) (nI 0)) 154 21 (nI 0)) 154 23 (nI 0)) 154 15 (nI 0) 157 (670 * t0) = nI 0 := by rw [u2_off (by omega), u2_off (by omega), u2_off (by omega), u2_at]
  generalize u2 (u2 (u2 (u2 (u2 mi 154 20 (nI (670 * t0))) 157 (670 * t0) (nI 0)) 154 21 (nI 0)) 154 23 (nI 0)) 154 15 (nI 0) = mi1 at *
  have hT1 := hT.offT o1
  refine m_nextToken hT1 (p0 := 0) (Nat.zero_le _) w15 (v := v) (fun mi2 ml2 o2 l2 => ?_)
  have hg : Lgd len (stp tx len (0, 0, v, 0)) := (stp_gd hbt (L := (0, 0, v, 0)) ⟨⟨by show 0 < 256; omega, Nat.le_refl _, hv, Nat.zero_le _⟩, fun z => absurd rfl z⟩).1
  have o3 := o2.toY (t0 := t0)
  refine m_readL ht0 hl hT (Z := rTx tx len v) hK 302 mi2 ml2 (stp tx len (0, 0, v, 0)) P [] [] bb cc (o1.trans o3.toTx) ⟨l2, ?_, ?_, ?_, ?_, ?_, ?_, ?_, ?_⟩ ⟨?_, by decide, fun i hi => absurd hi (Nat.not_lt_zero _)⟩ hg (stp_wd _) (Nat.zero_le _) (by omega) rfl
  · rw [o3.2.1 20 (by omega)]; exact w20
  · rw [o2.2 21 (by omega) (by omega) (by omega) (by omega)]; exact w21
  · rw [o2.2 22 (by omega) (by omega) (by omega) (by omega), wk 22 (by omega)]; exact h22
  · rw [o2.2 23 (by omega) (by omega) (by omega) (by omega)]; exact w23
  · rw [o2.2 25 (by omega) (by omega) (by omega) (by omega), wk 25 (by omega)]; exact h25
  · rw [o2.2 26 (by omega) (by omega) (by omega) (by omega), wk 26 (by omega)]; exact h26
  · exact hP.same (by rw [o2.1 163 (by omega), w163])
  · exact fun i hi => absurd hi (Nat.not_lt_zero _)
  · rw [o2.1 157 (by omega)]; exact w157
end MTX
