/-! the reference: clauses, a text -/
section CLS
variable (tx : Nat → Nat) (len : Nat)
/-- fault, where it stands, clauses (sort, start, end), code -/
abbrev CL : Type := Nat × Lx × List (Nat × Nat × Nat) × List (Nat × Nat)
def cC2 (s : Nat) (L : Lx) (Cs : List (Nat × Nat × Nat)) (C : List (Nat × Nat)) : CL :=
  if Cs.length = 20 then (4, L, Cs, C) else
  if (cSum tx len (cOne tx len 8) (stp tx len L)).1 = 0 then
    (if (cSum tx len (cOne tx len 8) (stp tx len L)).2.1.1 = 59 then
      (0, stp tx len (cSum tx len (cOne tx len 8) (stp tx len L)).2.1, Cs ++ [(s, C.length, (C ++ (cSum tx len (cOne tx len 8) (stp tx len L)).2.2).length)], C ++ (cSum tx len (cOne tx len 8) (stp tx len L)).2.2)
    else (1, (cSum tx len (cOne tx len 8) (stp tx len L)).2.1, Cs, C))
  else ((cSum tx len (cOne tx len 8) (stp tx len L)).1, (cSum tx len (cOne tx len 8) (stp tx len L)).2.1, Cs, C)
def cCl (L : Lx) (Cs : List (Nat × Nat × Nat)) (C : List (Nat × Nat)) : CL :=
  if isw tx L wMap = true then cC2 tx len 1 L Cs C else if isw tx L wMod = true then cC2 tx len 0 L Cs C else (1, L, Cs, C)
def cTx : Nat → Lx → List (Nat × Nat × Nat) → List (Nat × Nat) → CL
  | 0, L, Cs, C => (0, L, Cs, C)
  | f + 1, L, Cs, C => if L.1 = 0 then (0, L, Cs, C) else if (cCl tx len L Cs C).1 = 0 then cTx f (cCl tx len L Cs C).2.1 (cCl tx len L Cs C).2.2.1 (cCl tx len L Cs C).2.2.2 else cCl tx len L Cs C
end CLS
def ClsM (t0 : Nat) (mi : Nat → Nat → Int32) (Cs : List (Nat × Nat × Nat)) : Prop := mi 157 (670 * t0) = nI Cs.length ∧ Cs.length ≤ 20 ∧ ∀ i, i < Cs.length → mi 157 (670 * t0 + 1 + 3 * i) = nI (Cs.getD i (0, 0, 0)).1 ∧ mi 157 (670 * t0 + 1 + 3 * i + 1) = nI (Cs.getD i (0, 0, 0)).2.1 ∧ mi 157 (670 * t0 + 1 + 3 * i + 2) = nI (Cs.getD i (0, 0, 0)).2.2
def offTx (t0 : Nat) (mi mi1 : Nat → Nat → Int32) : Prop := (∀ o, o ≠ 154 → o ≠ 157 → o ≠ 163 → mi1 o = mi o) ∧ (∀ k, (k < 15 ∨ 26 < k) → mi1 154 k = mi 154 k) ∧ ∀ j, (j < 670 * t0 ∨ 670 * t0 + 670 ≤ j) → mi1 157 j = mi 157 j
theorem offTx.refl (t0 : Nat) (mi : Nat → Nat → Int32) : offTx t0 mi mi := ⟨fun _ _ _ _ => rfl, fun _ _ => rfl, fun _ _ => rfl⟩
theorem offTx.trans {t0 : Nat} {a b c : Nat → Nat → Int32} (h : offTx t0 a b) (h1 : offTx t0 b c) : offTx t0 a c := ⟨fun o z1 z2 z3 => by rw [h1.1 o z1 z2 z3, h.1 o z1 z2 z3], fun k z => by rw [h1.2.1 k z, h.2.1 k z], fun j z => by rw [h1.2.2 j z, h.2.2 j z]⟩
theorem offYm.toTx {t0 : Nat} {a b : Nat → Nat → Int32} (h : offYm t0 a b) : offTx t0 a b := ⟨h.1, fun k z => h.2.1 k (by omega), fun j z => h.2.2 j (by omega)⟩
theorem offTx.p157 {t0 : Nat} {a b : Nat → Nat → Int32} (h : offTx t0 a b) {k : Nat} (hk : 670 * t0 ≤ k ∧ k < 670 * t0 + 670) {v : Int32} : offTx t0 a (u2 b 157 k v) := ⟨fun o z z2 z3 => by rw [u2_off z2]; exact h.1 o z z2 z3, fun j z => by rw [u2_off (by omega)]; exact h.2.1 j z, fun j z => by rw [u2_ne (by omega)]; exact h.2.2 j z⟩
theorem offTx.p154 {t0 : Nat} {a b : Nat → Nat → Int32} (h : offTx t0 a b) {k : Nat} (hk : 15 ≤ k ∧ k ≤ 26) {v : Int32} : offTx t0 a (u2 b 154 k v) := ⟨fun o z z2 z3 => by rw [u2_off z]; exact h.1 o z z2 z3, fun j z => by rw [u2_ne (by omega)]; exact h.2.1 j z, fun j z => by rw [u2_off (by omega)]; exact h.2.2 j z⟩
section MCL
variable {G : GC} {e len t0 : Nat} {tx : Nat → Nat}
theorem ClsM.offY {mi mi1 : Nat → Nat → Int32} {Cs : List (Nat × Nat × Nat)} (h : ClsM t0 mi Cs) (ho : offYm t0 mi mi1) : ClsM t0 mi1 Cs := by
  obtain ⟨h1, h2, h3⟩ := h
  refine ⟨by rw [ho.2.2 _ (by omega)]; exact h1, h2, fun i hi => ?_⟩
  rw [ho.2.2 _ (by omega), ho.2.2 _ (by omega), ho.2.2 _ (by omega)]
  exact h3 i hi
theorem get3_lt {Cs : List (Nat × Nat × Nat)} {x : Nat × Nat × Nat} {i : Nat} (h : i < Cs.length) : (Cs ++ [x]).getD i (0, 0, 0) = Cs.getD i (0, 0, 0) := by
  rw [List.getD_eq_getElem?_getD, List.getD_eq_getElem?_getD, List.getElem?_append_left h]
theorem get3_end {Cs : List (Nat × Nat × Nat)} {x : Nat × Nat × Nat} : (Cs ++ [x]).getD Cs.length (0, 0, 0) = x := by
  rw [List.getD_eq_getElem?_getD, List.getElem?_append_right (Nat.le_refl _), Nat.sub_self]
  rfl
/-- below the code -/
theorem Ym.low {y : YS} {mi : Nat → Nat → Int32} {ml : Nat → Nat → Int64} (h : Ym tx t0 y mi ml) {k : Nat} (hk : k < 670 * t0 + 65) {v : Int32} : Ym tx t0 y (u2 mi 157 k v) ml := by
  obtain ⟨y1, y20, y21, y22, y23, y25, y26, yP, yC⟩ := h
  exact ⟨y1.same (fun k a b => by rw [u2_off (by omega)]), by rw [u2_off (by omega)]; exact y20, by rw [u2_off (by omega)]; exact y21, by rw [u2_off (by omega)]; exact y22, by rw [u2_off (by omega)]; exact y23, by rw [u2_off (by omega)]; exact y25, by rw [u2_off (by omega)]; exact y26, yP.same (u2_off (by omega)), fun i hi => by rw [u2_ne (by omega), u2_ne (by omega)]; exact yC i hi⟩
theorem Mtp.low {mi : Nat → Nat → Int32} (h : Mtp len tx mi) {k : Nat} {v : Int32} : Mtp len tx (u2 mi 157 k v) := ⟨by rw [u2_off (by omega)]; exact h.1, h.2.1, fun i hi => by rw [u2_off (by omega)]; exact h.2.2.1 i hi, h.2.2.2⟩
theorem wMap_v : lsh (lsh (nI 109).toInt64 (nI 8) ||| (nI 97).toInt64) (nI 8) ||| (nI 112).toInt64 = lN (wvf (fun i => wMap.getD i 0) wMap.length) := by decide
theorem wMod_v : lsh (lsh (lsh (nI 109).toInt64 (nI 8) ||| (nI 111).toInt64) (nI 8) ||| (nI 100).toInt64) (nI 24) ||| (lsh (lsh (nI 117).toInt64 (nI 8) ||| (nI 108).toInt64) (nI 8) ||| (nI 101).toInt64) = lN (wvf (fun i => wMod.getD i 0) wMod.length) := by decide
theorem cPw2_v (L : Lx) : (cPw2 tx len L).1 < 5 := by
  unfold cPw2
  split
  · split
    · split <;> (show _ < 5; omega)
    · show 1 < 5; omega
  · show 0 < 5; omega
theorem cPow_v {one : Lx → CR} (h : ∀ L, (one L).1 < 5) (L : Lx) : (cPow tx len one L).1 < 5 := by
  unfold cPow
  split
  · exact cPw2_v _
  · exact h L
theorem cProL_v {one : Lx → CR} (h : ∀ L, (one L).1 < 5) : ∀ f L, (cProL tx len one f L).1 < 5
  | 0, L => by show 0 < 5; omega
  | f + 1, L => by
    unfold cProL
    split
    · split
      · exact cProL_v h f _
      · exact cPow_v h _
    · show 0 < 5; omega
theorem cPro_v {one : Lx → CR} (h : ∀ L, (one L).1 < 5) (L : Lx) : (cPro tx len one L).1 < 5 := by
  unfold cPro
  split
  · exact cProL_v h 300 _
  · exact cPow_v h _
theorem cSumL_v {one : Lx → CR} (h : ∀ L, (one L).1 < 5) : ∀ f L, (cSumL tx len one f L).1 < 5
  | 0, L => by show 0 < 5; omega
  | f + 1, L => by
    unfold cSumL
    split
    · split
      · exact cSumL_v h f _
      · exact cPro_v h _
    · show 0 < 5; omega
theorem cSum_w {one : Lx → CR} (h : ∀ L, (one L).1 < 5) (L : Lx) : (cSum tx len one L).1 < 5 := by
  unfold cSum
  split
  · exact cSumL_v h 300 _
  · exact cPro_v h _
theorem cLeaf_v (L : Lx) : (cLeaf tx len L).1 < 5 := by
  unfold cLeaf
  split
  · split <;> (show _ < 5; omega)
  · split <;> (show _ < 5; omega)
theorem cOne_v : ∀ k L, (cOne tx len k L).1 < 5
  | 0, L => by
    unfold cOne
    split
    · show 3 < 5; omega
    · exact cLeaf_v L
  | k + 1, L => by
    unfold cOne
    split
    · split
      · split <;> (show _ < 5; omega)
      · exact cSum_w (cOne_v k) _
    · split
      · split
        · show 0 < 5; omega
        · exact cOne_v k _
      · exact cLeaf_v L
theorem cSum_v (L : Lx) : (cSum tx len (cOne tx len 8) L).1 < 5 := cSum_w (cOne_v 8) L
theorem m_clause2 {K : Int32 → (Nat → Nat → Int32) → (Nat → Nat → Int64) → Prop} (ht0 : t0 < 4) (hl : len ≤ 300) {mi : Nat → Nat → Int32} {ml : Nat → Nat → Int64} (hT : Mtp len tx mi) {L : Lx} {P : List Nat} {C : List (Nat × Nat)} {Cs : List (Nat × Nat × Nat)} {b c : Bool} (h : Ym tx t0 (L, P, 0, C, b, c) mi ml) (hC : ClsM t0 mi Cs) (hL : Lgd len L) (h0 : L.1 ≠ 0) (hCl : C.length ≤ L.2.1) (s : Nat) (hK : ∀ mi1 ml1 P1 n1 C1 b1 c1, offTx t0 mi mi1 → Ym tx t0 ((cC2 tx len s L Cs C).2.1, P1, n1, C1, b1, c1) mi1 ml1 → ((cC2 tx len s L Cs C).1 = 0 → n1 = 0 ∧ C1 = (cC2 tx len s L Cs C).2.2.2 ∧ ClsM t0 mi1 (cC2 tx len s L Cs C).2.2.1) → K (nI (cC2 tx len s L Cs C).1) mi1 ml1) : wp G e tM m_X10_clause 79 [(0, .ref 154)] [.int (nI s)] (mi, ml, RX RM) (QI K) := by
  have hbt := hT.2.2.2
  obtain ⟨k1, k2, k3⟩ := id hC
  have h20 : mi 154 20 = nI (670 * t0) := h.2.1
  unfold cC2 at hK
  apply b_X10_clause_79
  rw [h20, s_ix (by omega), s_in (by omega), k1, s_eq (by omega) (by omega)]
  refine ⟨by omega, fun c1 => ?_, fun c1 => ?_⟩
  · rw [if_neg c1] at hK
    obtain ⟨g1, g2⟩ := stp_gd hbt hL
    have ga := stp_adv hbt hL h0
    refine m_next (y := (L, P, 0, C, b, c)) hT hL h (fun mi1 ml1 o1 z1 => ?_)
    have hC1 := hC.offY o1
    have h20b : mi1 154 20 = nI (670 * t0) := z1.2.1
    have e1 : nI (670 * t0) + nI 1 + nI 3 * nI Cs.length = nI (670 * t0 + 1 + 3 * Cs.length) := by rw [pk_mul, nI_add, nI_add]
    have e2 : nI (670 * t0 + 1 + 3 * Cs.length) + nI 1 = nI (670 * t0 + 1 + 3 * Cs.length + 1) := nI_add _ _
    have e3 : nI (670 * t0 + 1 + 3 * Cs.length) + nI 2 = nI (670 * t0 + 1 + 3 * Cs.length + 2) := nI_add _ _
    rw [h20b, e1, e2, e3, s_in (by omega), s_in (by omega), s_ix (by omega), s_ix (by omega), s_ix (by omega)]
    refine ⟨by omega, by omega, ?_⟩
    have e4 : u2 mi1 157 (670 * t0 + 1 + 3 * Cs.length) (nI s) 154 21 = nI C.length := by rw [u2_off (by omega)]; exact z1.2.2.1
    rw [e4]
    have z2 := (z1.low (k := 670 * t0 + 1 + 3 * Cs.length) (by omega) (v := nI s)).low (k := 670 * t0 + 1 + 3 * Cs.length + 1) (by omega) (v := nI C.length)
    have hT2 := ((hT.offY o1).low (k := 670 * t0 + 1 + 3 * Cs.length) (v := nI s)).low (k := 670 * t0 + 1 + 3 * Cs.length + 1) (v := nI C.length)
    have o2 : offTx t0 mi (u2 (u2 mi1 157 (670 * t0 + 1 + 3 * Cs.length) (nI s)) 157 (670 * t0 + 1 + 3 * Cs.length + 1) (nI C.length)) := (o1.toTx.p157 (by omega)).p157 (by omega)
    have w1 : u2 (u2 mi1 157 (670 * t0 + 1 + 3 * Cs.length) (nI s)) 157 (670 * t0 + 1 + 3 * Cs.length + 1) (nI C.length) 157 (670 * t0 + 1 + 3 * Cs.length) = nI s := by rw [u2_ne (by omega), u2_at]
    have w2 : u2 (u2 mi1 157 (670 * t0 + 1 + 3 * Cs.length) (nI s)) 157 (670 * t0 + 1 + 3 * Cs.length + 1) (nI C.length) 157 (670 * t0 + 1 + 3 * Cs.length + 1) = nI C.length := u2_at
    have w3 : ClsM t0 (u2 (u2 mi1 157 (670 * t0 + 1 + 3 * Cs.length) (nI s)) 157 (670 * t0 + 1 + 3 * Cs.length + 1) (nI C.length)) Cs := by
      obtain ⟨x1, x2, x3⟩ := hC1
      refine ⟨by rw [u2_ne (by omega), u2_ne (by omega)]; exact x1, x2, fun i hi => ?_⟩
      rw [u2_ne (by omega), u2_ne (by omega), u2_ne (by omega), u2_ne (by omega), u2_ne (by omega), u2_ne (by omega)]
      exact x3 i hi
    generalize u2 (u2 mi1 157 (670 * t0 + 1 + 3 * Cs.length) (nI s)) 157 (670 * t0 + 1 + 3 * Cs.length + 1) (nI C.length) = mi2 at *
    refine m_summed ht0 hl hT2 z2 g1 (by show C.length ≤ (stp tx len L).2.1; omega) (stp_wd _) (fun mi3 ml3 P3 n3 C3 b3 c3 o3 z3 y3 => ?_)
    have hv5 : (cSum tx len (cOne tx len 8) (stp tx len L)).1 < 5 := cSum_v _
    have ha3 := cSum_adv hbt (cOne_adv hbt 8) _ g1
    have w1b := o3.2.2 (670 * t0 + 1 + 3 * Cs.length) (by omega)
    have w2b := o3.2.2 (670 * t0 + 1 + 3 * Cs.length + 1) (by omega)
    have w3b := w3.offY o3
    rw [w1] at w1b
    rw [w2] at w2b
    generalize cSum tx len (cOne tx len 8) (stp tx len L) = r at *
    obtain ⟨v, L3, C4⟩ := r
    dsimp only at *
    have h20c : mi3 154 20 = nI (670 * t0) := z3.2.1
    have h21c : mi3 154 21 = nI C3.length := z3.2.2.1
    rw [s_eq (by omega) (by omega)]
    refine ⟨fun c4 => ?_, fun c4 => ?_⟩
    · obtain ⟨y4, y5⟩ := y3 c4
      subst y5
      have e5 : ∀ k v, u2 mi3 157 k v 154 20 = nI (670 * t0) := fun k v => by rw [u2_off (by omega)]; exact h20c
      have e6 : ∀ k v, u2 mi3 157 k v 154 17 = mi3 154 17 := fun k v => by rw [u2_off (by omega)]
      rw [if_pos c4] at hK
      obtain ⟨x1, x2, x3⟩ := w3b
      rw [s_in (by omega), h21c, e5, s_in (by omega), s_ix (by omega), u2_ne (by omega), x1, nI_add]
      have z4 := (z3.low (k := 670 * t0 + 1 + 3 * Cs.length + 2) (by omega) (v := nI (C ++ C4).length)).low (k := 670 * t0) (by omega) (v := nI (Cs.length + 1))
      have hT4 := (hT2.offY o3).low (k := 670 * t0 + 1 + 3 * Cs.length + 2) (v := nI (C ++ C4).length) |>.low (k := 670 * t0) (v := nI (Cs.length + 1))
      have o4 : offTx t0 mi (u2 (u2 mi3 157 (670 * t0 + 1 + 3 * Cs.length + 2) (nI (C ++ C4).length)) 157 (670 * t0) (nI (Cs.length + 1))) := ((o2.trans o3.toTx).p157 (by omega)).p157 (by omega)
      have hcl : ClsM t0 (u2 (u2 mi3 157 (670 * t0 + 1 + 3 * Cs.length + 2) (nI (C ++ C4).length)) 157 (670 * t0) (nI (Cs.length + 1))) (Cs ++ [(s, C.length, (C ++ C4).length)]) := by
        have hcl1 : (Cs ++ [(s, C.length, (C ++ C4).length)]).length = Cs.length + 1 := List.length_append
        refine ⟨by rw [u2_at, hcl1], by rw [hcl1]; omega, fun i hi => ?_⟩
        rw [hcl1] at hi
        by_cases c5 : i = Cs.length
        · subst c5
          rw [get3_end, u2_ne (by omega), u2_ne (by omega), u2_ne (by omega), u2_ne (by omega), u2_ne (by omega), u2_at]
          exact ⟨w1b, w2b, rfl⟩
        · rw [get3_lt (by omega), u2_ne (by omega), u2_ne (by omega), u2_ne (by omega), u2_ne (by omega), u2_ne (by omega), u2_ne (by omega)]
          exact x3 i (by omega)
      have ht17 : u2 (u2 mi3 157 (670 * t0 + 1 + 3 * Cs.length + 2) (nI (C ++ C4).length)) 157 (670 * t0) (nI (Cs.length + 1)) 154 17 = nI (tmp L3.1) := z4.1.2.2.1
      generalize u2 (u2 mi3 157 (670 * t0 + 1 + 3 * Cs.length + 2) (nI (C ++ C4).length)) 157 (670 * t0) (nI (Cs.length + 1)) = mi4 at *
      have h256 : L3.1 < 300 := by have := ha3.1.1.1; omega
      rw [ht17, tmp_is (t := L3.1) 59 (by omega) h256 (by omega)]
      refine ⟨by omega, by omega, by omega, fun c5 => ?_, fun c5 => ?_⟩
      · rw [if_pos c5] at hK
        refine m_next (y := (L3, P3, n3, C ++ C4, b3, c3)) hT4 ha3.1 z4 (fun mi5 ml5 o5 z5 => ?_)
        exact hK mi5 ml5 P3 n3 (C ++ C4) b3 c3 (o4.trans o5.toTx) z5 (fun _ => ⟨y4, rfl, hcl.offY o5⟩)
      · rw [if_neg c5] at hK
        exact hK mi4 ml3 P3 n3 (C ++ C4) b3 c3 o4 z4 (fun z => absurd (show (1 : Nat) = 0 from z) (by decide))
    · rw [if_neg c4] at hK
      exact hK mi3 ml3 P3 n3 C3 b3 c3 (o2.trans o3.toTx) z3 (fun z => absurd z c4)
  · rw [if_pos c1] at hK
    exact hK mi ml P 0 C b c (offTx.refl t0 mi) h (fun z => absurd (show (4 : Nat) = 0 from z) (by decide))
theorem m_clause {K : Int32 → (Nat → Nat → Int32) → (Nat → Nat → Int64) → Prop} (ht0 : t0 < 4) (hl : len ≤ 300) {mi : Nat → Nat → Int32} {ml : Nat → Nat → Int64} (hT : Mtp len tx mi) {L : Lx} {P : List Nat} {C : List (Nat × Nat)} {Cs : List (Nat × Nat × Nat)} {b c : Bool} (h : Ym tx t0 (L, P, 0, C, b, c) mi ml) (hC : ClsM t0 mi Cs) (hL : Lgd len L) (hwd : Lwd tx L) (hCl : C.length ≤ L.2.1) (hK : ∀ mi1 ml1 P1 n1 C1 b1 c1, offTx t0 mi mi1 → Ym tx t0 ((cCl tx len L Cs C).2.1, P1, n1, C1, b1, c1) mi1 ml1 → ((cCl tx len L Cs C).1 = 0 → n1 = 0 ∧ C1 = (cCl tx len L Cs C).2.2.2 ∧ ClsM t0 mi1 (cCl tx len L Cs C).2.2.1) → K (nI (cCl tx len L Cs C).1) mi1 ml1) : wpI G e 168 m_X10_clause [.ref 154] (mi, ml, RX RM) K := by
  have hbt := hT.2.2.2
  have h256 : L.1 < 300 := by have := hL.1.1; omega
  have h17 : mi 154 17 = nI (tmp L.1) := h.1.2.2.1
  unfold cCl at hK
  have f1 : ¬ isw tx L wMap = true → ¬ isw tx L wMod = true → K (nI 1) mi ml := fun n1 n2 => by
    rw [if_neg n1, if_neg n2] at hK
    exact hK mi ml P 0 C b c (offTx.refl t0 mi) h (fun z => absurd (show (1 : Nat) = 0 from z) (by decide))
  apply e_X10_clause
  rw [h17, tmp_2 h256]
  refine ⟨fun c1 => ?_, fun c1 => ?_⟩
  · exact f1 (fun z => c1 (isw_tok z)) (fun z => c1 (isw_tok z))
  · have hm := isw_t hbt h.1 c1 (hL.2 (by omega)).1 (hwd c1) (ws := wMap) (by decide) (by decide) (fun i => by
      unfold wMap
      rcases i with _ | _ | _ | i
      · decide
      · decide
      · decide
      · exact Nat.lt_of_le_of_lt (Nat.le_of_eq (by rfl : List.getD [109, 97, 112] (i + 3) 0 = 0)) (by decide)) (by decide)
    have hd := isw_t hbt h.1 c1 (hL.2 (by omega)).1 (hwd c1) (ws := wMod) (by decide) (by decide) (fun i => by
      unfold wMod
      rcases i with _ | _ | _ | _ | _ | _ | i
      · decide
      · decide
      · decide
      · decide
      · decide
      · decide
      · exact Nat.lt_of_le_of_lt (Nat.le_of_eq (by rfl : List.getD [109, 111, 100, 117, 108, 101] (i + 6) 0 = 0)) (by decide)) (by decide)
    refine e_X10_w3 _ _ _ ?_
    rw [wMap_v]
    have h0 : L.1 ≠ 0 := by omega
    refine ⟨fun c2 => ?_, fun c2 => ?_⟩
    · rw [if_pos (hm.mp c2)] at hK
      refine e_X10_w3 _ _ _ ?_
      rw [wMap_v]
      exact ⟨fun z => absurd c2 z, fun _ => m_clause2 ht0 hl hT h hC hL h0 hCl 1 hK⟩
    · rw [if_neg (fun z => c2 (hm.mpr z))] at hK
      refine e_X10_w3 _ _ _ ?_
      refine e_X10_w3 _ _ _ ?_
      rw [wMod_v]
      refine ⟨fun c3 => ?_, fun c3 => ?_⟩
      · rw [if_pos (hd.mp c3)] at hK
        refine e_X10_w3 _ _ _ ?_
        rw [wMap_v]
        exact ⟨fun _ => m_clause2 ht0 hl hT h hC hL h0 hCl 0 hK, fun z => absurd z c2⟩
      · exact f1 (fun z => c2 (hm.mpr z)) (fun z => c3 (hd.mpr z))
end MCL
