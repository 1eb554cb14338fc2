/-! the reference: a whole sum of a clause -/
section MSM
variable {G : GC} {e len t0 : Nat} {tx : Nat → Nat}
theorem Ym.f22 {L : Lx} {P : List Nat} {n : Nat} {C : List (Nat × Nat)} {b c : Bool} {mi : Nat → Nat → Int32} {ml : Nat → Nat → Int64} (h : Ym tx t0 (L, P, n, C, b, c) mi ml) : Ym tx t0 (L, [], n, C, b, c) (u2 mi 154 22 (nI 0)) ml := by
  obtain ⟨y1, y20, y21, y22, y23, y25, y26, yP, yC⟩ := h
  exact ⟨y1.same (fun k a b => by rw [u2_ne (by omega)]), by rw [u2_ne (by omega)]; exact y20, by rw [u2_ne (by omega)]; exact y21, u2_at, by rw [u2_ne (by omega)]; exact y23, by rw [u2_ne (by omega)]; exact y25, by rw [u2_ne (by omega)]; exact y26, trivial, yC.same (u2_off (by omega))⟩
theorem bgY_v (y : YS) : (bgY tx len y).1 < 5 := by
  unfold bgY
  split
  · split <;> (show _ < 5; omega)
  · split
    · show 0 < 5; omega
    · split
      · unfold opY
        split <;> (show _ < 5; omega)
      · split
        · unfold opY
          split <;> (show _ < 5; omega)
        · show 1 < 5; omega
theorem rsY_v (y : YS) : (rsY tx len y).1 < 5 := by
  unfold rsY
  split
  · split <;> (show _ < 5; omega)
  · show 1 < 5; omega
theorem m_sumE {K : Int32 → (Nat → Nat → Int32) → (Nat → Nat → Int64) → Prop} {mi0 : Nat → Nat → Int32} (ht0 : t0 < 4) (hl : len ≤ 300) {mi : Nat → Nat → Int32} {ml : Nat → Nat → Int64} {y : YS} (ho : offYm t0 mi0 mi) (h : Ym tx t0 y mi ml) (hI : YI len y) (hK : ∀ mi1 ml1, offYm t0 mi0 mi1 → Ym tx t0 (enY y).2 mi1 ml1 → K (nI (enY y).1) mi1 ml1) : wp G e tM m_X10_summed 12 [(0, .ref 154), (1, .int (nI 0))] [] (mi, ml, RX RM) (QI K) := by
  obtain ⟨b1, b2, b3, b4⟩ := hI.bd hl
  obtain ⟨i1, i2, i3, i4, i5⟩ := id hI
  obtain ⟨L, P, n, C, b, c⟩ := y
  dsimp only at *
  apply b_X10_summed_12
  refine ⟨fun _ => ?_, fun z => absurd rfl z⟩
  apply e_X10_settle
  refine m_settle (mi0 := mi) (L := L) (b := b) (c := c) ht0 (by omega) (Z := stl 1 P n C) (fun mi1 o1 z1 => ?_) P n C mi (offYm.refl t0 mi) h (by omega) (by omega) b4 i4 rfl
  have hs : s1Y (L, P, n, C, b, c) = (L, (stl 1 P n C).1, (stl 1 P n C).2.1, (stl 1 P n C).2.2, b, c) := rfl
  obtain ⟨d1, d2, d3, d4⟩ := (s1Y_ok hI).bd hl
  unfold enY at hK
  rw [hs] at hK d1 d2
  dsimp only at hK d1 d2
  have z22 : mi1 154 22 = nI (stl 1 P n C).1.length := z1.2.2.2.1
  generalize stl 1 P n C = Z at *
  obtain ⟨P1, n1, C1⟩ := Z
  dsimp only at *
  rw [z22, s_le (by omega) (by omega)]
  refine ⟨fun c0 => ?_, fun c0 => ?_⟩
  · cases P1 with
    | cons o P2 => exact absurd (show (o :: P2).length ≤ 0 from c0) (by rw [List.length_cons]; omega)
    | nil =>
      rw [if_pos rfl] at hK
      exact hK mi1 ml (ho.trans o1) z1
  · cases P1 with
    | cons o P2 =>
      rw [if_neg (List.cons_ne_nil _ _)] at hK
      exact hK mi1 ml (ho.trans o1) z1
    | nil => exact absurd (show (0 : Nat) ≤ 0 from Nat.le_refl _) c0
theorem m_sumL {K : Int32 → (Nat → Nat → Int32) → (Nat → Nat → Int64) → Prop} {mi0 : Nat → Nat → Int32} (ht0 : t0 < 4) (hl : len ≤ 300) (hT : Mtp len tx mi0) {v : Nat} {y1 : YS} (hK : ∀ mi1 ml1, offYm t0 mi0 mi1 → Ym tx t0 y1 mi1 ml1 → K (nI v) mi1 ml1) : ∀ (f : Nat) (mi : Nat → Nat → Int32) (ml : Nat → Nat → Int64) (y : YS), offYm t0 mi0 mi → Ym tx t0 y mi ml → YI len y → Lwd tx y.1 → ryn tx len f y = some (v, y1) → wp G e tM m_X10_summed 12 [(0, .ref 154), (1, .int (nI 1))] [] (mi, ml, RX RM) (QI K)
  | 0, mi, ml, y, ho, h, hI, hwd, hr => absurd (show (none : Option (Nat × YS)) = some (v, y1) from hr) (by simp)
  | f + 1, mi, ml, y, ho, h, hI, hwd, hr => by
    have hr1 : (if y.2.2.2.2.1 = false then (if (bgY tx len y).1 = 0 then ryn tx len f (bgY tx len y).2 else some (bgY tx len y))
      else if y.1.1 = 94 ∧ y.2.2.2.2.2 = true then (if (rsY tx len y).1 = 0 then ryn tx len f (rsY tx len y).2 else some (rsY tx len y))
      else if (bhY tx len y).1 = true then ryn tx len f (bhY tx len y).2 else some (enY (bhY tx len y).2)) = some (v, y1) := hr
    have hT1 := hT.offY ho
    have hbt := hT.2.2.2
    have h25 : mi 154 25 = nI (b2n y.2.2.2.2.1) := h.2.2.2.2.2.1
    have h26 : mi 154 26 = nI (b2n y.2.2.2.2.2) := h.2.2.2.2.2.2.1
    have h17 : mi 154 17 = nI (tmp y.1.1) := h.1.2.2.1
    have hb2 := b2n_lt y.2.2.2.2.1
    have hb3 := b2n_lt y.2.2.2.2.2
    have h256 : y.1.1 < 300 := by have := hI.1.1.1; omega
    have q94 := tmp_is (t := y.1.1) 94 (by omega) h256 (by omega)
    have bh : ¬ (y.2.2.2.2.1 = false) → ¬ (y.1.1 = 94 ∧ y.2.2.2.2.2 = true) → wpI G e 168 m_X10_behindOne [.ref 154] (mi, ml, RX RM) (fun r mi6 ml7 => ((nI 0 = nI 0 → wp G e tM m_X10_summed 12 [(0, .ref 154), (1, .int r)] [] (mi6, ml7, RX RM) (QI K)) ∧ (¬ nI 0 = nI 0 → K (nI 0) mi6 ml7))) := fun c1 c2 => by
      rw [if_neg c1, if_neg c2] at hr1
      refine m_behindOne ht0 hl hT1 h hI (fun mi1 ml1 o1 z1 => ⟨fun _ => ?_, fun z => absurd rfl z⟩)
      by_cases c3 : (bhY tx len y).1 = true
      · rw [if_pos c3] at hr1
        rw [c3]
        have hok := bhY_ok hbt hI
        exact m_sumL ht0 hl hT hK f mi1 ml1 _ (ho.trans o1) z1 hok (bhY_wd hwd) hr1
      · rw [if_neg c3] at hr1
        have c4 : (bhY tx len y).1 = false := by simpa using c3
        rw [c4]
        injection hr1 with hr2
        have hv : (enY (bhY tx len y).2).1 = v := by rw [hr2]
        have hy : (enY (bhY tx len y).2).2 = y1 := by rw [hr2]
        refine m_sumE ht0 hl (ho.trans o1) z1 (bhY_ok hbt hI) (fun mi2 ml2 o2 z2 => ?_)
        rw [hy] at z2
        rw [hv]
        exact hK mi2 ml2 o2 z2
    apply b_X10_summed_12
    rw [h25, h26, h17, s_eq (by omega) (by omega), s_eq (by omega) (by omega)]
    refine ⟨fun z => absurd z (by decide), fun _ => ⟨fun c1 => ⟨fun c2 => bh ?_ ?_, fun c2 => ⟨fun c3 => bh ?_ ?_, fun c3 => ?_⟩⟩, fun c1 => ?_⟩⟩
    · intro z; rw [z] at c1; exact c1 rfl
    · intro z; exact c2 (q94.mpr z.1)
    · intro z; rw [z] at c1; exact c1 rfl
    · intro z; rw [z.2] at c3; exact absurd c3 (by decide)
    · rw [if_neg (fun z => by rw [z] at c1; exact c1 rfl), if_pos ⟨q94.mp c2, by
        cases hh : y.2.2.2.2.2
        · rw [hh] at c3; exact absurd rfl c3
        · rfl⟩] at hr1
      have hv5 := rsY_v (tx := tx) (len := len) y
      have hne := q94.mp c2
      refine m_raises ht0 hl hT1 h hI (by omega) (fun mi1 ml1 o1 z1 => ?_)
      rw [s_eq (by omega) (by omega)]
      refine ⟨fun c4 => ?_, fun c4 => ?_⟩
      · rw [if_pos c4] at hr1
        exact m_sumL ht0 hl hT hK f mi1 ml1 _ (ho.trans o1) z1 (rsY_ok hbt hI (by omega)) rsY_wd hr1
      · rw [if_neg c4] at hr1
        injection hr1 with hr2
        rw [hr2] at z1 ⊢
        exact hK mi1 ml1 (ho.trans o1) z1
    · have c5 : y.2.2.2.2.1 = false := by
        cases hh : y.2.2.2.2.1
        · rfl
        · rw [hh] at c1; exact absurd (show (1 : Nat) = 0 from c1) (by decide)
      rw [if_pos c5] at hr1
      have hv5 := bgY_v (tx := tx) (len := len) y
      refine m_beginOne ht0 hl hT1 h hI hwd (fun mi1 ml1 o1 z1 => ?_)
      rw [s_eq (by omega) (by omega)]
      refine ⟨fun c4 => ?_, fun c4 => ?_⟩
      · rw [if_pos c4] at hr1
        exact m_sumL ht0 hl hT hK f mi1 ml1 _ (ho.trans o1) z1 (bgY_ok hbt hI) (bgY_wd hwd) hr1
      · rw [if_neg c4] at hr1
        injection hr1 with hr2
        rw [hr2] at z1 ⊢
        exact hK mi1 ml1 (ho.trans o1) z1
theorem m_summed {K : Int32 → (Nat → Nat → Int32) → (Nat → Nat → Int64) → Prop} (ht0 : t0 < 4) (hl : len ≤ 300) {mi : Nat → Nat → Int32} {ml : Nat → Nat → Int64} (hT : Mtp len tx mi) {L : Lx} {P : List Nat} {C : List (Nat × Nat)} {b c : Bool} (h : Ym tx t0 (L, P, 0, C, b, c) mi ml) (hL : Lgd len L) (hC : C.length ≤ L.2.1) (hwd : Lwd tx L) (hK : ∀ mi1 ml1 P1 n1 C1 b1 c1, offYm t0 mi mi1 → Ym tx t0 ((cSum tx len (cOne tx len 8) L).2.1, P1, n1, C1, b1, c1) mi1 ml1 → ((cSum tx len (cOne tx len 8) L).1 = 0 → n1 = 0 ∧ C1 = C ++ (cSum tx len (cOne tx len 8) L).2.2) → K (nI (cSum tx len (cOne tx len 8) L).1) mi1 ml1) : wpI G e 168 m_X10_summed [.ref 154] (mi, ml, RX RM) K := by
  apply e_X10_summed
  refine ⟨Or.inl rfl, ?_⟩
  have z1 := (h.f22).f25 false
  have o1 : offYm t0 mi (u2 (u2 mi 154 22 (nI 0)) 154 25 (nI 0)) := ((offYm.refl t0 mi).p154 (by omega)).p154 (by omega)
  obtain ⟨j, y1, hj, hy1, hy2⟩ := top_sim (tx := tx) hT.2.2.2 hl L C c hL
  refine m_sumL ht0 hl hT (v := (cSum tx len (cOne tx len 8) L).1) (y1 := y1) (fun mi1 ml1 o2 z2 => ?_) (j + 0) _ _ (L, [], 0, C, false, c) o1 z1 ⟨hL, trivial, rfl, by show 0 ≤ 8; omega, by show 0 + C.length ≤ L.2.1; omega⟩ hwd (hj 0)
  obtain ⟨L1, P1, n1, C1, b1, c1⟩ := y1
  have hy3 : L1 = (cSum tx len (cOne tx len 8) L).2.1 := hy1
  rw [hy3] at z2
  exact hK mi1 ml1 P1 n1 C1 b1 c1 o2 z2 hy2
end MSM
