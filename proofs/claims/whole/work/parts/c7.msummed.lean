/-! the reference: sums -/
section MSD
variable {G : GC} {e len t0 : Nat} {tx : Nat → Nat}
theorem opY_wd {y : YS} {o : Nat} (h : Lwd tx y.1) : Lwd tx (opY tx len y o).2.1 := by
  unfold opY
  split
  · exact h
  · exact stp_wd _
theorem bgY_wd {y : YS} (h : Lwd tx y.1) : Lwd tx (bgY tx len y).2.1 := by
  unfold bgY
  split
  · split
    · exact stp_wd _
    · exact h
  · split
    · exact stp_wd _
    · split
      · exact opY_wd h
      · split
        · exact opY_wd h
        · exact h
theorem rsY_wd {y : YS} : Lwd tx (rsY tx len y).2.1 := by
  unfold rsY
  split
  · split
    · exact stp_wd _
    · exact stp_wd _
  · exact stp_wd _
theorem bhY_wd {y : YS} (h : Lwd tx y.1) : Lwd tx (bhY tx len y).2.1 := by
  unfold bhY
  split
  · exact stp_wd _
  · split
    · exact stp_wd _
    · split
      · exact stp_wd _
      · split
        · split
          · exact h
          · exact stp_wd _
        · exact h
theorem tmp_is {t : Nat} (k : Nat) (hk : 3 < k) (ht : t < 300) (hk2 : k < 300) : nI (tmp t) = nI k ↔ t = k := by
  have htm : tmp t < 300 ∧ (tmp t = k ↔ t = k) := by
    unfold tmp
    by_cases a1 : t = 1
    · rw [if_pos a1]; omega
    by_cases a2 : t = 2
    · rw [if_neg a1, if_pos a2]; omega
    by_cases a3 : t = 3
    · rw [if_neg a1, if_neg a2, if_pos a3]; omega
    rw [if_neg a1, if_neg a2, if_neg a3]; omega
  rw [s_eq (by omega) (by omega)]
  exact htm.2
theorem tmp_1 {t : Nat} (ht : t < 300) : nI (tmp t) = nI 1 ↔ t = 2 := by
  have htm : tmp t < 300 ∧ (tmp t = 1 ↔ t = 2) := by
    unfold tmp
    by_cases a1 : t = 1
    · rw [if_pos a1]; omega
    by_cases a2 : t = 2
    · rw [if_neg a1, if_pos a2]; omega
    by_cases a3 : t = 3
    · rw [if_neg a1, if_neg a2, if_pos a3]; omega
    rw [if_neg a1, if_neg a2, if_neg a3]; omega
  rw [s_eq (by omega) (by omega)]
  exact htm.2
theorem tmp_2 {t : Nat} (ht : t < 300) : nI (tmp t) = nI 2 ↔ t = 3 := by
  have htm : tmp t < 300 ∧ (tmp t = 2 ↔ t = 3) := by
    unfold tmp
    by_cases a1 : t = 1
    · rw [if_pos a1]; omega
    by_cases a2 : t = 2
    · rw [if_neg a1, if_pos a2]; omega
    by_cases a3 : t = 3
    · rw [if_neg a1, if_neg a2, if_pos a3]; omega
    rw [if_neg a1, if_neg a2, if_neg a3]; omega
  rw [s_eq (by omega) (by omega)]
  exact htm.2
theorem tmp_0 {t : Nat} (ht : t < 300) : nI (tmp t) = nI 0 ↔ t = 0 := by
  have htm : tmp t < 300 ∧ (tmp t = 0 ↔ t = 0) := by
    unfold tmp
    by_cases a1 : t = 1
    · rw [if_pos a1]; omega
    by_cases a2 : t = 2
    · rw [if_neg a1, if_pos a2]; omega
    by_cases a3 : t = 3
    · rw [if_neg a1, if_neg a2, if_pos a3]; omega
    rw [if_neg a1, if_neg a2, if_neg a3]; omega
  rw [s_eq (by omega) (by omega)]
  exact htm.2
theorem Ym.f25 {L : Lx} {P : List Nat} {n : Nat} {C : List (Nat × Nat)} {b c : Bool} {mi : Nat → Nat → Int32} {ml : Nat → Nat → Int64} (h : Ym tx t0 (L, P, n, C, b, c) mi ml) (v : Bool) : Ym tx t0 (L, P, n, C, v, c) (u2 mi 154 25 (nI (b2n v))) ml := by
  obtain ⟨y1, y20, y21, y22, y23, y25, y26, yP, yC⟩ := h
  exact ⟨y1.same (fun k a b => by rw [u2_ne (by omega)]), by rw [u2_ne (by omega)]; exact y20, by rw [u2_ne (by omega)]; exact y21, by rw [u2_ne (by omega)]; exact y22, by rw [u2_ne (by omega)]; exact y23, u2_at, by rw [u2_ne (by omega)]; exact y26, yP.same (u2_off (by omega)), yC.same (u2_off (by omega))⟩
theorem Ym.f26 {L : Lx} {P : List Nat} {n : Nat} {C : List (Nat × Nat)} {b c : Bool} {mi : Nat → Nat → Int32} {ml : Nat → Nat → Int64} (h : Ym tx t0 (L, P, n, C, b, c) mi ml) (v : Bool) : Ym tx t0 (L, P, n, C, b, v) (u2 mi 154 26 (nI (b2n v))) ml := by
  obtain ⟨y1, y20, y21, y22, y23, y25, y26, yP, yC⟩ := h
  exact ⟨y1.same (fun k a b => by rw [u2_ne (by omega)]), by rw [u2_ne (by omega)]; exact y20, by rw [u2_ne (by omega)]; exact y21, by rw [u2_ne (by omega)]; exact y22, by rw [u2_ne (by omega)]; exact y23, by rw [u2_ne (by omega)]; exact y25, u2_at, yP.same (u2_off (by omega)), yC.same (u2_off (by omega))⟩
theorem Ym.pop {L : Lx} {o : Nat} {P : List Nat} {n : Nat} {C : List (Nat × Nat)} {b c : Bool} {mi : Nat → Nat → Int32} {ml : Nat → Nat → Int64} (h : Ym tx t0 (L, o :: P, n, C, b, c) mi ml) : Ym tx t0 (L, P, n - 1, C, b, c) (u2 (u2 mi 154 22 (nI P.length)) 154 23 (nI (n - 1))) ml := by
  obtain ⟨y1, y20, y21, y22, y23, y25, y26, yP, yC⟩ := h
  exact ⟨y1.same (fun k a b => by rw [u2_ne (by omega), u2_ne (by omega)]), by rw [u2_ne (by omega), u2_ne (by omega)]; exact y20, by rw [u2_ne (by omega), u2_ne (by omega)]; exact y21, by rw [u2_ne (by omega), u2_at], u2_at, by rw [u2_ne (by omega), u2_ne (by omega)]; exact y25, by rw [u2_ne (by omega), u2_ne (by omega)]; exact y26, yP.2.2.same (by rw [u2_off (by omega), u2_off (by omega)]), yC.same (by rw [u2_off (by omega), u2_off (by omega)])⟩
theorem m_raises {K : Int32 → (Nat → Nat → Int32) → (Nat → Nat → Int64) → Prop} {mi : Nat → Nat → Int32} {ml : Nat → Nat → Int64} {y : YS} (ht0 : t0 < 4) (hl : len ≤ 300) (hT : Mtp len tx mi) (h : Ym tx t0 y mi ml) (hI : YI len y) (h94 : y.1.1 ≠ 0) (hK : ∀ mi1 ml1, offYm t0 mi mi1 → Ym tx t0 (rsY tx len y).2 mi1 ml1 → K (nI (rsY tx len y).1) mi1 ml1) : wpI G e 168 m_X10_raises [.ref 154] (mi, ml, RX RM) K := by
  obtain ⟨b1, b2, b3, b4⟩ := hI.bd hl
  obtain ⟨i1, i2, i3, i4, i5⟩ := id hI
  have hbt := hT.2.2.2
  obtain ⟨L, P, n, C, b, c⟩ := y
  dsimp only at *
  obtain ⟨g1, g2⟩ := stp_gd hbt i1
  have ga := stp_adv hbt i1 h94
  unfold rsY at hK
  dsimp only at hK
  apply e_X10_raises
  refine m_next hT i1 h (fun mi1 ml1 o1 z1 => ?_)
  have ht17 : mi1 154 17 = nI (tmp (stp tx len L).1) := z1.1.2.2.1
  have h256 : (stp tx len L).1 < 300 := by have := g1.1.1; omega
  rw [ht17]
  refine ⟨fun a1 => ?_, fun a1 => ?_⟩
  · have h2 := (tmp_1 h256).mp a1
    rw [if_pos h2] at hK
    obtain ⟨v, v1, v2, v3, v4⟩ := z1.1.2.2.2.1 h2
    dsimp only at v1 v3 v4
    have hgl := (g1.2 (by omega)).2
    rw [v1, s_le (by omega) (by omega)]
    refine ⟨fun a2 => ?_, fun a2 => ?_⟩
    · have e5 := v4 (by omega)
      rw [if_pos (by omega), e5] at hK
      refine m_emit ht0 z1 (by show C.length < 302; omega) (fun mi2 o2 z2 _ => ?_)
      refine m_next (y := (stp tx len L, P, n, C ++ [(6, v)], b, c)) ((hT.offY o1).offY o2) g1 z2 (fun mi3 ml3 o3 z3 => ?_)
      exact ⟨Or.inl rfl, hK _ ml3 (((o1.trans o2).trans o3).p154 (by omega)) (z3.f26 false)⟩
    · rw [if_neg (by
        intro z
        have := v4 (v3.mpr (by omega))
        omega)] at hK
      exact hK mi1 ml1 o1 z1
  · rw [if_neg (fun z => a1 ((tmp_1 h256).mpr z))] at hK
    exact hK mi1 ml1 o1 z1
theorem m_bin {K : Int32 → (Nat → Nat → Int32) → (Nat → Nat → Int64) → Prop} {mi : Nat → Nat → Int32} {ml : Nat → Nat → Int64} {y : YS} (ht0 : t0 < 4) (hl : len ≤ 300) (hT : Mtp len tx mi) (h : Ym tx t0 y mi ml) (hI : YI len y) {o : Nat} (ho : o = 3 ∨ o = 4 ∨ o = 5) (hK : ∀ mi1 ml1, offYm t0 mi mi1 → Ym tx t0 (bnY tx len y o) mi1 ml1 → K (nI 1) mi1 ml1) : wpI G e 168 m_X10_rank [.int (nI o)] (mi, ml, (RX RM)) (fun r54 mi52 ml53 => (wpV G e 168 m_X10_settle [.ref 154, .int r54] (mi52, ml53, (RX RM)) (fun mi55 ml56 => (wpV G e 168 m_X10_push [.ref 154, .int (nI o)] (mi55, ml56, (RX RM)) (fun mi57 ml58 => (isB (nI 0) ∧ (wpV G e 168 m_X10_nextToken [.ref 154] ((u2 mi57 154 25 (nI 0)), ml58, (RX RM)) (fun mi59 ml60 => (isB (nI 1) ∧ K (nI 1) mi59 ml60)))))))))  := by
  obtain ⟨b1, b2, b3, b4⟩ := hI.bd hl
  obtain ⟨i1, i2, i3, i4, i5⟩ := id hI
  obtain ⟨L, P, n, C, b, c⟩ := y
  dsimp only at *
  have hrk := rko_lt o
  refine m_rank (by omega) ?_
  apply e_X10_settle
  refine m_settle (mi0 := mi) (L := L) (b := b) (c := c) ht0 (by omega) (Z := stl (rko o) P n C) (fun mi1 o1 z1 => ?_) P n C mi (offYm.refl t0 mi) h (by omega) (by omega) b4 i4 rfl
  obtain ⟨a1, a2, a3, a4, a5⟩ := stl_ok (l := rko o) (by rcases ho with rfl | rfl | rfl <;> decide) P n C i2 i3
  have hl2 := a1.len
  refine m_push z1 (by omega) (by omega) (fun mi2 o2 z2 => ⟨Or.inl rfl, ?_⟩)
  have z3 := z2.f25 false
  have o3 : offYm t0 mi2 (u2 mi2 154 25 (nI 0)) := (offYm.refl t0 mi2).p154 (by omega)
  refine m_next (((hT.offY o1).offY o2).offY o3) i1 z3 (fun mi4 ml4 o4 z4 => ⟨Or.inr rfl, ?_⟩)
  exact hK mi4 ml4 (((o1.trans o2).trans o3).trans o4) z4
theorem m_behindOne {K : Int32 → (Nat → Nat → Int32) → (Nat → Nat → Int64) → Prop} {mi : Nat → Nat → Int32} {ml : Nat → Nat → Int64} {y : YS} (ht0 : t0 < 4) (hl : len ≤ 300) (hT : Mtp len tx mi) (h : Ym tx t0 y mi ml) (hI : YI len y) (hK : ∀ mi1 ml1, offYm t0 mi mi1 → Ym tx t0 (bhY tx len y).2 mi1 ml1 → K (nI (b2n (bhY tx len y).1)) mi1 ml1) : wpI G e 168 m_X10_behindOne [.ref 154] (mi, ml, RX RM) K := by
  obtain ⟨b1, b2, b3, b4⟩ := hI.bd hl
  obtain ⟨i1, i2, i3, i4, i5⟩ := id hI
  have hbt := hT.2.2.2
  have ht17 : mi 154 17 = nI (tmp y.1.1) := h.1.2.2.1
  have h256 : y.1.1 < 300 := by have := i1.1.1; omega
  have q43 := tmp_is (t := y.1.1) 43 (by omega) h256 (by omega)
  have q45 := tmp_is (t := y.1.1) 45 (by omega) h256 (by omega)
  have q42 := tmp_is (t := y.1.1) 42 (by omega) h256 (by omega)
  have q41 := tmp_is (t := y.1.1) 41 (by omega) h256 (by omega)
  unfold bhY at hK
  apply e_X10_behindOne
  rw [ht17]
  refine ⟨fun a1 => ⟨fun a2 => ⟨fun a3 => ⟨fun _ => ⟨fun a4 => ?_, fun a4 => ?_⟩, fun z => absurd (by decide) z⟩, fun a3 => ⟨fun z => absurd z (by decide), fun _ => ?_⟩⟩, fun a2 => ⟨fun z => absurd z (by decide), fun _ => ?_⟩⟩, fun a1 => ⟨fun z => absurd z (by decide), fun _ => ?_⟩⟩
  · rw [if_neg (fun z => a1 (q43.mpr z)), if_neg (fun z => a2 (q45.mpr z)), if_neg (fun z => a3 (q42.mpr z)), if_pos (q41.mp a4)] at hK
    have h41 := q41.mp a4
    obtain ⟨L, P, n, C, b, c⟩ := y
    dsimp only at *
    apply e_X10_settle
    refine m_settle (mi0 := mi) (L := L) (b := b) (c := c) ht0 (by omega) (Z := stl 1 P n C) (fun mi1 o1 z1 => ?_) P n C mi (offYm.refl t0 mi) h (by omega) (by omega) b4 i4 rfl
    obtain ⟨-, -, -, -, a5⟩ := stl_ok (l := 1) (by omega) P n C i2 i3
    have hs : s1Y (L, P, n, C, b, c) = (L, (stl 1 P n C).1, (stl 1 P n C).2.1, (stl 1 P n C).2.2, b, c) := rfl
    have hsI := s1Y_ok hI
    rw [hs] at hK hsI
    dsimp only at hK
    generalize stl 1 P n C = Z at *
    obtain ⟨P1, n1, C1⟩ := Z
    dsimp only at *
    have z22 : mi1 154 22 = nI P1.length := z1.2.2.2.1
    have z23 : mi1 154 23 = nI n1 := z1.2.2.2.2.1
    obtain ⟨d1, d2, d3, d4⟩ := hsI.bd hl
    obtain ⟨j1, j2, j3, j4, j5⟩ := hsI
    dsimp only at *
    rw [z22, s_eq (by omega) (by omega)]
    refine ⟨fun c0 => ?_, fun c0 => ?_⟩
    · cases P1 with
      | nil => exact absurd rfl c0
      | cons o P2 =>
        rw [if_neg (List.cons_ne_nil _ _)] at hK
        have hlen : (o :: P2).length = P2.length + 1 := rfl
        have e22 : nI (o :: P2).length - nI 1 = nI P2.length := by rw [hlen, s_sub (by omega), Nat.add_sub_cancel]
        have j3' : c92 P2 + (if o = 9 ∨ o = 2 then 1 else 0) = n1 := j3
        have ho9 : o = 9 := by
          rcases a5 with z | ⟨x, P3, z, z1⟩
          · exact absurd z (List.cons_ne_nil _ _)
          · obtain ⟨rfl, rfl⟩ : o = x ∧ P2 = P3 := by
              injection z with z1 z2
              exact ⟨z1, z2⟩
            rcases j2.2 with y1 | y1 | ⟨y1, -⟩
            · exact y1
            · rw [y1] at z1
              exact absurd z1 (by decide)
            · exfalso
              rcases y1 with y1 | y1 | y1 <;> (rw [y1] at z1; exact absurd z1 (by decide))
        rw [if_pos (Or.inl ho9)] at j3'
        have e23 : u2 mi1 154 22 (nI P2.length) 154 23 - nI 1 = nI (n1 - 1) := by rw [u2_ne (by omega), z23, s_sub (by omega)]
        rw [e22, e23]
        have z2 := z1.pop
        have o2 : offYm t0 mi1 (u2 (u2 mi1 154 22 (nI P2.length)) 154 23 (nI (n1 - 1))) := ((offYm.refl t0 mi1).p154 (by omega)).p154 (by omega)
        refine m_next ((hT.offY o1).offY o2) i1 z2 (fun mi3 ml3 o3 z3 => ?_)
        obtain ⟨g1, g2⟩ := stp_gd hbt i1
        have ga := stp_adv hbt i1 (by omega)
        refine m_whole ht0 hl z3 ⟨g1, j2.1, by show c92 P2 = n1 - 1; omega, by show n1 - 1 ≤ 8; omega, by show P2.length + C1.length ≤ (stp tx len L).2.1; rw [hlen] at j5; omega⟩ (fun mi4 o4 z4 => ⟨Or.inr rfl, ?_⟩)
        exact hK mi4 ml3 (((o1.trans o2).trans o3).trans o4) z4
    · cases P1 with
      | cons o P2 => exact absurd (show (o :: P2).length = 0 from c0) (by rw [List.length_cons]; omega)
      | nil =>
        rw [if_pos rfl] at hK
        exact ⟨Or.inl rfl, hK mi1 ml o1 z1⟩
  · rw [if_neg (fun z => a1 (q43.mpr z)), if_neg (fun z => a2 (q45.mpr z)), if_neg (fun z => a3 (q42.mpr z)), if_neg (fun z => a4 (q41.mpr z))] at hK
    exact ⟨Or.inl rfl, hK mi ml (offYm.refl t0 mi) h⟩
  · rw [if_neg (fun z => a1 (q43.mpr z)), if_neg (fun z => a2 (q45.mpr z)), if_pos (q42.mp a3)] at hK
    exact m_bin ht0 hl hT h hI (Or.inr (Or.inr rfl)) hK
  · rw [if_neg (fun z => a1 (q43.mpr z)), if_pos (q45.mp a2)] at hK
    exact m_bin ht0 hl hT h hI (Or.inr (Or.inl rfl)) hK
  · rw [if_pos (q43.mp a1)] at hK
    exact m_bin ht0 hl hT h hI (Or.inl rfl) hK
end MSD
