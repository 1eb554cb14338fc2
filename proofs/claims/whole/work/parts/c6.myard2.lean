/-! the reference: how long the pile is; ones, sums -/
def Pok : List Nat → Prop
  | [] => True
  | o :: P => Pok P ∧ (o = 9 ∨ o = 2 ∨ ((o = 3 ∨ o = 4 ∨ o = 5) ∧ (P = [] ∨ ∃ x P1, P = x :: P1 ∧ rko x < rko o)))
def c92 : List Nat → Nat
  | [] => 0
  | o :: P => c92 P + if o = 9 ∨ o = 2 then 1 else 0
def hrk : List Nat → Nat
  | [] => 0
  | o :: _ => if o = 9 ∨ o = 2 then 0 else rko o
theorem Pok.len : ∀ {P : List Nat}, Pok P → P.length ≤ 3 * c92 P + hrk P ∧ hrk P ≤ 2
  | [], _ => ⟨Nat.le_refl _, by decide⟩
  | o :: P, h => by
    obtain ⟨i1, i2⟩ := Pok.len h.1
    show P.length + 1 ≤ 3 * (c92 P + if o = 9 ∨ o = 2 then 1 else 0) + (if o = 9 ∨ o = 2 then 0 else rko o) ∧ (if o = 9 ∨ o = 2 then 0 else rko o) ≤ 2
    by_cases c : o = 9 ∨ o = 2
    · rw [if_pos c, if_pos c]
      omega
    · rw [if_neg c, if_neg c]
      rcases h.2 with z | z | ⟨z, z2⟩
      · exact absurd (Or.inl z) c
      · exact absurd (Or.inr z) c
      · have hr : 1 ≤ rko o ∧ rko o ≤ 2 := by rcases z with rfl | rfl | rfl <;> decide
        rcases z2 with rfl | ⟨x, P1, rfl, hx⟩
        · exact ⟨by show 0 + 1 ≤ _; omega, hr.2⟩
        · have hh : hrk (x :: P1) ≤ rko x := by
            show (if x = 9 ∨ x = 2 then 0 else rko x) ≤ rko x
            split <;> omega
          omega
theorem c92_c2 : ∀ P : List Nat, P.count 2 ≤ c92 P
  | [] => Nat.le_refl _
  | o :: P => by
    have := c92_c2 P
    rw [List.count_cons]
    show _ ≤ c92 P + if o = 9 ∨ o = 2 then 1 else 0
    by_cases c : o = 2
    · rw [if_pos (Or.inr c), c]
      simpa using this
    · have : (if (o == 2) = true then 1 else 0) = 0 := if_neg (by simpa using c)
      rw [this]
      omega
theorem stl_ok {l : Nat} (hl : 1 ≤ l) : ∀ (P : List Nat) (n : Nat) (C : List (Nat × Nat)), Pok P → c92 P = n → Pok (stl l P n C).1 ∧ c92 (stl l P n C).1 = (stl l P n C).2.1 ∧ (stl l P n C).1.length + (stl l P n C).2.2.length = P.length + C.length ∧ (stl l P n C).2.1 ≤ n ∧ ((stl l P n C).1 = [] ∨ ∃ x P1, (stl l P n C).1 = x :: P1 ∧ rko x < l)
  | [], n, C, h, hc => ⟨trivial, hc, rfl, Nat.le_refl _, Or.inl rfl⟩
  | o :: P, n, C, h, hc => by
    have e : stl l (o :: P) n C = if l ≤ rko o then stl l P (if o = 2 then n - 1 else n) (C ++ [(o, 0)]) else (o :: P, n, C) := rfl
    rw [e]
    by_cases c : l ≤ rko o
    · rw [if_pos c]
      have hc1 : c92 P + (if o = 9 ∨ o = 2 then 1 else 0) = n := hc
      have h9 : o ≠ 9 := fun z => by
        rw [z] at c
        have : rko 9 = 0 := rfl
        omega
      have hn : c92 P = if o = 2 then n - 1 else n := by
        by_cases c2 : o = 2
        · rw [if_pos c2]
          rw [if_pos (Or.inr c2)] at hc1
          omega
        · rw [if_neg c2]
          rw [if_neg (by omega)] at hc1
          omega
      obtain ⟨a1, a2, a3, a4, a5⟩ := stl_ok hl P (if o = 2 then n - 1 else n) (C ++ [(o, 0)]) h.1 hn
      refine ⟨a1, a2, ?_, ?_, a5⟩
      · rw [a3, List.length_append]
        show P.length + (C.length + 1) = P.length + 1 + C.length
        omega
      · refine Nat.le_trans a4 ?_
        split <;> omega
    · rw [if_neg c]
      exact ⟨h, hc, rfl, Nat.le_refl _, Or.inr ⟨o, P, rfl, by omega⟩⟩
def YI (len : Nat) (y : YS) : Prop := Lgd len y.1 ∧ Pok y.2.1 ∧ c92 y.2.1 = y.2.2.1 ∧ y.2.2.1 ≤ 8 ∧ y.2.1.length + y.2.2.2.1.length ≤ y.1.2.1
theorem YI.bd {len : Nat} {y : YS} (hl : len ≤ 300) (h : YI len y) : y.2.1.length ≤ 26 ∧ y.2.2.2.1.length ≤ 300 ∧ y.2.1.length + y.2.2.2.1.length ≤ 300 ∧ y.2.1.count 2 ≤ y.2.2.1 := by
  obtain ⟨h1, h2, h3, h4, h5⟩ := h
  have := h2.len
  have := c92_c2 y.2.1
  have := h1.1.2.1
  have := h1.1.2.2.2
  omega
section YIS
variable {tx : Nat → Nat} {len : Nat}
theorem whY_ok {L : Lx} {P : List Nat} {n : Nat} {C : List (Nat × Nat)} (hL : Lgd len L) (h1 : Pok P) (h2 : c92 P = n) (h3 : n ≤ 8) (h4 : P.length + C.length ≤ L.2.1) : YI len (whY L P n C) := by
  obtain ⟨a1, a2, a3, a4, a5⟩ := stl_ok (l := 3) (by omega) P n C h1 h2
  unfold whY
  exact ⟨hL, a1, a2, by show (stl 3 P n C).2.1 ≤ 8; omega, by show (stl 3 P n C).1.length + (stl 3 P n C).2.2.length ≤ L.2.1; omega⟩
theorem bgY_ok (ht : ∀ i, tx i < 256) {y : YS} (h : YI len y) : YI len (bgY tx len y).2 := by
  obtain ⟨h1, h2, h3, h4, h5⟩ := id h
  obtain ⟨L, P, n, C, b, c⟩ := y
  dsimp only at *
  have op : ∀ o, (o = 9 ∨ o = 2) → L.1 ≠ 0 → YI len (opY tx len (L, P, n, C, b, c) o).2 := fun o ho h0 => by
    unfold opY
    dsimp only
    obtain ⟨g1, g2⟩ := stp_gd ht h1
    have ga := stp_adv ht h1 h0
    split
    · exact h
    · refine ⟨g1, ⟨h2, by rcases ho with z | z; exact Or.inl z; exact Or.inr (Or.inl z)⟩, ?_, by show n + 1 ≤ 8; omega, ?_⟩
      · show c92 P + (if o = 9 ∨ o = 2 then 1 else 0) = n + 1
        rw [if_pos ho]
        omega
      · show P.length + 1 + C.length ≤ (stp tx len L).2.1
        omega
  unfold bgY
  dsimp only
  have leaf : ∀ x : Nat × Nat, L.1 ≠ 0 → YI len (whY (stp tx len L) P n (C ++ [x])) := fun x h0 => by
    obtain ⟨g1, g2⟩ := stp_gd ht h1
    have ga := stp_adv ht h1 h0
    refine whY_ok g1 h2 h3 h4 ?_
    rw [List.length_append]
    show P.length + (C.length + 1) ≤ _
    omega
  split
  · split
    · exact leaf _ (by omega)
    · exact h
  · split
    · next c2 =>
      have := isw_tok c2
      exact leaf _ (by omega)
    · split
      · exact op 9 (Or.inl rfl) (by omega)
      · split
        · exact op 2 (Or.inr rfl) (by omega)
        · exact h
theorem rsY_ok (ht : ∀ i, tx i < 256) {y : YS} (h : YI len y) (h94 : y.1.1 ≠ 0) : YI len (rsY tx len y).2 := by
  obtain ⟨h1, h2, h3, h4, h5⟩ := id h
  obtain ⟨L, P, n, C, b, c⟩ := y
  dsimp only at *
  obtain ⟨g1, g2⟩ := stp_gd ht h1
  have ga := stp_adv ht h1 h94
  obtain ⟨g3, g4⟩ := stp_gd ht g1
  unfold rsY
  dsimp only
  split
  · next c2 =>
    have gb := stp_adv ht g1 (by omega)
    split
    · refine ⟨g3, h2, h3, h4, ?_⟩
      show P.length + (C ++ [_]).length ≤ (stp tx len (stp tx len L)).2.1
      rw [List.length_append]
      show P.length + (C.length + 1) ≤ _
      omega
    · exact ⟨g1, h2, h3, h4, by show P.length + C.length ≤ (stp tx len L).2.1; omega⟩
  · exact ⟨g1, h2, h3, h4, by show P.length + C.length ≤ (stp tx len L).2.1; omega⟩
theorem s1Y_ok {y : YS} (h : YI len y) : YI len (s1Y y) := by
  obtain ⟨h1, h2, h3, h4, h5⟩ := id h
  obtain ⟨L, P, n, C, b, c⟩ := y
  dsimp only at *
  obtain ⟨a1, a2, a3, a4, a5⟩ := stl_ok (l := 1) (by omega) P n C h2 h3
  exact ⟨h1, a1, a2, by show (stl 1 P n C).2.1 ≤ 8; omega, by show (stl 1 P n C).1.length + (stl 1 P n C).2.2.length ≤ L.2.1; omega⟩
theorem bnY_ok (ht : ∀ i, tx i < 256) {y : YS} (h : YI len y) (h0 : y.1.1 ≠ 0) {o : Nat} (ho : o = 3 ∨ o = 4 ∨ o = 5) : YI len (bnY tx len y o) := by
  obtain ⟨h1, h2, h3, h4, h5⟩ := id h
  obtain ⟨L, P, n, C, b, c⟩ := y
  dsimp only at *
  have hr : 1 ≤ rko o := by rcases ho with rfl | rfl | rfl <;> decide
  obtain ⟨a1, a2, a3, a4, a5⟩ := stl_ok (l := rko o) hr P n C h2 h3
  obtain ⟨g1, g2⟩ := stp_gd ht h1
  have ga := stp_adv ht h1 h0
  refine ⟨g1, ⟨a1, Or.inr (Or.inr ⟨ho, a5⟩)⟩, ?_, by show (stl (rko o) P n C).2.1 ≤ 8; omega, ?_⟩
  · show c92 (stl (rko o) P n C).1 + (if o = 9 ∨ o = 2 then 1 else 0) = (stl (rko o) P n C).2.1
    rw [if_neg (by omega), Nat.add_zero, a2]
  · show (stl (rko o) P n C).1.length + 1 + (stl (rko o) P n C).2.2.length ≤ (stp tx len L).2.1
    omega
theorem bhY_ok (ht : ∀ i, tx i < 256) {y : YS} (h : YI len y) : YI len (bhY tx len y).2 := by
  unfold bhY
  split
  · next c => exact bnY_ok ht h (by omega) (Or.inl rfl)
  · split
    · next c => exact bnY_ok ht h (by omega) (Or.inr (Or.inl rfl))
    · split
      · next c => exact bnY_ok ht h (by omega) (Or.inr (Or.inr rfl))
      · split
        · next c =>
          have hs := s1Y_ok h
          split
          · exact hs
          · next c2 =>
            obtain ⟨h1, h2, h3, h4, h5⟩ := id hs
            obtain ⟨g1, g2⟩ := stp_gd ht h.1
            have ga := stp_adv ht h.1 (by omega)
            have htop : ∃ P1, (s1Y y).2.1 = 9 :: P1 := by
              obtain ⟨-, -, -, -, a5⟩ := stl_ok (l := 1) (by omega) y.2.1 y.2.2.1 y.2.2.2.1 h.2.1 h.2.2.1
              rcases a5 with z | ⟨x, P1, z, z2⟩
              · exact absurd z c2
              · refine ⟨P1, ?_⟩
                have : x = 9 := by
                  have hx : rko x = 0 := by omega
                  unfold rko at hx
                  by_cases y9 : x = 9
                  · exact y9
                  · rw [if_neg y9] at hx
                    split at hx
                    · omega
                    split at hx <;> omega
                rw [← this]
                exact z
            obtain ⟨P1, hP1⟩ := htop
            have hL : (s1Y y).1 = y.1 := rfl
            rw [hP1] at h2 h3 h5
            rw [hL] at h5
            have h3' : c92 P1 + (if (9 : Nat) = 9 ∨ (9 : Nat) = 2 then 1 else 0) = (s1Y y).2.2.1 := h3
            rw [if_pos (Or.inl rfl)] at h3'
            have h5' : P1.length + 1 + (s1Y y).2.2.2.1.length ≤ y.1.2.1 := h5
            show YI len (whY (stp tx len y.1) (s1Y y).2.1.tail ((s1Y y).2.2.1 - 1) (s1Y y).2.2.2.1)
            rw [hP1]
            exact whY_ok g1 h2.1 (by show c92 P1 = _; omega) (by omega) (by show P1.length + _ ≤ _; omega)
        · exact h
end YIS
section MYE
variable {G : GC} {e len t0 : Nat} {tx : Nat → Nat}
theorem Mtp.offY {mi mi1 : Nat → Nat → Int32} (h : Mtp len tx mi) (ho : offYm t0 mi mi1) : Mtp len tx mi1 := ⟨by rw [ho.2.1 12 (by omega)]; exact h.1, h.2.1, fun i hi => by rw [ho.1 162 (by omega) (by omega) (by omega)]; exact h.2.2.1 i hi, h.2.2.2⟩
theorem Ym.tok {y : YS} {mi mi1 : Nat → Nat → Int32} {ml ml1 : Nat → Nat → Int64} {L : Lx} (h : Ym tx t0 y mi ml) (ho : offN mi mi1) (hL : Lm tx L mi1 ml1) : Ym tx t0 (L, y.2) mi1 ml1 := by
  obtain ⟨y1, y20, y21, y22, y23, y25, y26, yP, yC⟩ := h
  exact ⟨hL, by rw [ho.2 20 (by omega) (by omega) (by omega) (by omega)]; exact y20, by rw [ho.2 21 (by omega) (by omega) (by omega) (by omega)]; exact y21, by rw [ho.2 22 (by omega) (by omega) (by omega) (by omega)]; exact y22, by rw [ho.2 23 (by omega) (by omega) (by omega) (by omega)]; exact y23, by rw [ho.2 25 (by omega) (by omega) (by omega) (by omega)]; exact y25, by rw [ho.2 26 (by omega) (by omega) (by omega) (by omega)]; exact y26, yP.same (ho.1 163 (by omega)), yC.same (ho.1 157 (by omega))⟩
theorem m_next {K : (Nat → Nat → Int32) → (Nat → Nat → Int64) → Prop} {mi : Nat → Nat → Int32} {ml : Nat → Nat → Int64} {y : YS} (hT : Mtp len tx mi) (hL : Lgd len y.1) (h : Ym tx t0 y mi ml) (hK : ∀ mi1 ml1, offYm t0 mi mi1 → Ym tx t0 (stp tx len y.1, y.2) mi1 ml1 → K mi1 ml1) : wpV G e 168 m_X10_nextToken [.ref 154] (mi, ml, RX RM) K :=
  m_nextToken hT hL.1.2.2.2 h.1.1 (fun mi1 ml1 o1 l1 => hK mi1 ml1 o1.toY (h.tok o1 l1))
theorem m_whole {K : (Nat → Nat → Int32) → (Nat → Nat → Int64) → Prop} {mi : Nat → Nat → Int32} {ml : Nat → Nat → Int64} {L : Lx} {P : List Nat} {n : Nat} {C : List (Nat × Nat)} {b c : Bool} (ht0 : t0 < 4) (hl : len ≤ 300) (h : Ym tx t0 (L, P, n, C, b, c) mi ml) (hI : YI len (L, P, n, C, b, c)) (hK : ∀ mi1, offYm t0 mi mi1 → Ym tx t0 (whY L P n C) mi1 ml → K mi1 ml) : wpV G e 168 m_X10_whole [.ref 154] (mi, ml, RX RM) K := by
  obtain ⟨b1, b2, b3, b4⟩ := hI.bd hl
  obtain ⟨i1, i2, i3, i4, i5⟩ := hI
  dsimp only at *
  apply e_X10_whole
  refine ⟨Or.inr rfl, Or.inr rfl, ?_⟩
  apply e_X10_settle
  obtain ⟨y1, y20, y21, y22, y23, y25, y26, yP, yC⟩ := h
  dsimp only at *
  refine m_settle (mi0 := mi) (L := L) (b := true) (c := true) ht0 (by omega) (Z := stl 3 P n C) (fun mi1 o1 z1 => hK mi1 o1 z1) P n C _ (((offYm.refl t0 mi).p154 (by omega)).p154 (by omega)) ?_ (by omega) (by omega) b4 i4 rfl
  exact ⟨y1.same (fun k a b => by rw [u2_ne (by omega), u2_ne (by omega)]), by rw [u2_ne (by omega), u2_ne (by omega)]; exact y20, by rw [u2_ne (by omega), u2_ne (by omega)]; exact y21, by rw [u2_ne (by omega), u2_ne (by omega)]; exact y22, by rw [u2_ne (by omega), u2_ne (by omega)]; exact y23, by rw [u2_ne (by omega), u2_at]; rfl, by rw [u2_at]; rfl, yP.same (by rw [u2_off (by omega), u2_off (by omega)]), yC.same (by rw [u2_off (by omega), u2_off (by omega)])⟩
theorem m_opensBy {K : Int32 → (Nat → Nat → Int32) → (Nat → Nat → Int64) → Prop} {mi : Nat → Nat → Int32} {ml : Nat → Nat → Int64} {y : YS} (hl : len ≤ 300) (hT : Mtp len tx mi) (h : Ym tx t0 y mi ml) (hI : YI len y) {o : Nat} (ho : o = 9 ∨ o = 2) (hK : ∀ mi1 ml1, offYm t0 mi mi1 → Ym tx t0 (opY tx len y o).2 mi1 ml1 → K (nI (opY tx len y o).1) mi1 ml1) : wpI G e 168 m_X10_opensBy [.ref 154, .int (nI o)] (mi, ml, RX RM) K := by
  obtain ⟨b1, b2, b3, b4⟩ := hI.bd hl
  obtain ⟨i1, i2, i3, i4, i5⟩ := hI
  obtain ⟨L, P, n, C, b, c⟩ := y
  dsimp only at *
  obtain ⟨y1, y20, y21, y22, y23, y25, y26, yP, yC⟩ := id h
  dsimp only at *
  unfold opY at hK
  dsimp only at hK
  apply e_X10_opensBy
  rw [y23, s_eq (by omega) (by omega)]
  refine ⟨fun c8 => ?_, fun c8 => ?_⟩
  · rw [if_neg c8] at hK
    rw [nI_add]
    have hY : Ym tx t0 (L, P, n + 1, C, b, c) (u2 mi 154 23 (nI (n + 1))) ml := ⟨y1.same (fun k a b => by rw [u2_ne (by omega)]), by rw [u2_ne (by omega)]; exact y20, by rw [u2_ne (by omega)]; exact y21, by rw [u2_ne (by omega)]; exact y22, u2_at, by rw [u2_ne (by omega)]; exact y25, by rw [u2_ne (by omega)]; exact y26, yP.same (u2_off (by omega)), yC.same (u2_off (by omega))⟩
    have o1 : offYm t0 mi (u2 mi 154 23 (nI (n + 1))) := (offYm.refl t0 mi).p154 (by omega)
    refine m_push hY (by omega) (by omega) (fun mi1 o2 z2 => ?_)
    exact m_next ((hT.offY o1).offY o2) i1 z2 (fun mi2 ml2 o3 z3 => hK mi2 ml2 ((o1.trans o2).trans o3) z3)
  · rw [if_pos c8] at hK
    exact hK mi ml (offYm.refl t0 mi) h
theorem isw_t {L : Lx} {mi : Nat → Nat → Int32} {ml : Nat → Nat → Int64} (hb : ∀ i, tx i < 256) (hL : Lm tx L mi ml) (h3 : L.1 = 3) (hlt : L.2.1 < L.2.2.2) (hnz : 1 ≤ tx L.2.1) {ws : List Nat} (hw : ws.length ≤ 7) (hw1 : 1 ≤ ws.length) (hwb : ∀ i, ws.getD i 0 < 256) (hw0 : 1 ≤ ws.getD 0 0) : (lg_cmp (ml 154 19) (lN (wvf (fun i => ws.getD i 0) ws.length)) = nI 0) ↔ isw tx L ws = true := by
  have hml := hL.2.2.2.2 h3
  have hb1 := wvf_lt (f := fun i => ws.getD i 0) hwb ws.length
  have hb2 := wvf_lt (f := fun i => tx (L.2.1 + i)) (fun i => hb _) (L.2.2.2 - L.2.1)
  have h7 : 256 ^ ws.length ≤ 256 ^ 7 := Nat.pow_le_pow_right (by omega) hw
  have hge1 : 256 ^ (ws.length - 1) ≤ wvf (fun i => ws.getD i 0) ws.length := by
    have := wvf_ge (f := fun i => ws.getD i 0) hw0 (ws.length - 1)
    rw [Nat.sub_add_cancel hw1] at this
    exact this
  have hge2 : 256 ^ (L.2.2.2 - L.2.1 - 1) ≤ wvf (fun i => tx (L.2.1 + i)) (L.2.2.2 - L.2.1) := by
    have := wvf_ge (f := fun i => tx (L.2.1 + i)) (by simpa using hnz) (L.2.2.2 - L.2.1 - 1)
    rw [Nat.sub_add_cancel (by omega)] at this
    exact this
  have hp1 : 1 ≤ 256 ^ (ws.length - 1) := Nat.pow_pos (by omega)
  have wbl_is : ∀ r i, i + r = ws.length → (wbl tx ws L.2.1 r i = true ↔ ∀ j, i ≤ j → j < ws.length → tx (L.2.1 + j) = ws.getD j 0) := by
    intro r
    induction r with
    | zero =>
      intro i hi
      exact ⟨fun _ j a b => absurd b (by omega), fun _ => rfl⟩
    | succ r ih =>
      intro i hi
      have e : wbl tx ws L.2.1 (r + 1) i = if tx (L.2.1 + i) = ws.getD i 0 then wbl tx ws L.2.1 r (i + 1) else false := rfl
      rw [e]
      by_cases c : tx (L.2.1 + i) = ws.getD i 0
      · rw [if_pos c, ih (i + 1) (by omega)]
        refine ⟨fun h j a b => ?_, fun h j a b => h j (by omega) b⟩
        by_cases z : j = i
        · rw [z]; exact c
        · exact h j (by omega) b
      · rw [if_neg c]
        exact ⟨fun h => absurd h Bool.false_ne_true, fun h => absurd (h i (Nat.le_refl _) (by omega)) c⟩
  have hisw : isw tx L ws = true ↔ (L.2.2.2 - L.2.1 = ws.length ∧ ∀ j, j < ws.length → tx (L.2.1 + j) = ws.getD j 0) := by
    unfold isw
    rw [Bool.and_eq_true, decide_eq_true_eq, wbl_is ws.length 0 (by omega)]
    exact ⟨fun h => ⟨h.1.2, fun j hj => h.2 j (Nat.zero_le _) hj⟩, fun h => ⟨⟨h3, h.1⟩, fun j _ hj => h.2 j hj⟩⟩
  rw [hml, hisw]
  unfold wdv
  by_cases c : 7 < L.2.2.2 - L.2.1
  · rw [if_pos c, lg_eq (by omega) (by omega)]
    exact ⟨fun z => absurd z (by omega), fun z => absurd z.1 (by omega)⟩
  · rw [if_neg c]
    have h7b : 256 ^ (L.2.2.2 - L.2.1) ≤ 256 ^ 7 := Nat.pow_le_pow_right (by omega) (by omega)
    rw [lg_eq (by omega) (by omega)]
    refine ⟨fun z => ?_, fun z => ?_⟩
    · have hk : L.2.2.2 - L.2.1 = ws.length := by
        rcases Nat.lt_trichotomy (L.2.2.2 - L.2.1) ws.length with y | y | y
        · have := Nat.pow_le_pow_right (show 0 < 256 by omega) (show L.2.2.2 - L.2.1 ≤ ws.length - 1 by omega)
          omega
        · exact y
        · have := Nat.pow_le_pow_right (show 0 < 256 by omega) (show ws.length ≤ L.2.2.2 - L.2.1 - 1 by omega)
          omega
      rw [hk] at z
      exact ⟨hk, fun j hj => wvf_inj (f := fun i => tx (L.2.1 + i)) (g := fun i => ws.getD i 0) (fun i => hb _) hwb ws.length z j hj⟩
    · rw [z.1]
      exact wvf_ext _ (fun i hi => z.2 i hi)
/-- a word's first byte is a letter -/
def Lwd (tx : Nat → Nat) (L : Lx) : Prop := L.1 = 3 → 1 ≤ tx L.2.1
theorem stp_wd (L : Lx) : Lwd tx (stp tx len L) := by
  unfold Lwd stp tkn
  generalize skp tx len (len - L.2.2.2) L.2.2.2 = p
  intro h
  by_cases c : len ≤ p
  · rw [if_pos c] at h
    exact absurd (show (0 : Nat) = 3 from h) (by decide)
  rw [if_neg c] at h ⊢
  by_cases c1 : bD (tx p) = true
  · rw [if_pos c1] at h
    exact absurd (show (2 : Nat) = 3 from h) (by decide)
  rw [if_neg c1] at h ⊢
  by_cases c2 : bL (tx p) = true
  · rw [if_pos c2]
    show 1 ≤ tx p
    unfold bL at c2
    rw [decide_eq_true_eq] at c2
    omega
  rw [if_neg c2] at h ⊢
  by_cases c3 : bS (tx p) = true
  · rw [if_pos c3] at h
    unfold bS at c3
    rw [decide_eq_true_eq] at c3
    have : tx p = 3 := h
    omega
  · rw [if_neg c3] at h
    exact absurd (show (1 : Nat) = 3 from h) (by decide)
theorem m_beginOne {K : Int32 → (Nat → Nat → Int32) → (Nat → Nat → Int64) → Prop} {mi : Nat → Nat → Int32} {ml : Nat → Nat → Int64} {y : YS} (ht0 : t0 < 4) (hl : len ≤ 300) (hT : Mtp len tx mi) (h : Ym tx t0 y mi ml) (hI : YI len y) (hwd : Lwd tx y.1) (hK : ∀ mi1 ml1, offYm t0 mi mi1 → Ym tx t0 (bgY tx len y).2 mi1 ml1 → K (nI (bgY tx len y).1) mi1 ml1) : wpI G e 168 m_X10_beginOne [.ref 154] (mi, ml, RX RM) K := by
  obtain ⟨b1, b2, b3, b4⟩ := hI.bd hl
  obtain ⟨i1, i2, i3, i4, i5⟩ := id hI
  have hbt := hT.2.2.2
  have ht17 := h.1.2.2.1
  have hop : ∀ o, (o = 9 ∨ o = 2) → (∀ mi1 ml1, offYm t0 mi mi1 → Ym tx t0 (opY tx len y o).2 mi1 ml1 → K (nI (opY tx len y o).1) mi1 ml1) → wpI G e 168 m_X10_opensBy [.ref 154, .int (nI o)] (mi, ml, RX RM) K := fun o ho hk => m_opensBy hl hT h hI ho hk
  have h256 := i1.1.1
  obtain ⟨L, P, n, C, b, c⟩ := y
  dsimp only at *
  have leaf : ∀ o v, L.1 ≠ 0 → (∀ mi1 ml1, offYm t0 mi mi1 → Ym tx t0 (whY (stp tx len L) P n (C ++ [(o, v)])) mi1 ml1 → K (nI 0) mi1 ml1) → wp G e tM m_X10_beginOne 77 [(0, .ref 154)] [.int (nI v), .int (nI o), .ref 154] (mi, ml, RX RM) (QI K) := fun o v h0 hk => by
    obtain ⟨g1, g2⟩ := stp_gd hbt i1
    have ga := stp_adv hbt i1 h0
    apply b_X10_beginOne_77
    refine m_emit ht0 h (by omega) (fun mi1 o1 z1 _ => ?_)
    refine m_next (y := (L, P, n, C ++ [(o, v)], b, c)) (hT.offY o1) i1 z1 (fun mi2 ml2 o2 z2 => ?_)
    refine m_whole (b := b) (c := c) ht0 hl z2 ⟨g1, i2, i3, i4, ?_⟩ (fun mi3 o3 z3 => hk mi3 ml2 ((o1.trans o2).trans o3) z3)
    show P.length + (C ++ [_]).length ≤ (stp tx len L).2.1
    rw [List.length_append]
    show P.length + (C.length + 1) ≤ _
    omega
  have t17 : ∀ k, k < 300 → (mi 154 17 = nI k ↔ tmp L.1 = k) := fun k hk => by
    have htm : tmp L.1 < 300 := by
      unfold tmp
      split
      · omega
      split
      · omega
      split <;> omega
    rw [ht17, s_eq (by omega) (by omega)]
  have htm : (tmp L.1 = 1 ↔ L.1 = 2) ∧ (tmp L.1 = 2 ↔ L.1 = 3) ∧ (tmp L.1 = 40 ↔ L.1 = 40) ∧ (tmp L.1 = 45 ↔ L.1 = 45) := by
    unfold tmp
    by_cases a1 : L.1 = 1
    · rw [if_pos a1]; omega
    by_cases a2 : L.1 = 2
    · rw [if_neg a1, if_pos a2]; omega
    by_cases a3 : L.1 = 3
    · rw [if_neg a1, if_neg a2, if_pos a3]; omega
    rw [if_neg a1, if_neg a2, if_neg a3]; omega
  have q1 : mi 154 17 = nI 1 ↔ L.1 = 2 := (t17 1 (by omega)).trans htm.1
  have q2 : mi 154 17 = nI 2 ↔ L.1 = 3 := (t17 2 (by omega)).trans htm.2.1
  have q40 : mi 154 17 = nI 40 ↔ L.1 = 40 := (t17 40 (by omega)).trans htm.2.2.1
  have q45 : mi 154 17 = nI 45 ↔ L.1 = 45 := (t17 45 (by omega)).trans htm.2.2.2
  unfold bgY at hK
  dsimp only at hK
  apply e_X10_beginOne
  refine ⟨fun a1 => ⟨fun z => absurd z a1, fun _ => ⟨fun a2 => ?_, fun a2 => ?_⟩⟩, fun a1 => ?_⟩
  · have n2 : ¬ L.1 = 2 := fun z => a1 (q1.mpr z)
    have n3 : ¬ L.1 = 3 := fun z => a2 (q2.mpr z)
    have nw : ¬ isw tx L wT = true := fun z => n3 (isw_tok z)
    rw [if_neg n2, if_neg nw] at hK
    refine ⟨fun a3 => ⟨fun a4 => ?_, fun a4 => ?_⟩, fun a3 => ?_⟩
    · rw [if_neg (fun z => a3 (q40.mpr z)), if_neg (fun z => a4 (q45.mpr z))] at hK
      exact hK mi ml (offYm.refl t0 mi) h
    · rw [if_neg (fun z => a3 (q40.mpr z)), if_pos (q45.mp a4)] at hK
      exact hop 2 (Or.inr rfl) hK
    · rw [if_pos (q40.mp a3)] at hK
      exact hop 9 (Or.inl rfl) hK
  · have h3 := q2.mp a2
    have n2 : ¬ L.1 = 2 := by omega
    rw [if_neg n2] at hK
    have hw := isw_t hbt h.1 h3 (i1.2 (by omega)).1 (hwd h3) (ws := wT) (by decide) (by decide) (fun i => by
      unfold wT
      rcases i with _ | i
      · decide
      · exact Nat.lt_of_le_of_lt (Nat.le_of_eq (by rfl : List.getD [116] (i + 1) 0 = 0)) (by decide)) (by decide)
    have ew : wvf (fun i => wT.getD i 0) wT.length = 116 := by decide
    rw [ew] at hw
    refine ⟨fun a3 => ?_, fun a3 => ?_⟩
    · have nw : ¬ isw tx L wT = true := fun z => a3 (hw.mpr z)
      rw [if_neg nw] at hK
      refine ⟨fun a4 => ⟨fun a5 => ?_, fun a5 => absurd (q45.mp a5) (by omega)⟩, fun a4 => absurd (q40.mp a4) (by omega)⟩
      rw [if_neg (by omega), if_neg (by omega)] at hK
      exact hK mi ml (offYm.refl t0 mi) h
    · rw [if_pos (hw.mp a3)] at hK
      exact ⟨fun _ => ⟨fun _ => leaf 1 0 (by omega) hK, fun z => absurd z a1⟩, fun z => absurd z a1⟩
  · have h2 := q1.mp a1
    rw [if_pos h2] at hK
    obtain ⟨v, v1, v2, v3, v4⟩ := h.1.2.2.2.1 h2
    dsimp only at v1 v3 v4
    rw [v1, s_le (by omega) (by omega)]
    refine ⟨fun a2 => ?_, fun a2 => ?_⟩
    · rw [if_pos (v3.mp a2), v4 a2] at hK
      exact ⟨fun _ => ⟨fun z => absurd a1 z, fun _ => ⟨fun z => absurd a1 z, fun _ => leaf 0 v (by omega) hK⟩⟩, fun z => absurd a1 z⟩
    · rw [if_neg (fun z => a2 (v3.mpr z))] at hK
      exact hK mi ml (offYm.refl t0 mi) h
end MYE
