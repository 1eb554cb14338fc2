/-! the reference: the pile -/
def b2n (b : Bool) : Nat := if b = true then 1 else 0
theorem b2n_lt (b : Bool) : b2n b < 2 := by cases b <;> decide
def PilM (mi : Nat → Nat → Int32) : List Nat → Prop
  | [] => True
  | o :: P => mi 163 P.length = nI o ∧ o < 10 ∧ PilM mi P
def CodM (t0 : Nat) (mi : Nat → Nat → Int32) (C : List (Nat × Nat)) : Prop := ∀ i, i < C.length → mi 157 (670 * t0 + 65 + 2 * i) = nI (C.getD i (0, 0)).1 ∧ mi 157 (670 * t0 + 65 + 2 * i + 1) = nI (C.getD i (0, 0)).2
def Ym (tx : Nat → Nat) (t0 : Nat) (y : YS) (mi : Nat → Nat → Int32) (ml : Nat → Nat → Int64) : Prop := Lm tx y.1 mi ml ∧ mi 154 20 = nI (670 * t0) ∧ mi 154 21 = nI y.2.2.2.1.length ∧ mi 154 22 = nI y.2.1.length ∧ mi 154 23 = nI y.2.2.1 ∧ mi 154 25 = nI (b2n y.2.2.2.2.1) ∧ mi 154 26 = nI (b2n y.2.2.2.2.2) ∧ PilM mi y.2.1 ∧ CodM t0 mi y.2.2.2.1
def offYm (t0 : Nat) (mi mi1 : Nat → Nat → Int32) : Prop := (∀ o, o ≠ 154 → o ≠ 157 → o ≠ 163 → mi1 o = mi o) ∧ (∀ k, (k < 15 ∨ k = 19 ∨ k = 20 ∨ k = 24 ∨ 26 < k) → mi1 154 k = mi 154 k) ∧ ∀ j, (j < 670 * t0 + 65 ∨ 670 * t0 + 670 ≤ j) → mi1 157 j = mi 157 j
theorem offYm.refl (t0 : Nat) (mi : Nat → Nat → Int32) : offYm t0 mi mi := ⟨fun _ _ _ _ => rfl, fun _ _ => rfl, fun _ _ => rfl⟩
theorem offYm.trans {t0 : Nat} {a b c : Nat → Nat → Int32} (h : offYm t0 a b) (h1 : offYm t0 b c) : offYm t0 a c := ⟨fun o z1 z2 z3 => by rw [h1.1 o z1 z2 z3, h.1 o z1 z2 z3], fun k z => by rw [h1.2.1 k z, h.2.1 k z], fun j z => by rw [h1.2.2 j z, h.2.2 j z]⟩
theorem offN.toY {t0 : Nat} {a b : Nat → Nat → Int32} (h : offN a b) : offYm t0 a b := ⟨fun o z _ _ => h.1 o z, fun k z => h.2 k (by omega) (by omega) (by omega) (by omega), fun j _ => by rw [h.1 157 (by omega)]⟩
theorem offYm.p154 {t0 : Nat} {a b : Nat → Nat → Int32} (h : offYm t0 a b) {k : Nat} (hk : k = 21 ∨ k = 22 ∨ k = 23 ∨ k = 25 ∨ k = 26) {v : Int32} : offYm t0 a (u2 b 154 k v) := ⟨fun o z z2 z3 => by rw [u2_off z]; exact h.1 o z z2 z3, fun j z => by rw [u2_ne (by omega)]; exact h.2.1 j z, fun j z => by rw [u2_off (by omega)]; exact h.2.2 j z⟩
theorem offYm.p163 {t0 : Nat} {a b : Nat → Nat → Int32} (h : offYm t0 a b) {k : Nat} {v : Int32} : offYm t0 a (u2 b 163 k v) := ⟨fun o z z2 z3 => by rw [u2_off z3]; exact h.1 o z z2 z3, fun j z => by rw [u2_off (by omega)]; exact h.2.1 j z, fun j z => by rw [u2_off (by omega)]; exact h.2.2 j z⟩
theorem offYm.p157 {t0 : Nat} {a b : Nat → Nat → Int32} (h : offYm t0 a b) {k : Nat} (hk : 670 * t0 + 65 ≤ k ∧ k < 670 * t0 + 670) {v : Int32} : offYm t0 a (u2 b 157 k v) := ⟨fun o z z2 z3 => by rw [u2_off z2]; exact h.1 o z z2 z3, fun j z => by rw [u2_off (by omega)]; exact h.2.1 j z, fun j z => by rw [u2_ne (by omega)]; exact h.2.2 j z⟩
theorem PilM.same {mi mi1 : Nat → Nat → Int32} (he : mi1 163 = mi 163) : ∀ {P : List Nat}, PilM mi P → PilM mi1 P
  | [], _ => trivial
  | o :: P, h => ⟨by rw [he]; exact h.1, h.2.1, PilM.same he h.2.2⟩
theorem PilM.put {mi : Nat → Nat → Int32} {k : Nat} {v : Int32} : ∀ {P : List Nat}, P.length ≤ k → PilM mi P → PilM (u2 mi 163 k v) P
  | [], _, _ => trivial
  | o :: P, hk, h => by
    have hk2 : P.length + 1 ≤ k := hk
    exact ⟨by rw [u2_ne (by omega)]; exact h.1, h.2.1, PilM.put (by omega) h.2.2⟩
theorem getD_lt {C : List (Nat × Nat)} {x : Nat × Nat} {i : Nat} (h : i < C.length) : (C ++ [x]).getD i (0, 0) = C.getD i (0, 0) := by
  rw [List.getD_eq_getElem?_getD, List.getD_eq_getElem?_getD, List.getElem?_append_left h]
theorem getD_end {C : List (Nat × Nat)} {x : Nat × Nat} : (C ++ [x]).getD C.length (0, 0) = x := by
  rw [List.getD_eq_getElem?_getD, List.getElem?_append_right (Nat.le_refl _), Nat.sub_self]
  rfl
theorem CodM.add {t0 : Nat} {mi : Nat → Nat → Int32} {C : List (Nat × Nat)} {o v : Nat} (h : CodM t0 mi C) : CodM t0 (u2 (u2 mi 157 (670 * t0 + 65 + 2 * C.length) (nI o)) 157 (670 * t0 + 65 + 2 * C.length + 1) (nI v)) (C ++ [(o, v)]) := fun i hi => by
  rw [List.length_append] at hi
  have hi2 : i < C.length + 1 := hi
  by_cases c : i = C.length
  · subst c
    rw [getD_end, u2_ne (by omega), u2_at, u2_at]
    exact ⟨rfl, rfl⟩
  · rw [getD_lt (by omega), u2_ne (by omega), u2_ne (by omega), u2_ne (by omega), u2_ne (by omega)]
    exact h i (by omega)
theorem Lm.same {tx : Nat → Nat} {L : Lx} {mi mi1 : Nat → Nat → Int32} {ml : Nat → Nat → Int64} (h : Lm tx L mi ml) (ho : ∀ k, 15 ≤ k → k ≤ 18 → mi1 154 k = mi 154 k) : Lm tx L mi1 ml := by
  obtain ⟨a, b, c, d, e⟩ := h
  exact ⟨by rw [ho 15 (by omega) (by omega)]; exact a, by rw [ho 16 (by omega) (by omega)]; exact b, by rw [ho 17 (by omega) (by omega)]; exact c, fun z => by rw [ho 18 (by omega) (by omega)]; exact d z, e⟩
theorem CodM.same {t0 : Nat} {mi mi1 : Nat → Nat → Int32} {C : List (Nat × Nat)} (h : CodM t0 mi C) (ho : mi1 157 = mi 157) : CodM t0 mi1 C := fun i hi => by rw [ho]; exact h i hi
section MYD
variable {G : GC} {e len t0 : Nat} {tx : Nat → Nat}
theorem m_emit {K : (Nat → Nat → Int32) → (Nat → Nat → Int64) → Prop} {mi : Nat → Nat → Int32} {ml : Nat → Nat → Int64} {L : Lx} {P : List Nat} {n : Nat} {C : List (Nat × Nat)} {b c : Bool} (ht0 : t0 < 4) (h : Ym tx t0 (L, P, n, C, b, c) mi ml) (hC : C.length < 302) {o v : Nat} (hK : ∀ mi1, offYm t0 mi mi1 → Ym tx t0 (L, P, n, C ++ [(o, v)], b, c) mi1 ml → mi1 163 = mi 163 → K mi1 ml) : wpV G e 168 m_X10_emit [.ref 154, .int (nI o), .int (nI v)] (mi, ml, RX RM) K := by
  obtain ⟨h1, h20, h21, h22, h23, h25, h26, hP, hCd⟩ := h
  dsimp only at *
  apply e_X10_emit
  rw [h20, h21]
  have ei : nI (670 * t0) + nI 65 + nI 2 * nI C.length = nI (670 * t0 + 65 + 2 * C.length) := by rw [pk_mul, nI_add, nI_add]
  rw [ei]
  rw [s_ix (by omega), s_in (by omega)]
  have g20 : u2 mi 157 (670 * t0 + 65 + 2 * C.length) (nI o) 154 20 = nI (670 * t0) := by rw [u2_off (by omega)]; exact h20
  have g21 : u2 mi 157 (670 * t0 + 65 + 2 * C.length) (nI o) 154 21 = nI C.length := by rw [u2_off (by omega)]; exact h21
  rw [g20, g21, ei, nI_add, s_in (by omega), s_ix (by omega)]
  refine ⟨by omega, by omega, ?_⟩
  have hC2 := hCd.add (o := o) (v := v)
  have o1 : offYm t0 mi (u2 (u2 mi 157 (670 * t0 + 65 + 2 * C.length) (nI o)) 157 (670 * t0 + 65 + 2 * C.length + 1) (nI v)) := ((offYm.refl t0 mi).p157 (by omega)).p157 (by omega)
  have e3 : (u2 (u2 mi 157 (670 * t0 + 65 + 2 * C.length) (nI o)) 157 (670 * t0 + 65 + 2 * C.length + 1) (nI v)) 163 = mi 163 := by rw [u2_off (by omega), u2_off (by omega)]
  have e4 : ∀ k, (u2 (u2 mi 157 (670 * t0 + 65 + 2 * C.length) (nI o)) 157 (670 * t0 + 65 + 2 * C.length + 1) (nI v)) 154 k = mi 154 k := fun k => by rw [u2_off (by omega), u2_off (by omega)]
  generalize (u2 (u2 mi 157 (670 * t0 + 65 + 2 * C.length) (nI o)) 157 (670 * t0 + 65 + 2 * C.length + 1) (nI v)) = mi2 at *
  rw [e4, h21, nI_add]
  refine hK _ (o1.p154 (Or.inl rfl)) ⟨h1.same (fun k a b => by rw [u2_ne (by omega)]; exact e4 k), by rw [u2_ne (by omega), e4]; exact h20, ?_, by rw [u2_ne (by omega), e4]; exact h22, by rw [u2_ne (by omega), e4]; exact h23, by rw [u2_ne (by omega), e4]; exact h25, by rw [u2_ne (by omega), e4]; exact h26, hP.same (by rw [u2_off (by omega)]; exact e3), hC2.same (u2_off (by omega))⟩ (by rw [u2_off (by omega)]; exact e3)
  rw [u2_at]
  show _ = nI (C ++ [(o, v)]).length
  rw [List.length_append]
  rfl
theorem m_push {K : (Nat → Nat → Int32) → (Nat → Nat → Int64) → Prop} {mi : Nat → Nat → Int32} {ml : Nat → Nat → Int64} {L : Lx} {P : List Nat} {n : Nat} {C : List (Nat × Nat)} {b c : Bool} (h : Ym tx t0 (L, P, n, C, b, c) mi ml) (hP1 : P.length < 160) {o : Nat} (ho : o < 10) (hK : ∀ mi1, offYm t0 mi mi1 → Ym tx t0 (L, o :: P, n, C, b, c) mi1 ml → K mi1 ml) : wpV G e 168 m_X10_push [.ref 154, .int (nI o)] (mi, ml, RX RM) K := by
  obtain ⟨h1, h20, h21, h22, h23, h25, h26, hP, hCd⟩ := h
  dsimp only at *
  apply e_X10_push
  rw [h22, s_ix (by omega), s_in (by omega)]
  have e4 : ∀ k, u2 mi 163 P.length (nI o) 154 k = mi 154 k := fun k => by rw [u2_off (by omega)]
  have o1 : offYm t0 mi (u2 mi 163 P.length (nI o)) := (offYm.refl t0 mi).p163
  have e5 : u2 mi 163 P.length (nI o) 163 P.length = nI o := u2_at
  have hP2 : PilM (u2 mi 163 P.length (nI o)) P := hP.put (Nat.le_refl _)
  have e6 : u2 mi 163 P.length (nI o) 157 = mi 157 := u2_off (by omega)
  generalize u2 mi 163 P.length (nI o) = mi2 at *
  rw [e4, h22, nI_add]
  have e7 : u2 mi2 154 22 (nI (P.length + 1)) 163 = mi2 163 := u2_off (by omega)
  exact ⟨hP1, hK _ (o1.p154 (by omega)) ⟨h1.same (fun k a b => by rw [u2_ne (by omega)]; exact e4 k), by rw [u2_ne (by omega), e4]; exact h20, by rw [u2_ne (by omega), e4]; exact h21, u2_at, by rw [u2_ne (by omega), e4]; exact h23, by rw [u2_ne (by omega), e4]; exact h25, by rw [u2_ne (by omega), e4]; exact h26, ⟨by rw [e7]; exact e5, ho, hP2.same e7⟩, hCd.same (by rw [u2_off (by omega)]; exact e6)⟩⟩
theorem m_rank {K : Int32 → (Nat → Nat → Int32) → (Nat → Nat → Int64) → Prop} {mi : Nat → Nat → Int32} {ml : Nat → Nat → Int64} {o : Nat} (ho : o < 10) (hK : K (nI (rko o)) mi ml) : wpI G e 168 m_X10_rank [.int (nI o)] (mi, ml, RX RM) K := by
  unfold rko at hK
  apply e_X10_rank
  rw [s_eq (by omega) (by omega), s_eq (by omega) (by omega), s_eq (by omega) (by omega)]
  refine ⟨fun c => ⟨fun c1 => ⟨fun c2 => ?_, fun c2 => ?_⟩, fun c1 => ?_⟩, fun c => ?_⟩
  · rw [if_neg c, if_neg c1, if_neg c2] at hK
    exact hK
  · rw [if_neg c, if_neg c1, if_pos c2] at hK
    exact hK
  · rw [if_neg c, if_pos c1] at hK
    exact hK
  · rw [if_pos c] at hK
    exact hK
theorem rko_lt (o : Nat) : rko o < 4 := by
  unfold rko
  split
  · omega
  split
  · omega
  split <;> omega
theorem m_settle {K : (Nat → Nat → Int32) → (Nat → Nat → Int64) → Prop} {mi0 : Nat → Nat → Int32} {ml : Nat → Nat → Int64} {L : Lx} {b c : Bool} (ht0 : t0 < 4) {l : Nat} (hl : l < 10) {Z : List Nat × Nat × List (Nat × Nat)} (hK : ∀ mi1, offYm t0 mi0 mi1 → Ym tx t0 (L, Z.1, Z.2.1, Z.2.2, b, c) mi1 ml → K mi1 ml) : ∀ (P : List Nat) (n : Nat) (C : List (Nat × Nat)) (mi : Nat → Nat → Int32), offYm t0 mi0 mi → Ym tx t0 (L, P, n, C, b, c) mi ml → P.length < 160 → P.length + C.length ≤ 301 → P.count 2 ≤ n → n ≤ 8 → stl l P n C = Z → wp G e tM m_X10_settle 0 [(0, .ref 154), (1, .int (nI l))] [] (mi, ml, RX RM) (QV K)
  | [], n, C, mi, ho, h, _, _, _, _, hz => by
    subst hz
    apply b_X10_settle_0
    rw [show mi 154 22 = nI 0 from h.2.2.2.1]
    exact ⟨fun _ => hK mi ho h, fun z => absurd (by decide) z⟩
  | o :: P, n, C, mi, ho, h, hP1, hPC, hn, hn8, hz => by
    have hz1 : (if l ≤ rko o then stl l P (if o = 2 then n - 1 else n) (C ++ [(o, 0)]) else (o :: P, n, C)) = Z := hz
    obtain ⟨h1, h20, h21, h22, h23, h25, h26, hP, hCd⟩ := id h
    dsimp only at *
    have hlen : (o :: P).length = P.length + 1 := rfl
    rw [hlen] at h22 hP1 hPC
    obtain ⟨p1, p2, p3⟩ := hP
    have hrk := rko_lt o
    have es : nI (P.length + 1) - nI 1 = nI P.length := by rw [s_sub (by omega), Nat.add_sub_cancel]
    apply b_X10_settle_0
    rw [h22, es, s_le (by omega) (by omega), s_in (by omega), s_ix (by omega), p1]
    refine ⟨fun z => absurd z (by omega), fun _ => ⟨by omega, m_rank p2 ?_⟩⟩
    rw [s_lt (by omega) (by omega)]
    refine ⟨fun c1 => ?_, fun c1 => ?_⟩
    · rw [if_neg (by omega)] at hz1
      subst hz1
      exact hK mi ho h
    · rw [if_pos (by omega)] at hz1
      rw [h22, es]
      have e22 : u2 mi 154 22 (nI P.length) 154 22 = nI P.length := u2_at
      have e163 : u2 mi 154 22 (nI P.length) 163 = mi 163 := u2_off (by omega)
      have hY : Ym tx t0 (L, P, n, C, b, c) (u2 mi 154 22 (nI P.length)) ml := ⟨h1.same (fun k a b => by rw [u2_ne (by omega)]), by rw [u2_ne (by omega)]; exact h20, by rw [u2_ne (by omega)]; exact h21, e22, by rw [u2_ne (by omega)]; exact h23, by rw [u2_ne (by omega)]; exact h25, by rw [u2_ne (by omega)]; exact h26, p3.same e163, hCd.same (u2_off (by omega))⟩
      have o1 : offYm t0 mi0 (u2 mi 154 22 (nI P.length)) := ho.p154 (by omega)
      have e1 : u2 mi 154 22 (nI P.length) 163 P.length = nI o := by rw [e163]; exact p1
      generalize u2 mi 154 22 (nI P.length) = mi1 at *
      rw [e22, s_in (by omega), s_ix (by omega), e1]
      refine ⟨by omega, m_emit ht0 hY (by omega) (o := o) (v := 0) (fun mi2 o2 y2 e2 => ?_)⟩
      have g22 : mi2 154 22 = nI P.length := y2.2.2.2.1
      rw [g22, s_in (by omega), s_ix (by omega), e2, e1, s_eq (by omega) (by omega)]
      have hlC : (C ++ [(o, 0)]).length = C.length + 1 := List.length_append
      refine ⟨by omega, fun c2 => ?_, fun c2 => ?_⟩
      · rw [if_neg c2] at hz1
        refine m_settle ht0 hl hK P n (C ++ [(o, 0)]) mi2 (o1.trans o2) y2 (by omega) (by omega) ?_ hn8 hz1
        rw [List.count_cons] at hn
        split at hn <;> omega
      · rw [if_pos c2] at hz1
        have hn1 : P.count 2 + 1 ≤ n := by
          rw [List.count_cons, c2] at hn
          simpa using hn
        have g23 : mi2 154 23 = nI n := y2.2.2.2.2.1
        have en : nI n - nI 1 = nI (n - 1) := s_sub (by omega)
        rw [g23, en]
        obtain ⟨y1, y20, y21, y22, y23, y25, y26, yP, yC⟩ := y2
        refine m_settle ht0 hl hK P (n - 1) (C ++ [(o, 0)]) _ ((o1.trans o2).p154 (by omega)) ⟨y1.same (fun k a b => by rw [u2_ne (by omega)]), by rw [u2_ne (by omega)]; exact y20, by rw [u2_ne (by omega)]; exact y21, by rw [u2_ne (by omega)]; exact y22, u2_at, by rw [u2_ne (by omega)]; exact y25, by rw [u2_ne (by omega)]; exact y26, yP.same (u2_off (by omega)), yC.same (u2_off (by omega))⟩ (by omega) (by omega) (by omega) (by omega) hz1
end MYD
