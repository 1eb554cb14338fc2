/-! the reference: works -/
section MW2
variable {G : GC} {e q m d n t0 : Nat} {ml : Nat → Nat → Int64} {K : Int32 → (Nat → Nat → Int32) → (Nat → Nat → Int64) → Prop}
theorem gd_at {A D : List (Nat × Nat)} {c : Nat × Nat} : (A ++ c :: D).getD A.length (0, 0) = c := by
  rw [List.getD_eq_getElem?_getD, List.getElem?_append_right (Nat.le_refl _), Nat.sub_self]
  rfl
theorem Vrw.offV {h r : Nat} {S : Nat → Nat → Nat} {mi mi1 : Nat → Nat → Int32} (hv : Vrw n h S mi) (ho : offV r mi mi1) (hr : r < 8 ∨ 8 + h ≤ r) : Vrw n h S mi1 := fun i hi => (hv i hi).offV ho (by omega)
/-- one row of them new -/
theorem Vrw.put {h h1 a : Nat} {S : Nat → Nat → Nat} {g : Nat → Nat} {mi mi1 : Nat → Nat → Int32} (hv : Vrw n h S mi) (ho : ∀ i, i < h1 → i ≠ a → Wr n mi (8 + i) (S i) → Wr n mi1 (8 + i) (S i)) (hg : Wr n mi1 (8 + a) g) (hh : h1 ≤ h ∨ (h1 = h + 1 ∧ a = h)) : Vrw n h1 (upR S a g) mi1 := fun i hi => by
  by_cases c : i = a
  · rw [c, upR_eq]
    exact hg
  · rw [upR_ne c]
    exact ho i hi c (hv i (by omega))
theorem m_turnL {a : Nat} {f : Nat → Nat} (ha : a < 50) (ha1 : 1 ≤ a) {v1 v2 v4 : Int32} {mi0 : Nat → Nat → Int32} (h0 : Mw q m d n mi0) (hf0 : Wr n mi0 a f) (hK : ∀ mi1, offV a mi0 mi1 → Wr n mi1 a (fun k => cmb q (q - 1) 13 0 (f k)) → wp G e tM m_X10_works 262 [(0, .ref 154), (1, .int v1), (2, .int v2), (3, .int (nI (a + 1))), (4, .int v4)] [] (mi1, ml, RX RM) (QI K)) : ∀ (r i : Nat) (mi : Nat → Nat → Int32), r + i = 25 → offV a mi0 mi → (∀ j, j < 25 → mi 161 (25 * a + j) = nI (if j < i then cmb q (q - 1) 13 0 (f j) else f j)) → wp G e tM m_X10_works 127 [(0, .ref 154), (1, .int v1), (2, .int v2), (3, .int (nI (a + 1))), (4, .int v4), (7, .int (nI i))] [] (mi, ml, RX RM) (QI K)
  | 0, i, mi, hi, ho, hz => by
    have w := h0.1.1
    apply b_X10_works_127
    rw [s_le (by omega) (by omega)]
    refine ⟨fun _ => hK mi ho ⟨ha, fun k hk => ?_, fun k hk => ?_, fun k => ?_⟩, fun z => absurd (by omega) z⟩
    · rw [hz k hk, if_pos (by omega)]
    · show cmb q (q - 1) 13 0 (f k) = 0
      rw [hf0.2.2.1 k hk]
      exact cmb_self w.q2
    · exact cmb_ltn w (by have := w.n2; omega) (hf0.2.2.2 k)
  | r + 1, i, mi, hi, ho, hz => by
    have w := h0.1.1
    have hM : Mw q m d n mi := h0.offV ho
    have e1 : nI (a + 1) - nI 1 = nI a := by rw [s_sub (by omega), Nat.add_sub_cancel]
    apply b_X10_works_127
    rw [s_le (by omega) (by omega), e1, pk_mul, nI_add, s_in (by omega), s_ix (by omega), hz i (by omega), if_neg (by omega)]
    refine ⟨fun z => absurd z (by omega), fun _ => ⟨by omega, ?_⟩⟩
    refine m_minus hM.2.1.1 (w.lt13 (hf0.2.2.2 i)) ⟨by omega, ?_⟩
    rw [nI_add]
    refine m_turnL ha ha1 h0 hf0 hK r (i + 1) _ (by omega) (ho.put (by omega)) (fun j hj => ?_)
    by_cases c : j = i
    · subst c
      rw [u2_at, if_pos (by omega)]
    · rw [u2_ne (by omega), hz j hj]
      by_cases c2 : j < i
      · rw [if_pos c2, if_pos (by omega)]
      · rw [if_neg c2, if_neg (by omega)]
theorem m_worksL {E b1 : Nat} {C B : List (Nat × Nat)} (ht0 : t0 < 4) (hb1 : b1 + 2 < 2680) {mi0 : Nat → Nat → Int32} (h0 : Mw q m d n mi0) (hC : CodM t0 mi0 C) (hlen : C.length ≤ 302) (hE : mi0 157 (b1 + 2) = nI E) {h1 : Nat} {Z : Option ES} (hK : ∀ z, Z = some z → ∀ mi1, offE mi0 mi1 → Vrw n z.1 z.2 mi1 → K (nI 1) mi1 ml) (hno : Z = none → ∀ mi1, offE mi0 mi1 → K (nI 0) mi1 ml) : ∀ (D A : List (Nat × Nat)) (h : Nat) (S : Nat → Nat → Nat) (mi : Nat → Nat → Int32), C = A ++ (D ++ B) → E = A.length + D.length → offE mi0 mi → Hok D h h1 → h ≤ 40 → Vrw n h S mi → evL q m d n D (h, S) = Z → wp G e tM m_X10_works 13 [(0, .ref 154), (1, .int (nI b1)), (2, .int (nI (670 * t0 + 65))), (3, .int (nI (8 + h))), (4, .int (nI A.length))] [] (mi, ml, RX RM) (QI K)
  | [], A, h, S, mi, hA, hEe, ho, hok, hh, hv, hz => by
    have hz1 : some (h, S) = Z := hz
    have hEe1 : E = A.length := hEe
    have hcl : C.length = A.length + B.length := by rw [hA]; exact List.length_append
    apply b_X10_works_13
    rw [nI_add, s_in (by omega), s_ix (by omega), ho 157 (by omega), hE, s_le (by omega) (by omega)]
    exact ⟨by omega, fun _ => ⟨Or.inr rfl, hK (h, S) hz1.symm mi ho hv⟩, fun z => absurd (by omega) z⟩
  | (o, v) :: D, A, h, S, mi, hA, hEe, ho, hok, hh, hv, hz => by
    have hz1 : evB (evO q m d n (o, v) (h, S)) (evL q m d n D) = Z := hz
    have hok1 : (if o = 0 ∨ o = 1 then (h < 40 ∧ v ≤ 9999) ∧ Hok D (h + 1) h1 else if o = 2 ∨ o = 6 then (1 ≤ h ∧ v ≤ 24) ∧ Hok D h h1 else (2 ≤ h ∧ o < 6) ∧ Hok D (h - 1) h1) := hok
    have hEe1 : E = A.length + (D.length + 1) := hEe
    have hcl : C.length = A.length + (D.length + 1 + B.length) := by rw [hA, List.length_append]; show _ + (D ++ B).length.succ = _; rw [List.length_append]; omega
    have hM : Mw q m d n mi := h0.offE ho
    have w := h0.1.1
    have hn2 := h0.two
    have hq := w.q2
    have hq5 : q ≤ 5 := by rcases w.1 with z | z | z <;> omega
    obtain ⟨c1a, c2a⟩ := hC A.length (by omega)
    have hcd : C.getD A.length (0, 0) = (o, v) := by rw [hA]; exact gd_at
    rw [hcd] at c1a c2a
    have c1 : mi0 157 (670 * t0 + 65 + 2 * A.length) = nI o := c1a
    have c2 : mi0 157 (670 * t0 + 65 + 2 * A.length + 1) = nI v := c2a
    have m155 : mi 155 0 = nI q := hM.2.1.1.2
    have hA1 : C = (A ++ [(o, v)]) ++ (D ++ B) := by rw [hA, List.append_assoc]; rfl
    have hl1 : (A ++ [(o, v)]).length = A.length + 1 := List.length_append
    have next : ∀ (h2 : Nat) (S2 : Nat → Nat → Nat) (mi2 : Nat → Nat → Int32), offE mi mi2 → Hok D h2 h1 → h2 ≤ 40 → Vrw n h2 S2 mi2 → evO q m d n (o, v) (h, S) = some (h2, S2) → wp G e tM m_X10_works 262 [(0, .ref 154), (1, .int (nI b1)), (2, .int (nI (670 * t0 + 65))), (3, .int (nI (8 + h2))), (4, .int (nI A.length))] [] (mi2, ml, RX RM) (QI K) := fun h2 S2 mi2 o2 k1 k2 k3 k4 => by
      rw [k4] at hz1
      apply b_X10_works_262
      have i := m_worksL ht0 hb1 h0 hC hlen hE hK hno D (A ++ [(o, v)]) h2 S2 mi2 hA1 (by omega) (ho.trans o2) k1 k2 k3 hz1
      rw [hl1] at i
      rw [nI_add]
      exact i
    have stop : ∀ mi2, offE mi mi2 → evO q m d n (o, v) (h, S) = none → K (nI 0) mi2 ml := fun mi2 o2 k => by
      rw [k] at hz1
      exact hno hz1.symm mi2 (ho.trans o2)
    have hc7 : o < 7 := by
      split at hok1
      · omega
      · split at hok1 <;> omega
    have e157 : mi 157 = mi0 157 := ho 157 (by omega)
    apply b_X10_works_13
    have ea : nI (670 * t0 + 65) + nI 2 * nI A.length = nI (670 * t0 + 65 + 2 * A.length) := by rw [pk_mul, nI_add]
    have eb : nI (670 * t0 + 65 + 2 * A.length) + nI 1 = nI (670 * t0 + 65 + 2 * A.length + 1) := nI_add _ _
    have em : nI (8 + h) + -(nI 1) = nI (8 + h - 1) := by rw [← Int32.sub_eq_add_neg, s_sub (by omega)]
    have em1 : nI (8 + h) - nI 1 = nI (8 + h - 1) := s_sub (by omega)
    rw [nI_add b1 2, s_in (n := b1 + 2) (by omega), s_ix (n := b1 + 2) (by omega), e157, hE, s_le (by omega) (by omega), ea, eb, s_ix (n := 670 * t0 + 65 + 2 * A.length) (by omega), s_ix (n := 670 * t0 + 65 + 2 * A.length + 1) (by omega), c1, c2, s_in (n := 670 * t0 + 65 + 2 * A.length) (by omega), s_in (n := 670 * t0 + 65 + 2 * A.length + 1) (by omega)]
    refine ⟨by omega, fun z => absurd z (by omega), fun _ => ⟨by omega, by omega, ?_⟩⟩
    have push : ∀ (i x : Nat), h < 40 → i < 25 → x < n → Hok D (h + 1) h1 → evO q m d n (o, v) (h, S) = some (h + 1, upR S h (fun k => if k = i then x else 0)) → ∀ mi2, offV (8 + h) mi mi2 → Wr n mi2 (8 + h) (fun _ => 0) → wp G e tM m_X10_works 111 [(0, .ref 154), (1, .int (nI b1)), (2, .int (nI (670 * t0 + 65))), (3, .int (nI (8 + h))), (4, .int (nI A.length))] [.int (nI x), .int (nI (25 * (8 + h) + i)), .ref 161] (mi2, ml, RX RM) (QI K) := fun i x g1 g2 g3 g4 g5 mi2 o2 w2 => by
      apply b_X10_works_111
      rw [s_in (by omega), s_ix (by omega), nI_add]
      refine ⟨by omega, ?_⟩
      have o3 : offV (8 + h) mi (u2 mi2 161 (25 * (8 + h) + i) (nI x)) := o2.put g2
      rw [show 8 + h + 1 = 8 + (h + 1) by omega]
      refine next (h + 1) _ _ o3.1 g4 (by omega) (hv.put (a := h) (fun j hj hne y => y.offV o3 (by omega)) ⟨by omega, fun k hk => ?_, fun k hk => ?_, fun k => ?_⟩ (Or.inr ⟨rfl, rfl⟩)) g5
      · by_cases y : k = i
        · subst y
          rw [u2_at, if_pos rfl]
        · rw [u2_ne (by omega), w2.2.1 k hk, if_neg y]
      · show (if k = i then x else 0) = 0
        rw [if_neg (by omega)]
      · show (if k = i then x else 0) < n
        split <;> omega
    have p1 : nI 25 * nI (8 + h) = nI (25 * (8 + h)) := pk_mul _ _
    rcases (show o = 0 ∨ o = 1 ∨ o = 2 ∨ o = 3 ∨ o = 4 ∨ o = 5 ∨ o = 6 by omega) with rfl | rfl | rfl | rfl | rfl | rfl | rfl
    · -- a number
      rw [if_pos (Or.inl rfl)] at hok1
      refine ⟨fun z => absurd z (by decide), fun _ => ⟨fun z => absurd rfl z, fun _ => ?_⟩⟩
      refine m_isRest hM (fun a ha han => ⟨fun _ => ?_, fun z => absurd z (by decide)⟩) (fun hna => ⟨fun z => absurd rfl z, fun _ => ⟨Or.inl rfl, stop mi (offE.refl _) ?_⟩⟩)
      · have hva : v = a := (s_eq (by omega) (by omega)).mp ha
        subst hva
        refine m_clear (n := n) (r := 8 + h) (by omega) (by omega) (fun mi2 o2 w2 => ⟨fun z => absurd rfl z, fun _ => ?_⟩)
        apply b_X10_works_99
        refine ⟨fun z => absurd rfl z, fun _ => ?_⟩
        rw [p1, nI_add]
        refine push 0 v hok1.1.1 (by omega) han hok1.2 ?_ mi2 o2 w2
        show (if n ≤ v then none else some (h + 1, upR S h (fun k => if k = 0 then v else 0))) = _
        rw [if_neg (by omega)]
      · show (if n ≤ v then none else _) = none
        rw [if_pos]
        apply Decidable.byContradiction
        intro z
        exact hna v (by omega) rfl
    · -- t
      rw [if_pos (Or.inr rfl)] at hok1
      refine ⟨fun z => absurd z (by decide), fun _ => ⟨fun _ => ?_, fun z => absurd z (by decide)⟩⟩
      refine m_clear (n := n) (r := 8 + h) (by omega) (by omega) (fun mi2 o2 w2 => ⟨fun _ => ?_, fun z => absurd z (by decide)⟩)
      apply b_X10_works_99
      refine ⟨fun _ => ?_, fun z => absurd z (by decide)⟩
      rw [p1, nI_add]
      exact push 1 1 hok1.1.1 (by omega) (by omega) hok1.2 rfl mi2 o2 w2
    · -- turned
      rw [if_neg (by omega), if_pos (Or.inl rfl)] at hok1
      refine ⟨fun _ => ⟨fun z => absurd rfl z, fun _ => ?_⟩, fun z => absurd (by decide) z⟩
      have hr := hv (h - 1) (by omega)
      have e8 : 8 + h = 8 + (h - 1) + 1 := by omega
      rw [e8]
      refine m_turnL (a := 8 + (h - 1)) (by omega) (by omega) hM hr (fun mi2 o2 w2 => ?_) 25 0 mi rfl (offV.refl _ _) (fun j hj => ?_)
      · rw [← e8]
        exact next h _ mi2 o2.1 hok1.2 hh (hv.put (a := h - 1) (fun j hj hne y => y.offV o2 (by omega)) w2 (Or.inl (Nat.le_refl _))) rfl
      · rw [if_neg (Nat.not_lt_zero _)]
        exact hr.2.1 j hj
    · -- plus
      rw [if_neg (by omega), if_neg (by omega)] at hok1
      refine ⟨fun _ => ⟨fun _ => ⟨fun _ => ⟨fun _ => ⟨fun _ => ⟨fun z => absurd rfl z, fun _ => ?_⟩, fun z => absurd z (by decide)⟩, fun z => absurd z (by decide)⟩, fun z => absurd z (by decide)⟩, fun z => absurd z (by decide)⟩, fun z => absurd (by decide) z⟩
      rw [em, s_sub (by omega), show 8 + h - 1 - 1 = 8 + (h - 2) by omega, show 8 + h - 1 = 8 + (h - 1) by omega]
      exact m_add hM (hv (h - 2) (by omega)) (hv (h - 1) (by omega)) (by omega) (by omega) (fun mi2 o2 w2 => next (h - 1) _ mi2 o2.1 hok1.2 (by omega) (hv.put (a := h - 2) (fun j hj hne y => y.offV o2 (by omega)) w2 (Or.inl (by omega))) rfl)
    · -- less
      rw [if_neg (by omega), if_neg (by omega)] at hok1
      refine ⟨fun _ => ⟨fun _ => ⟨fun _ => ⟨fun _ => ⟨fun _ => ⟨fun _ => ⟨?_, ?_⟩, fun z => absurd z (by decide)⟩, fun z => absurd z (by decide)⟩, fun z => absurd z (by decide)⟩, fun z => absurd z (by decide)⟩, fun z => absurd z (by decide)⟩, fun z => absurd (by decide) z⟩
      · rw [s_in (by omega)]; omega
      · rw [s_ix (by omega), m155, s_sub (a := q) (by omega), em, s_sub (by omega), show 8 + h - 1 - 1 = 8 + (h - 2) by omega, show 8 + h - 1 = 8 + (h - 1) by omega]
        exact m_add hM (hv (h - 2) (by omega)) (hv (h - 1) (by omega)) (by omega) (by omega) (fun mi2 o2 w2 => next (h - 1) _ mi2 o2.1 hok1.2 (by omega) (hv.put (a := h - 2) (fun j hj hne y => y.offV o2 (by omega)) w2 (Or.inl (by omega))) rfl)
    · -- times
      rw [if_neg (by omega), if_neg (by omega)] at hok1
      refine ⟨fun _ => ⟨fun _ => ⟨fun _ => ⟨fun z => absurd rfl z, fun _ => ?_⟩, fun z => absurd z (by decide)⟩, fun z => absurd z (by decide)⟩, fun z => absurd (by decide) z⟩
      rw [em, s_sub (by omega), show 8 + h - 1 - 1 = 8 + (h - 2) by omega, show 8 + h - 1 = 8 + (h - 1) by omega]
      have hev : evO q m d n (5, v) (h, S) = if 0 < rl (S (h - 2)) 25 ∧ 0 < rl (S (h - 1)) 25 ∧ 26 < rl (S (h - 2)) 25 + rl (S (h - 1)) 25 then none else some (h - 1, upR S (h - 2) (cv q m d (S (h - 2)) (S (h - 1)))) := rfl
      refine m_multiply (c := 3) hM (hv (h - 2) (by omega)) (hv (h - 1) (by omega)) (by omega) (by omega) (by omega) (fun hfit mi2 o2 w2 => ⟨fun _ => ⟨fun z => absurd rfl z, fun _ => ?_⟩, fun z => absurd z (by decide)⟩) (fun hfit mi2 o2 w2 => ⟨fun z => absurd rfl z, fun _ => ⟨Or.inl rfl, stop mi2 o2.1 ?_⟩⟩)
      · refine m_lay (r := 3) (c := 8 + (h - 2)) (by omega) (by omega) w2 (fun mi3 o3 w3 => ?_)
        refine next (h - 1) _ mi3 (offE.trans o2.1 o3.1) hok1.2 (by omega) (hv.put (a := h - 2) (fun j hj hne y => (y.offV o2 (by omega)).offV o3 (by omega)) w3 (Or.inl (by omega))) ?_
        rw [hev, if_neg (fun z => fits_no.mp z hfit)]
      · rw [hev, if_pos (fits_no.mpr hfit)]
    · -- raised
      rw [if_neg (by omega), if_pos (Or.inr rfl)] at hok1
      refine ⟨fun _ => ⟨fun _ => ⟨fun z => absurd rfl z, fun _ => ?_⟩, fun z => absurd z (by decide)⟩, fun z => absurd (by decide) z⟩
      rw [em1, show 8 + h - 1 = 8 + (h - 1) by omega]
      have hev : evO q m d n (6, v) (h, S) = evP (h, S) (pwc q m d (S (h - 1)) v (r1 1)) := rfl
      refine m_raiseBy (by omega) hM (hv (h - 1) (by omega)) (by omega) (fun g hg mi2 o2 w2 => ⟨fun _ => ?_, fun z => absurd z (by decide)⟩) (fun hg mi2 o2 => ⟨fun z => absurd rfl z, fun _ => ⟨Or.inl rfl, stop mi2 o2.1 ?_⟩⟩)
      · refine next h _ mi2 o2.1 hok1.2 hh (hv.put (a := h - 1) (fun j hj hne y => y.offQ o2 (by omega) (by omega)) w2 (Or.inl (Nat.le_refl _))) ?_
        rw [hev, hg]
        rfl
      · rw [hev, hg]
        rfl
end MW2
