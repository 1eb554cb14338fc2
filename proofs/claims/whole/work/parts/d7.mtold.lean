/-! the reference: told -/
section CTL
variable {w : Bool} {q m d n : Nat} {tx : Nat → Nat} {len : Nat}
theorem cC2_ok {s : Nat} {L : Lx} {Cs : List (Nat × Nat × Nat)} {C : List (Nat × Nat)} (hz : (cC2 tx len s L Cs C).1 = 0) : (cSum tx len (cOne tx len 8) (stp tx len L)).1 = 0 := by
  unfold cC2 at hz
  split at hz
  · exact absurd (show (4 : Nat) = 0 from hz) (by decide)
  · split at hz
    · next c => exact c
    · exact hz
theorem cCl_ok {L : Lx} {Cs : List (Nat × Nat × Nat)} {C : List (Nat × Nat)} (hz : (cCl tx len L Cs C).1 = 0) : Hok (clC tx len L) 0 1 := by
  have h : (cSum tx len (cOne tx len 8) (stp tx len L)).1 = 0 := by
    unfold cCl at hz
    split at hz
    · exact cC2_ok hz
    · split at hz
      · exact cC2_ok hz
      · exact absurd (show (1 : Nat) = 0 from hz) (by decide)
  exact cSum_h (B := 0) (cOne_h 8 2 (by omega)) (stp tx len L) 0 (Nat.le_refl _) h
theorem cC2_app {s : Nat} {L : Lx} {Cs : List (Nat × Nat × Nat)} {C : List (Nat × Nat)} (hz : (cC2 tx len s L Cs C).1 = 0) : (∃ X, (cC2 tx len s L Cs C).2.2.1 = Cs ++ X) ∧ ∃ Y, (cC2 tx len s L Cs C).2.2.2 = C ++ Y := by
  unfold cC2 at hz ⊢
  split at hz
  · exact absurd (show (4 : Nat) = 0 from hz) (by decide)
  · next c1 =>
    rw [if_neg c1]
    split at hz
    · next c2 =>
      rw [if_pos c2]
      split at hz
      · next c3 =>
        rw [if_pos c3]
        exact ⟨⟨_, rfl⟩, ⟨_, rfl⟩⟩
      · exact absurd (show (1 : Nat) = 0 from hz) (by decide)
    · next c2 => exact absurd hz c2
theorem cCl_app {L : Lx} {Cs : List (Nat × Nat × Nat)} {C : List (Nat × Nat)} (hz : (cCl tx len L Cs C).1 = 0) : (∃ X, (cCl tx len L Cs C).2.2.1 = Cs ++ X) ∧ ∃ Y, (cCl tx len L Cs C).2.2.2 = C ++ Y := by
  unfold cCl at hz ⊢
  split at hz
  · next c =>
    rw [if_pos c]
    exact cC2_app hz
  · next c =>
    rw [if_neg c]
    split at hz
    · next c2 =>
      rw [if_pos c2]
      exact cC2_app hz
    · exact absurd (show (1 : Nat) = 0 from hz) (by decide)
theorem cTx_app : ∀ (f : Nat) (L : Lx) (Cs : List (Nat × Nat × Nat)) (C : List (Nat × Nat)), (cTx tx len f L Cs C).1 = 0 → (∃ X, (cTx tx len f L Cs C).2.2.1 = Cs ++ X) ∧ ∃ Y, (cTx tx len f L Cs C).2.2.2 = C ++ Y
  | 0, L, Cs, C, _ => ⟨⟨[], (List.append_nil _).symm⟩, ⟨[], (List.append_nil _).symm⟩⟩
  | f + 1, L, Cs, C, hz => by
    unfold cTx at hz ⊢
    split at hz
    · next c =>
      rw [if_pos c]
      exact ⟨⟨[], (List.append_nil _).symm⟩, ⟨[], (List.append_nil _).symm⟩⟩
    · next c =>
      rw [if_neg c]
      split at hz
      · next c2 =>
        rw [if_pos c2]
        obtain ⟨⟨X, a⟩, ⟨Y, b⟩⟩ := cTx_app f _ _ _ hz
        obtain ⟨⟨X1, a1⟩, ⟨Y1, b1⟩⟩ := cCl_app c2
        exact ⟨⟨X1 ++ X, by rw [a, a1, List.append_assoc]⟩, ⟨Y1 ++ Y, by rw [b, b1, List.append_assoc]⟩⟩
      · next c2 => exact absurd hz c2
end CTL
section MTO
variable {G : GC} {e q m d n len t0 : Nat} {tx : Nat → Nat} {ml : Nat → Nat → Int64} {K : Int32 → (Nat → Nat → Int32) → (Nat → Nat → Int64) → Prop}
/-- the work and the told alone changed -/
def offL (mi mi1 : Nat → Nat → Int32) : Prop := (∀ o, o ≠ 155 → o ≠ 161 → mi1 o = mi o) ∧ mi1 155 0 = mi 155 0 ∧ mi1 155 1 = mi 155 1
theorem offL.refl (mi : Nat → Nat → Int32) : offL mi mi := ⟨fun _ _ _ => rfl, rfl, rfl⟩
theorem offL.trans {a b c : Nat → Nat → Int32} (h : offL a b) (h1 : offL b c) : offL a c := ⟨fun o z z2 => by rw [h1.1 o z z2, h.1 o z z2], by rw [h1.2.1, h.2.1], by rw [h1.2.2, h.2.2]⟩
theorem Mw.offL {mi mi1 : Nat → Nat → Int32} (h : Mw q m d n mi) (ho : offL mi mi1) : Mw q m d n mi1 := h.off ⟨ho.2.1, ho.2.2⟩ (by rw [ho.1 154 (by omega) (by omega)]; exact ⟨rfl, rfl⟩) (ho.1 158 (by omega) (by omega)) (ho.1 159 (by omega) (by omega)) (ho.1 160 (by omega) (by omega))
theorem ten_SI {A : Ast} (h : SI A d n) : kc (aks A) 0 (adn A) ≤ 10 ∧ kc (aks A) 1 (adn A) ≤ 10 := ⟨Nat.le_trans (kc_le h.2.2.1) h.2.2.2.2.1, Nat.le_trans (kc_le h.2.2.1) h.2.2.2.2.2.1⟩
theorem NONE_ne {k : Nat} (hk : k < 2 ^ 31) : nI k ≠ NONE := fun z => by
  have h1 : (nI k).toInt = (NONE : Int32).toInt := by rw [z]
  rw [show (NONE : Int32).toInt = -1 by decide, nI_toInt hk] at h1
  omega
theorem m_toldL (ht0 : t0 < 4) {mi0 : Nat → Nat → Int32} (h0 : Mw q m d n mi0) {F : List (Nat × Nat × Nat)} {CF : List (Nat × Nat)} (hcl : ClsM t0 mi0 F) (hcd : CodM t0 mi0 CF) (hcf : CF.length ≤ 302) {ZR : Int32 × Cst} (hK : ∀ mi1, offL mi0 mi1 → Ma 155 (cN ZR.2) mi1 → K ZR.1 mi1 ml) :
    ∀ (f f2 : Nat) (L M : Lx) (r : RS) (Cs : List (Nat × Nat × Nat)) (C : List (Nat × Nat)) (c : Cst) (mi : Nat → Nat → Int32), f + Cs.length = 20 → f < f2 → Lxq L M → (cTx tx len f2 L Cs C).1 = 0 → (cTx tx len f2 L Cs C).2.2.1 = F → (cTx tx len f2 L Cs C).2.2.2 = CF → offL mi0 mi → Ma 155 (cN c) mi → SI (cN c) d n → tol q m d n tx len f Cs.length (M, r) Cs.length c = some ZR → wp G e tM m_X10_told 21 [(0, .ref 154), (1, .int (nI t0)), (2, .int (nI Cs.length))] [] (mi, ml, RX RM) (QI K) := by
  have h0n := h0.two
  have hF20 := hcl.2.1
  have e0 : nI 670 * nI t0 = nI (670 * t0) := pk_mul _ _
  have cnt : ∀ mi, offL mi0 mi → mi 157 (670 * t0) = nI F.length := fun mi ho => by rw [ho.1 157 (by omega) (by omega)]; exact hcl.1
  have done : ∀ (c : Cst) (mi : Nat → Nat → Int32), offL mi0 mi → Ma 155 (cN c) mi → (NONE, c) = ZR → wp G e tM m_X10_told 21 [(0, .ref 154), (1, .int (nI t0)), (2, .int (nI F.length))] [] (mi, ml, RX RM) (QI K) := fun c mi ho hMa hzr => by
    apply b_X10_told_21
    rw [e0, s_in (by omega), s_ix (by omega), cnt mi ho, s_le (by omega) (by omega)]
    refine ⟨by omega, fun _ => ?_, fun z => absurd (Nat.le_refl _) z⟩
    have := hK mi ho (by rw [← hzr]; exact hMa)
    rw [← hzr] at this
    exact this
  intro f
  induction f with
  | zero =>
    intro f2 L M r Cs C c mi hf hf2 hLM hz hF hCF ho hMa hSI ht
    obtain ⟨f3, rfl⟩ : ∃ f3, f2 = f3 + 1 := ⟨f2 - 1, by omega⟩
    have e1 : cTx tx len (f3 + 1) L Cs C = if L.1 = 0 then (0, L, Cs, C) else if (cCl tx len L Cs C).1 = 0 then cTx tx len f3 (cCl tx len L Cs C).2.1 (cCl tx len L Cs C).2.2.1 (cCl tx len L Cs C).2.2.2 else cCl tx len L Cs C := rfl
    rw [e1] at hz hF hCF
    by_cases c0 : L.1 = 0
    · rw [if_pos c0] at hF
      have hF1 : Cs = F := hF
      rw [hF1]
      have ht1 : some (NONE, c) = some ZR := ht
      injection ht1 with ht2
      exact done c mi ho hMa ht2
    · rw [if_neg c0] at hz
      by_cases c1 : (cCl tx len L Cs C).1 = 0
      · obtain ⟨M1, -, -, -, -, b5⟩ := (cCl_p (w := true) (q := q) (m := m) (d := d) (n := n) (r := r) hLM c0 Cs C (by omega)).1 c1
        omega
      · rw [if_neg c1] at hz
        exact absurd hz c1
  | succ f ih =>
    intro f2 L M r Cs C c mi hf hf2 hLM hz hF hCF ho hMa hSI ht
    obtain ⟨f3, rfl⟩ : ∃ f3, f2 = f3 + 1 := ⟨f2 - 1, by omega⟩
    have e1 : cTx tx len (f3 + 1) L Cs C = if L.1 = 0 then (0, L, Cs, C) else if (cCl tx len L Cs C).1 = 0 then cTx tx len f3 (cCl tx len L Cs C).2.1 (cCl tx len L Cs C).2.2.1 (cCl tx len L Cs C).2.2.2 else cCl tx len L Cs C := rfl
    have e2 : ∀ nC, tol q m d n tx len (f + 1) nC (M, r) nC c = if (pCl true q m d n tx len (M, r) nC).1 = 0 then some (NONE, c) else if (pCl true q m d n tx len (M, r) nC).1 = 3 then none else
      if sK (pCl true q m d n tx len (M, r) nC).2.1 = true then some (nI nC, c) else
        (if (pCl true q m d n tx len (M, r) nC).1 = 2 then
          (if (tellP c (sS (pCl true q m d n tx len (M, r) nC).2.1 0)).1 = NONE then some (nI nC, c) else tol q m d n tx len f (nC + 1) (pCl true q m d n tx len (M, r) nC).2.1 (pCl true q m d n tx len (M, r) nC).2.2 (tellP c (sS (pCl true q m d n tx len (M, r) nC).2.1 0)).2)
         else
          (if (tellM c (sS (pCl true q m d n tx len (M, r) nC).2.1 0)).1 = NONE then some (nI nC, c) else tol q m d n tx len f (nC + 1) (pCl true q m d n tx len (M, r) nC).2.1 (pCl true q m d n tx len (M, r) nC).2.2 (tellM c (sS (pCl true q m d n tx len (M, r) nC).2.1 0)).2)) := fun _ => rfl
    rw [e1] at hz hF hCF
    rw [e2] at ht
    by_cases c0 : L.1 = 0
    · rw [if_pos c0] at hF
      have hF1 : Cs = F := hF
      have e : ∀ nC, pCl true q m d n tx len (M, r) nC = (0, (M, r), nC) := fun nC => by
        unfold pCl
        rw [show sL (M, r) = M from rfl, ← hLM.1, if_pos c0]
      rw [e, if_pos rfl] at ht
      injection ht with ht2
      rw [hF1]
      exact done c mi ho hMa ht2
    · rw [if_neg c0] at hz hF hCF
      by_cases c1 : (cCl tx len L Cs C).1 = 0
      · rw [if_pos c1] at hz hF hCF
        obtain ⟨M1, b1, b2, b3, b4, b5⟩ := (cCl_p (w := true) (q := q) (m := m) (d := d) (n := n) (r := r) hLM c0 Cs C (by omega)).1 c1
        have hok := cCl_ok c1
        obtain ⟨⟨X, x1⟩, ⟨Y, y1⟩⟩ := cTx_app f3 _ _ _ hz
        have v1 : (cCl tx len L Cs C).2.2.1 = Cs ++ [(clS tx L, C.length, (C ++ clC tx len L).length)] := by rw [b4]
        have v2 : (cCl tx len L Cs C).2.2.2 = C ++ clC tx len L := by rw [b4]
        have hl1 : (cCl tx len L Cs C).2.2.1.length = Cs.length + 1 := by rw [v1]; exact List.length_append
        rw [hF, v1] at x1
        rw [hCF, v2] at y1
        have hFl : F.length = Cs.length + 1 + X.length := by rw [x1, List.length_append, List.length_append]; rfl
        have hget : F.getD Cs.length (0, 0, 0) = (clS tx L, C.length, (C ++ clC tx len L).length) := by
          rw [x1, List.append_assoc, List.getD_eq_getElem?_getD, List.getElem?_append_right (Nat.le_refl _), Nat.sub_self]
          rfl
        obtain ⟨k1, k2, k3⟩ := hcl.2.2 Cs.length (by omega)
        rw [hget] at k1 k2 k3
        have k1b : mi0 157 (670 * t0 + 1 + 3 * Cs.length) = nI (clS tx L) := k1
        have k2b : mi0 157 (670 * t0 + 1 + 3 * Cs.length + 1) = nI C.length := k2
        have k3b : mi0 157 (670 * t0 + 1 + 3 * Cs.length + 2) = nI (C ++ clC tx len L).length := k3
        have hCFl : CF.length = C.length + (clC tx len L).length + Y.length := by rw [y1, List.length_append, List.length_append]
        have hsl : clS tx L = 0 ∨ clS tx L = 1 := by unfold clS; split <;> omega
        have hM : Mw q m d n mi := h0.offL ho
        have h10 := ten_SI hSI
        have hks := hSI.2.2.2.2.2.2.1
        rw [b2] at ht
        dsimp only at ht
        obtain ⟨j1, j2⟩ := exL_ev (q := q) (m := m) (d := d) (n := n) (clC tx len L) 0 1 r.2.1 (fun _ _ => 0) r.2.2.1 r.2.2.2 hok (fun i hi => absurd hi (Nat.not_lt_zero _))
        have hr2 : (false, r.2.1, r.2.2.1, r.2.2.2) = ((false, r.2) : RS) := rfl
        rw [hr2] at j1 j2
        apply b_X10_told_21
        have a1 : nI (670 * t0) + nI 1 + nI 3 * nI Cs.length = nI (670 * t0 + 1 + 3 * Cs.length) := by rw [pk_mul, nI_add, nI_add]
        have a2 : nI (670 * t0) + nI 65 = nI (670 * t0 + 65) := nI_add _ _
        rw [e0, s_in (by omega), s_ix (by omega), cnt mi ho, s_le (by omega) (by omega), a1, a2]
        refine ⟨by omega, fun z => absurd z (by omega), fun _ => ?_⟩
        apply e_X10_works
        have e157 : mi 157 = mi0 157 := ho.1 157 (by omega) (by omega)
        rw [nI_add, s_in (by omega), s_ix (by omega), e157, k2b]
        refine ⟨by omega, ?_⟩
        have hkind : ¬ ((if clS tx L = 1 then 2 else 1) = 0) ∧ ¬ ((if clS tx L = 1 then 2 else 1) = 3) := by split <;> omega
        rw [if_neg hkind.1, if_neg hkind.2] at ht
        have hCdm : CodM t0 mi CF := fun i hi => by rw [e157]; exact hcd i hi
        refine m_worksL (E := (C ++ clC tx len L).length) (b1 := 670 * t0 + 1 + 3 * Cs.length) (C := CF) (B := Y) ht0 (by omega) hM hCdm hcf (by rw [e157]; exact k3b) (h1 := 1) (Z := evL q m d n (clC tx len L) (0, fun _ _ => 0)) (fun z hz1 mi1 o1 v => ?_) (fun hz1 mi1 o1 => ⟨fun z => absurd rfl z, fun _ => ?_⟩) (clC tx len L) C 0 (fun _ _ => 0) mi (by rw [y1, List.append_assoc]) List.length_append (offE.refl mi) hok (by omega) (fun i hi => absurd hi (Nat.not_lt_zero _)) rfl
        · obtain ⟨S1, g1, g2, g3⟩ := j2 z hz1
          obtain ⟨zh, zS⟩ := z
          dsimp only at g1 g2 g3 v
          subst g3
          have hS0 : S1 0 = zS 0 := g2 0 (by omega)
          rw [g1] at ht
          rw [if_neg (show ¬ sK (M1, ((false, S1, r.2.2.1, r.2.2.2) : RS)) = true from Bool.false_ne_true)] at ht
          have hsS : sS (M1, ((false, S1, r.2.2.1, r.2.2.2) : RS)) 0 = zS 0 := hS0
          rw [hsS] at ht
          have hw8 : Wr n mi1 8 (zS 0) := v 0 (by omega)
          have oL : offL mi mi1 := ⟨fun o _ z => o1 o z, by rw [o1 155 (by omega)], by rw [o1 155 (by omega)]⟩
          have hMa1 : Ma 155 (cN c) mi1 := hMa.off (o1 155 (by omega))
          have e157b : mi1 157 = mi0 157 := by rw [o1 157 (by omega)]; exact e157
          rw [e157b, s_in (by omega), s_ix (by omega), k1b]
          have fin1 : (NONE, c) = (NONE, c) → some (nI Cs.length, c) = some ZR → ∀ mi2, offL mi mi2 → Ma 155 (cN c) mi2 → K (nI Cs.length) mi2 ml := fun _ h1 mi2 o2 m2 => by
            injection h1 with h2
            have := hK mi2 (ho.trans o2) (by rw [← h2]; exact m2)
            rw [← h2] at this
            exact this
          have hl2 : Cs.length + 1 = (cCl tx len L Cs C).2.2.1.length := hl1.symm
          refine ⟨fun _ => ⟨by omega, fun c2 => ?_, fun c2 => ?_⟩, fun z => absurd z (by decide)⟩
          · have hs1 : clS tx L = 1 := by
              rcases hsl with z | z
              · exact absurd (by rw [z]) c2
              · exact z
            rw [if_pos hs1] at ht
            rw [if_pos rfl] at ht
            unfold tellP at ht
            refine m_tellMap hMa1 h0n.2 hw8 h10.1 h10.2 hks (fun hc mi2 o2 q0 q1 m2 => ?_) (fun hc => ?_)
            · rw [if_pos hc] at ht
              dsimp only at ht
              rw [if_neg (NONE_ne (by omega))] at ht
              rw [s_le (by omega) (by omega)]
              refine ⟨fun _ => ?_, fun z => absurd (Nat.zero_le _) z⟩
              have oL2 : offL mi1 mi2 := ⟨fun o z _ => o2 o z, q0, q1⟩
              rw [nI_add, hl2]
              rw [hl2] at ht
              exact ih f3 _ M1 _ _ _ (tell1A (cN c) (zS 0), c.2) mi2 (by omega) (by omega) b1 hz hF hCF ((ho.trans oL).trans oL2) m2 (SI_tell1 hSI hw8.2.2.2 hc.1.1 hc.1.2 hc.2) ht
            · rw [if_neg hc] at ht
              rw [if_pos rfl] at ht
              exact ⟨fun z => absurd z (by decide), fun _ => fin1 rfl ht mi1 oL hMa1⟩
          · have hs0 : clS tx L = 0 := (s_eq (by omega) (by omega)).mp c2
            have hs1 : ¬ clS tx L = 1 := by omega
            rw [if_neg hs1] at ht
            rw [if_neg (show ¬ (1 : Nat) = 2 by decide)] at ht
            unfold tellM at ht
            refine m_tellModule hMa1 h0n.2 hw8 h10.1 h10.2 hks (fun hc mi2 o2 q0 q1 m2 => ?_) (fun hc => ?_)
            · rw [if_pos hc] at ht
              dsimp only at ht
              rw [if_neg (NONE_ne (by omega))] at ht
              rw [s_le (by omega) (by omega)]
              refine ⟨fun _ => ?_, fun z => absurd (Nat.zero_le _) z⟩
              have oL2 : offL mi1 mi2 := ⟨fun o z _ => o2 o z, q0, q1⟩
              rw [nI_add, hl2]
              rw [hl2] at ht
              exact ih f3 _ M1 _ _ _ (tell0A (cN c) (zS 0), c.2) mi2 (by omega) (by omega) b1 hz hF hCF ((ho.trans oL).trans oL2) m2 (SI_tell0 hSI hw8.2.2.2 hc.1.1 hc.1.2 hc.2) ht
            · rw [if_neg hc] at ht
              rw [if_pos rfl] at ht
              exact ⟨fun z => absurd z (by decide), fun _ => fin1 rfl ht mi1 oL hMa1⟩
        · have hst : sK (M1, (exL true q m d n (clC tx len L) (0, (false, r.2))).2) = true := j1 hz1
          rw [if_pos hst] at ht
          injection ht with ht2
          have hMa1 : Ma 155 (cN c) mi1 := hMa.off (o1 155 (by omega))
          have oL : offL mi mi1 := ⟨fun o _ z => o1 o z, by rw [o1 155 (by omega)], by rw [o1 155 (by omega)]⟩
          have := hK mi1 (ho.trans oL) (by rw [← ht2]; exact hMa1)
          rw [← ht2] at this
          exact this
      · rw [if_neg c1] at hz
        exact absurd hz c1
theorem m_told {sq : Cst} {mi : Nat → Nat → Int32} (h0 : Mw q m d n mi) (hMa : Ma 155 (cN sq) mi) (hSI : SI (cN sq) d n) (hat : atx (cN sq) ≤ 4) {v1 : Int32} (hin : ∀ i, asN (atx (cN sq)) v1 = some i → i < atx (cN sq) → StT i (cXb sq i) (cXl sq i) mi ∧ (∀ k, cXb sq i k < 256)  ∧ cXl sq i ≤ 300) {num : Nat} {S : Nat → Nat → Nat} {ZR : Int32 × Cst} (hf : fTold sq v1 num S = some ZR) (hq : aq (cN sq) = q) (hm : am (cN sq) = m) (hd : dO (cN sq) = d) (hn : nO (cN sq) = n) (hK : ∀ mi1, offL mi mi1 → Ma 155 (cN ZR.2) mi1 → K ZR.1 mi1 ml) : wpI G e 168 m_X10_told [.ref 154, .int v1] (mi, ml, RX RM) K := by
  unfold fTold at hf
  rw [hq, hm, hd, hn] at hf
  have h4 : mi 155 4 = nI (atx (cN sq)) := hMa.2.2.2.2.1
  have e2 : ix (nI 4) = 4 := by decide
  apply e_X10_told
  rw [e2, h4, s_in (by omega)]
  refine ⟨by omega, ?_⟩
  refine m_below (by omega) (fun i hi hv hlt => ⟨fun _ => ?_, fun z => absurd z (by decide)⟩) (fun hno => ⟨fun z => absurd rfl z, fun _ => ?_⟩)
  · rw [hi] at hf
    obtain ⟨⟨s1, s2, s3⟩, s4, s5⟩ := hin i hi hlt
    rw [hv]
    have hlen := rTx_len s4 (v := 0) (by omega) s1
    exact m_toldL (F := (rTx (cXb sq i) (cXl sq i) 0).2.2.1) (CF := (rTx (cXb sq i) (cXl sq i) 0).2.2.2) (by omega) h0 s2 s3 (by omega) hK 20 302 (stp (cXb sq i) (cXl sq i) (0, 0, 0, 0)) (stp (cXb sq i) (cXl sq i) (0, 0, num, 0)) (false, S, 0, 0) [] [] sq mi rfl (by decide) (stp_q ⟨rfl, rfl, rfl, fun z => absurd (show (0 : Nat) = 2 from z) (by decide)⟩) s1 rfl rfl (offL.refl mi) hMa hSI hf
  · rw [hno] at hf
    have hf1 : some (-(nI 2), sq) = some ZR := hf
    injection hf1 with hf2
    have := hK mi (offL.refl mi) (by rw [← hf2]; exact hMa)
    rw [← hf2] at this
    exact this
end MTO
