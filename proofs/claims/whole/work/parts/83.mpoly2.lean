/-! the reference: poly, world -/
section MPY
variable {G : GC} {e q m d n : Nat} {mi : Nat → Nat → Int32} {ml : Nat → Nat → Int64} {K : Int32 → (Nat → Nat → Int32) → (Nat → Nat → Int64) → Prop}
theorem tms_is {a b : Nat} (hq : q = 2 ∨ q = 3 ∨ q = 5) (ha : a < q ^ 13) (hb : b < q ^ 13) : oI (tms q a b) = if ln q 13 a + ln q 13 b ≤ 14 then nI (prd q a b) else NONE := by
  have h2 : 2 ≤ q := by omega
  have l1 := ln_le q 13 a
  have l2 := ln_le q 13 b
  unfold tms
  by_cases c : a = 0 ∨ b = 0
  · have e0 : prd q a b = 0 := by
      have hz : ∀ b, prd q 0 b = 0 := fun b => by
        unfold prd
        rw [ln_zero h2]
        rfl
      rcases c with c | c
      · rw [c]; exact hz b
      · rw [c, prd_comm h2 ha (Nat.pow_pos (by omega)) (by rw [ln_zero h2]; omega)]
        exact hz a
    rw [if_pos c, if_pos ?_, e0]
    · rfl
    · rcases c with c | c
      · rw [c, ln_zero h2]; omega
      · rw [c, ln_zero h2]; omega
  · rw [if_neg c]
    split
    · rfl
    · rfl
theorem m_poly (h : Mq q mi) {s : Cst} (hs : aq (cN s) = q) {v1 v2 v3 : Int32} (hK : ∀ mi1, offD mi mi1 → K (fPoly s v1 v2 v3) mi1 ml) : wpI G e 168 m_X10_poly [.ref 154, .int v1, .int v2, .int v3] (mi, ml, RX RM) K := by
  have h2 := h.two
  have h31 := pow_lt31 (M := 13) h.1 (Nat.le_refl _)
  unfold fPoly at hK
  rw [hs] at hK
  have hK0 := hK mi (offD.refl mi)
  apply e_X10_poly
  refine m_isPoly h (fun a ha hv hlt => ?_) (fun hno => ?_)
  · rw [ha] at hK hK0
    refine ⟨fun z => absurd z (by decide), fun _ => m_isPoly h (fun b hb hvb hltb => ?_) (fun hno => ?_)⟩
    · rw [hb] at hK hK0
      replace hK : ∀ mi1, offD mi mi1 → K (if v1 = nI 0 then nI (cmb q 1 13 a b) else if v1 = nI 1 then nI (cmb q (q - 1) 13 a b) else if v1 = nI 2 then (if ln q 13 a + ln q 13 b ≤ 14 then nI (prd q a b) else NONE) else if v1 = nI 3 then (if b = 0 then NONE else nI (rst q a b)) else if v1 = nI 4 then (if b = 0 then NONE else nI (quo q a b)) else if v1 = nI 5 then nI (gcn q a b) else NONE) mi1 ml := hK
      replace hK0 := hK mi (offD.refl mi)
      subst hv
      subst hvb
      refine ⟨fun z => absurd z (by decide), fun _ => m_isIn (a := 0) (by omega) (by omega) (fun c hc _ hc5 => ⟨fun z => absurd z (by decide), fun _ => ?_⟩) (fun hno => ⟨fun _ => ?_, fun z => absurd rfl z⟩)⟩
      · subst hc
        have n0 : ∀ i, i ≤ 5 → (nI c = nI i) = (c = i) := fun i hi => s_eq (by omega) (by omega)
        have pn : ∀ i, i ≤ 5 → c ≠ i → ¬ nI c = nI i := fun i hi hne z => hne (by rw [n0 i hi] at z; exact z)
        have k0 : c = 0 → K (nI (cmb q 1 13 a b)) mi ml := fun z => by
          rw [if_pos (by rw [z])] at hK0
          exact hK0
        have k1 : c = 1 → K (nI (cmb q (q - 1) 13 a b)) mi ml := fun z => by
          rw [if_neg (pn 0 (by omega) (by omega)), if_pos (by rw [z])] at hK0
          exact hK0
        have k2 : c = 2 → K (oI (tms q a b)) mi ml := fun z => by
          rw [if_neg (pn 0 (by omega) (by omega)), if_neg (pn 1 (by omega) (by omega)), if_pos (by rw [z]), ← tms_is h.1 hlt hltb] at hK0
          exact hK0
        have k3 : c = 3 → ∀ mi1, offD mi mi1 → K (if b = 0 then NONE else nI (rst q a b)) mi1 ml := fun z mi1 ho => by
          have := hK mi1 ho
          rw [if_neg (pn 0 (by omega) (by omega)), if_neg (pn 1 (by omega) (by omega)), if_neg (pn 2 (by omega) (by omega)), if_pos (by rw [z])] at this
          exact this
        have k4 : c = 4 → ∀ mi1, offD mi mi1 → K (if b = 0 then NONE else nI (quo q a b)) mi1 ml := fun z mi1 ho => by
          have := hK mi1 ho
          rw [if_neg (pn 0 (by omega) (by omega)), if_neg (pn 1 (by omega) (by omega)), if_neg (pn 2 (by omega) (by omega)), if_neg (pn 3 (by omega) (by omega)), if_pos (by rw [z])] at this
          exact this
        have k5 : c = 5 → ∀ mi1, offD mi mi1 → K (nI (gcn q a b)) mi1 ml := fun z mi1 ho => by
          have := hK mi1 ho
          rw [if_neg (pn 0 (by omega) (by omega)), if_neg (pn 1 (by omega) (by omega)), if_neg (pn 2 (by omega) (by omega)), if_neg (pn 3 (by omega) (by omega)), if_neg (pn 4 (by omega) (by omega)), if_pos (by rw [z])] at this
          exact this
        rw [n0 0 (by omega), n0 1 (by omega), n0 2 (by omega), n0 3 (by omega), n0 4 (by omega), s_eq (a := b) (b := 0) (by omega) (by omega)]
        have e1 : mi 155 (ix (nI 0)) - nI 1 = nI (q - 1) := by
          rw [s_ix (by omega), h.2, s_sub (by omega)]
        have v0 : vp_in (nI 0) 150 := by rw [s_in (by omega)]; omega
        rw [e1]
        refine ⟨fun zb => ⟨fun z => m_sumOf h hlt hltb (by omega) (k0 z), fun z0 => ⟨fun z => ⟨v0, m_sumOf h hlt hltb (by omega) (k1 z)⟩, fun z1 => ⟨fun z => m_times h hlt hltb (k2 z), fun z2 => ⟨fun z => m_rest h hlt hltb (by omega) (fun mi1 ho => ?_), fun z3 => ⟨fun z => m_by h hlt hltb (by omega) (fun mi1 ho => ?_), fun z4 => m_common h hlt hltb (k5 (by omega))⟩⟩⟩⟩⟩,
          fun zb => ⟨fun z => ?_, fun z3 => ⟨fun z4 => ⟨fun z => m_sumOf h hlt hltb (by omega) (k0 z), fun z0 => ⟨fun z => ⟨v0, m_sumOf h hlt hltb (by omega) (k1 z)⟩, fun z1 => ⟨fun z => m_times h hlt hltb (k2 z), fun z2 => ⟨fun z => absurd z z3, fun z3 => ⟨fun z => absurd z z4, fun z4 => m_common h hlt hltb (k5 (by omega))⟩⟩⟩⟩⟩, fun z4 => ?_⟩⟩⟩
        · have := k3 z mi1 ho
          rw [if_neg (by omega)] at this
          exact this
        · have := k4 z mi1 ho
          rw [if_neg (by omega)] at this
          exact this
        · have := k3 z mi (offD.refl mi)
          rw [if_pos zb] at this
          exact this
        · have := k4 (by omega) mi (offD.refl mi)
          rw [if_pos zb] at this
          exact this
      · rw [if_neg (hno 0 (by omega) (by omega)), if_neg (hno 1 (by omega) (by omega)), if_neg (hno 2 (by omega) (by omega)), if_neg (hno 3 (by omega) (by omega)), if_neg (hno 4 (by omega) (by omega)), if_neg (hno 5 (by omega) (by omega))] at hK0
        exact hK0
    · rw [hno] at hK0
      exact ⟨fun _ => hK0, fun z => absurd rfl z⟩
  · rw [hno] at hK0
    exact ⟨fun _ => hK0, fun z => absurd rfl z⟩
/-- the reference in a new world: q, m and nothing told -/
def m_wA (q m : Nat) (mi mi1 : Nat → Nat → Int32) : Prop := (∀ o, o ≠ 154 → o ≠ 155 → o ≠ 158 → o ≠ 159 → o ≠ 160 → mi1 o = mi o) ∧ (∀ k, k ≠ 3 → k ≠ 4 → k ≠ 9 → k ≠ 10 → mi1 154 k = mi 154 k) ∧ mi1 155 0 = nI q ∧ mi1 155 1 = nI m ∧ mi1 155 2 = 0 ∧ mi1 155 3 = 0 ∧ mi1 155 5 = 0 ∧ mi1 155 6 = 0 ∧ ∀ k, 7 ≤ k ∨ k = 4 → mi1 155 k = mi 155 k
theorem m_world {v1 v2 : Int32}
    (h1 : ∀ q m, (q = 2 ∨ q = 3 ∨ q = 5) → v1 = nI q → v2 = nI m → m < q ^ 13 → isMod q m = true → ∀ mi1, m_wA q m mi mi1 → Mw q m (ln q 13 m - 1) (q ^ (ln q 13 m - 1)) mi1 → K (nI (q ^ (ln q 13 m - 1))) mi1 ml)
    (h0 : (∀ q m, (q = 2 ∨ q = 3 ∨ q = 5) → v1 = nI q → v2 = nI m → m < q ^ 13 → ¬ isMod q m = true) → ∀ mi1, offD mi mi1 → K NONE mi1 ml) : wpI G e 168 m_X10_world [.ref 154, .int v1, .int v2] (mi, ml, RX RM) K := by
  have v0 : ∀ i, i < 150 → vp_in (nI i) 150 := fun i hi => by rw [s_in (by omega)]; exact hi
  have body : ∀ q, (q = 2 ∨ q = 3 ∨ q = 5) → v1 = nI q → ((v1 ≤ v2 → (vp_in (nI 0) 150 ∧ (vp_in (nI 0) 150 ∧ (((nI 256) ≤ v2 → wp G e tM m_X10_world 85 [(0, .ref 154), (2, .int v2), (3, .int (mi 155 (ix (nI 0))))] [.int (nI 0)] ((u2 mi 155 (ix (nI 0)) v1), ml, (RX RM)) (QI K)) ∧ (¬ (nI 256) ≤ v2 → (wpI G e 168 m_X10_isPrime [.ref 154, .int v2] ((u2 mi 155 (ix (nI 0)) v1), ml, (RX RM)) (fun r33 mi31 ml32 => ((r33 = (nI 0) → wp G e tM m_X10_world 85 [(0, .ref 154), (2, .int v2), (3, .int (mi 155 (ix (nI 0))))] [.int (nI 0)] (mi31, ml32, (RX RM)) (QI K)) ∧ (¬ r33 = (nI 0) → (wpI G e 168 m_X10_degree [.ref 154, .int v2] (mi31, ml32, (RX RM)) (fun r36 mi34 ml35 => (wpI G e 168 m_X10_isIn [.int r36, .int (nI 1), .int (nI 7)] (mi34, ml35, (RX RM)) (fun r39 mi37 ml38 => ((r39 = (nI 0) → wp G e tM m_X10_world 85 [(0, .ref 154), (2, .int v2), (3, .int (mi 155 (ix (nI 0))))] [.int (nI 0)] (mi37, ml38, (RX RM)) (QI K)) ∧ (¬ r39 = (nI 0) → (wpI G e 168 m_X10_degree [.ref 154, .int v2] (mi37, ml38, (RX RM)) (fun r42 mi40 ml41 => (wpI G e 168 m_X10_power [.ref 154, .int r42] (mi40, ml41, (RX RM)) (fun r45 mi43 ml44 => (((nI 128) < r45 → wp G e tM m_X10_world 85 [(0, .ref 154), (2, .int v2), (3, .int (mi 155 (ix (nI 0))))] [.int (nI 0)] (mi43, ml44, (RX RM)) (QI K)) ∧ (¬ (nI 128) < r45 → wp G e tM m_X10_world 85 [(0, .ref 154), (2, .int v2), (3, .int (mi 155 (ix (nI 0))))] [.int (nI 1)] (mi43, ml44, (RX RM)) (QI K)))))))))))))))))))))) ∧ (¬ v1 ≤ v2 → K (-(nI 1)) mi ml)) := by
    intro q hq hv
    have h2 : 2 ≤ q := by omega
    have h31 := pow_lt31 (M := 13) hq (Nat.le_refl _)
    have hp8 : 256 ≤ q ^ 13 := by
      have : 2 ^ 13 ≤ q ^ 13 := Nat.pow_le_pow_left h2 13
      omega
    subst hv
    have uq : ∀ q2 : Nat, (q2 = 2 ∨ q2 = 3 ∨ q2 = 5) → nI q = nI q2 → q2 = q := fun q2 hq2 he => by
      rw [s_eq (by omega) (by omega)] at he
      exact he.symm
    have fail : ∀ mi1, offD (u2 mi 155 0 (nI q)) mi1 → (∀ m, v2 = nI m → m < q ^ 13 → ¬ isMod q m = true) → wp G e tM m_X10_world 85 [(0, .ref 154), (2, .int v2), (3, .int (mi 155 0))] [.int (nI 0)] (mi1, ml, (RX RM)) (QI K) := by
      intro mi1 ho hno
      apply b_X10_world_85
      refine ⟨fun z => absurd rfl z, fun _ => ⟨v0 0 (by omega), ?_⟩⟩
      rw [s_ix (by omega)]
      refine h0 (fun q2 m2 hq2 e1 e2 hm => ?_) _ ⟨fun o ho1 => ?_, fun k k1 k2 => ?_⟩
      · have := uq q2 hq2 e1
        subst this
        exact hno m2 e2 hm
      · by_cases c : o = 155
        · subst c
          funext k
          by_cases c : k = 0
          · rw [c, u2_at]
          · rw [u2_ne c, ho.1 155 (by omega), u2_ne c]
        · rw [u2_off c, ho.1 o ho1, u2_off c]
      · rw [u2_off (by omega), ho.2 k k1 k2, u2_off (by omega)]
    have hM : Mq q (u2 mi 155 0 (nI q)) := ⟨hq, u2_at⟩
    refine ⟨fun z => ⟨v0 0 (by omega), v0 0 (by omega), fun c => ?_, fun c => ?_⟩, fun z => h0 (fun q2 m2 hq2 e1 e2 hm hmod => ?_) mi (offD.refl mi)⟩
    · rw [s_ix (by omega)]
      refine fail _ (offD.refl _) (fun m hm hlt hmod => ?_)
      have := isMod_256 hq hmod
      rw [hm, s_le (by omega) (by omega)] at c
      omega
    · have hneg : ¬ v2 < 0 := fun z2 => by
        rw [Int32.le_iff_toInt_le, nI_toInt (by omega)] at z
        rw [Int32.lt_iff_toInt_lt] at z2
        have h3 : (0 : Int32).toInt = 0 := by decide
        omega
      obtain ⟨m, hm, rfl⟩ := nI_of hneg
      rw [s_le (by omega) (by omega)] at c z
      have hm13 : m < q ^ 13 := by omega
      have hmw := mw_is hq (m := m) (by omega)
      rw [s_ix (by omega)]
      have um : ∀ m2, nI m = nI m2 → m2 < q ^ 13 → m2 = m := fun m2 he h => by
        rw [s_eq (by omega) (by omega)] at he
        exact he.symm
      refine m_isPrime hM hm13 (fun mi1 ho => ⟨fun z2 => ?_, fun z2 => ?_⟩)
      · refine fail _ ho (fun m2 e2 hlt hmod => ?_)
        have := um m2 e2 hlt
        subst this
        rw [hmw] at hmod
        unfold mwB at hmod
        rw [Bool.and_eq_true] at hmod
        rw [if_pos hmod.1] at z2
        exact absurd z2 (by decide)
      · have hpr : isPr q m = true := by
          by_cases c2 : isPr q m = true
          · exact c2
          · rw [if_neg c2] at z2
            exact absurd rfl z2
        have hpr2 : 2 ≤ ln q 13 m ∧ fst q m = 1 ∧ lft q m = m := of_decide_eq_true hpr
        have hl8 : ln q 13 m ≤ 8 := ln_le_lt h2 (by
          have : 2 ^ 8 ≤ q ^ 8 := Nat.pow_le_pow_left h2 8
          omega)
        have hM1 := hM.offD ho
        refine m_degree hM1 hm13 (m_isIn (a := 0) (by omega) (by omega) (fun dd hdd h3 h4 => ⟨fun z3 => absurd z3 (by decide), fun _ => ?_⟩) (fun hno => absurd rfl (hno (ln q 13 m - 1) (by omega) (by omega))))
        refine m_degree hM1 hm13 (m_power hM1 (by omega) ⟨fun z3 => ?_, fun z3 => ?_⟩)
        · refine fail _ ho (fun m2 e2 hlt hmod => ?_)
          have := um m2 e2 hlt
          subst this
          have h0 : m2 < q ^ 13 ∧ 2 ≤ ln q 13 m2 ∧ q ^ (ln q 13 m2 - 1) ≤ 128 ∧ fst q m2 = 1 ∧ (fnd q m2).1 = 1 := of_decide_eq_true hmod
          have hpw := pow_lt31 (M := ln q 13 m2 - 1) hq (by omega)
          rw [s_lt (by omega) (by omega)] at z3
          omega
        · have hpw := pow_lt31 (M := ln q 13 m - 1) hq (by omega)
          rw [s_lt (by omega) (by omega)] at z3
          have hmod : isMod q m = true := by
            rw [hmw]
            unfold mwB
            rw [hpr, Bool.true_and]
            exact decide_eq_true (by omega)
          have hP := modOK_is q m hq hmod
          apply b_X10_world_85
          refine ⟨fun _ => ⟨v0 1 (by omega), v0 2 (by omega), v0 3 (by omega), v0 5 (by omega), v0 6 (by omega), ?_⟩, fun z4 => absurd z4 (by decide)⟩
          rw [s_ix (by omega), s_ix (by omega), s_ix (by omega), s_ix (by omega), s_ix (by omega)]
          have f155 : ∀ k, k ≠ 1 → k ≠ 2 → k ≠ 3 → k ≠ 5 → k ≠ 6 → (u2 (u2 (u2 (u2 (u2 mi1 155 1 (nI m)) 155 2 (nI 0)) 155 3 (nI 0)) 155 5 (nI 0)) 155 6 (nI 0)) 155 k = u2 mi 155 0 (nI q) 155 k := fun k k1 k2 k3 k5 k6 => by
            rw [u2_ne k6, u2_ne k5, u2_ne k3, u2_ne k2, u2_ne k1, ho.1 155 (by omega)]
          have f1 : (u2 (u2 (u2 (u2 (u2 mi1 155 1 (nI m)) 155 2 (nI 0)) 155 3 (nI 0)) 155 5 (nI 0)) 155 6 (nI 0)) 155 1 = nI m := by
            rw [u2_ne (by omega), u2_ne (by omega), u2_ne (by omega), u2_ne (by omega), u2_at]
          have f0 : (u2 (u2 (u2 (u2 (u2 mi1 155 1 (nI m)) 155 2 (nI 0)) 155 3 (nI 0)) 155 5 (nI 0)) 155 6 (nI 0)) 155 0 = nI q := by
            rw [f155 0 (by omega) (by omega) (by omega) (by omega) (by omega), u2_at]
          refine m_makeWorld hP ⟨hq, f0⟩ f1 (fun mi2 hW hMw => ?_)
          rw [hMw.2.1.2.2.2]
          have g155 : mi2 155 = (u2 (u2 (u2 (u2 (u2 mi1 155 1 (nI m)) 155 2 (nI 0)) 155 3 (nI 0)) 155 5 (nI 0)) 155 6 (nI 0)) 155 := hW.1 155 (by omega) (by omega) (by omega) (by omega)
          refine h1 q m hq rfl rfl hm13 hmod mi2 ⟨fun o o1 o2 o3 o4 o5 => ?_, fun k k3 k4 k9 k10 => ?_, by rw [g155]; exact f0, by rw [g155]; exact f1, ?_, ?_, ?_, ?_, fun k hk => ?_⟩ hMw
          · rw [hW.1 o o1 o3 o4 o5, u2_off o2, u2_off o2, u2_off o2, u2_off o2, u2_off o2, ho.1 o o1, u2_off o2]
          · rw [hW.2 k k3 k4 k9 k10, u2_off (by omega), u2_off (by omega), u2_off (by omega), u2_off (by omega), u2_off (by omega), ho.2 k k9 k10, u2_off (by omega)]
          · rw [g155, u2_ne (by omega), u2_ne (by omega), u2_ne (by omega), u2_at]
            rfl
          · rw [g155, u2_ne (by omega), u2_ne (by omega), u2_at]
            rfl
          · rw [g155, u2_ne (by omega), u2_at]
            rfl
          · rw [g155, u2_at]
            rfl
          · rw [g155, f155 k (by omega) (by omega) (by omega) (by omega) (by omega), u2_ne (by omega)]
    · have := uq q2 hq2 e1
      subst this
      have := isMod_256 hq hmod
      rw [e2, s_le (by omega) (by omega)] at z
      omega
  apply e_X10_world
  exact ⟨fun z => body 2 (by omega) z, fun z2 => ⟨fun z => body 3 (by omega) z, fun z3 => ⟨fun z5 => h0 (fun q m hq hv => by
    rcases hq with c | c | c
    · exact absurd (by rw [hv, c]) z2
    · exact absurd (by rw [hv, c]) z3
    · exact absurd (by rw [hv, c]) z5) mi (offD.refl mi), fun z => body 5 (by omega) z⟩⟩⟩
end MPY
