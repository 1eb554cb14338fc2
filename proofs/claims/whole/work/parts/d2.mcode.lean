/-! texts: the class's reading against the code -/
def Lxq (L M : Lx) : Prop := L.1 = M.1 ∧ L.2.1 = M.2.1 ∧ L.2.2.2 = M.2.2.2 ∧ (L.1 = 2 → L.2.2.1 = M.2.2.1)
theorem Lxq.refl (L : Lx) : Lxq L L := ⟨rfl, rfl, rfl, fun _ => rfl⟩
theorem tkn_q {tx : Nat → Nat} {len p v u : Nat} : Lxq (tkn tx len p v) (tkn tx len p u) := by
  unfold tkn
  split
  · exact ⟨rfl, rfl, rfl, fun z => absurd (show (0 : Nat) = 2 from z) (by decide)⟩
  · split
    · exact Lxq.refl _
    · split
      · exact ⟨rfl, rfl, rfl, fun z => absurd (show (3 : Nat) = 2 from z) (by decide)⟩
      · split
        · next c => exact ⟨rfl, rfl, rfl, fun z => by
            have z2 : tx p = 2 := z
            unfold bS at c
            rw [decide_eq_true_eq] at c
            omega⟩
        · exact ⟨rfl, rfl, rfl, fun z => absurd (show (1 : Nat) = 2 from z) (by decide)⟩
theorem stp_q {tx : Nat → Nat} {len : Nat} {L M : Lx} (h : Lxq L M) : Lxq (stp tx len L) (stp tx len M) := by
  unfold stp
  rw [h.2.2.1]
  exact tkn_q
theorem isw_q {tx : Nat → Nat} {L M : Lx} (h : Lxq L M) (ws : List Nat) : isw tx M ws = isw tx L ws := by
  unfold isw
  rw [h.1, h.2.1, h.2.2.1]
abbrev RS : Type := Bool × (Nat → Nat → Nat) × Nat × Nat
def L00 : Lx := (0, 0, 0, 0)
section EXC
variable (w : Bool) (q m d n : Nat)
def exO (c : Nat × Nat) (z : Nat × RS) : Nat × RS :=
  if c.1 = 0 then (z.1 + 1, (putS w (if w = true ∧ n ≤ c.2 then (L00, true, z.2.2) else (L00, z.2)) z.1 0 c.2).2)
  else if c.1 = 1 then (z.1 + 1, (putS w (L00, z.2) z.1 1 1).2)
  else if c.1 = 2 then (z.1, (turnS w q (L00, z.2) (z.1 - 1)).2)
  else if c.1 = 6 then (z.1, (raiseS w q m d (L00, z.2) (z.1 - 1) c.2).2)
  else if c.1 = 5 then (z.1 - 1, (mulS w q m d (L00, z.2) (z.1 - 2)).2)
  else (z.1 - 1, (addS w q (L00, z.2) (z.1 - 2) (decide (c.1 = 4))).2)
def exL : List (Nat × Nat) → Nat × RS → Nat × RS
  | [], z => z
  | c :: C, z => exL C (exO w q m d n c z)
end EXC
section EXS
variable {w : Bool} {q m d n : Nat}
theorem exL_app : ∀ (C D : List (Nat × Nat)) (z : Nat × RS), exL w q m d n (C ++ D) z = exL w q m d n D (exL w q m d n C z)
  | [], D, z => rfl
  | c :: C, D, z => exL_app C D _
theorem putS_L (L : Lx) (r : RS) (t i x : Nat) : putS w (L, r) t i x = (L, (putS w (L00, r) t i x).2) := by
  unfold putS
  show (if wk w (L, r) = true then _ else _) = _
  have e : wk w (L, r) = wk w (L00, r) := rfl
  rw [e]
  split <;> rfl
theorem addS_L (L : Lx) (r : RS) (t : Nat) (b : Bool) : addS w q (L, r) t b = (L, (addS w q (L00, r) t b).2) := by
  unfold addS
  have e : wk w (L, r) = wk w (L00, r) := rfl
  rw [e]
  split <;> rfl
theorem turnS_L (L : Lx) (r : RS) (t : Nat) : turnS w q (L, r) t = (L, (turnS w q (L00, r) t).2) := by
  unfold turnS
  have e : wk w (L, r) = wk w (L00, r) := rfl
  rw [e]
  split <;> rfl
theorem mulS_L (L : Lx) (r : RS) (t : Nat) : mulS w q m d (L, r) t = (L, (mulS w q m d (L00, r) t).2) := by
  unfold mulS
  have e : wk w (L, r) = wk w (L00, r) := rfl
  rw [e]
  split
  · have e2 : sS (L, r) = sS (L00, r) := rfl
    rw [e2]
    split <;> rfl
  · rfl
theorem rsl_L (t : Nat) : ∀ (f : Nat) (L : Lx) (r : RS), rsl w q m d t f (L, r) = (L, (rsl w q m d t f (L00, r)).2)
  | 0, L, r => rfl
  | f + 1, L, r => by
    show rsl w q m d t f (mulS w q m d (L, r) t) = (L, (rsl w q m d t f (mulS w q m d (L00, r) t)).2)
    rw [mulS_L L r, mulS_L L00 r]
    rw [rsl_L t f L, rsl_L t f L00]
theorem raiseS_L (L : Lx) (r : RS) (t p : Nat) : raiseS w q m d (L, r) t p = (L, (raiseS w q m d (L00, r) t p).2) := by
  unfold raiseS
  have e : wk w (L, r) = wk w (L00, r) := rfl
  rw [e]
  split
  · exact rsl_L t p L _
  · rfl
theorem numS_L (L : Lx) (r : RS) : numS w n (L, r) = (L, (if w = true ∧ n ≤ L.2.2.1 then (L00, true, r.2) else (L00, r) : PS).2) := by
  unfold numS
  have e : (sL (L, r)).2.2.1 = L.2.2.1 := rfl
  rw [e]
  split <;> rfl
end EXS
section CPD
variable (w : Bool) (q m d n : Nat) (tx : Nat → Nat) (len : Nat)
/-- the class's piece does what the code of the piece does -/
def CP (one : Lx → CR) (pone : Nat → PS → Bool × PS) : Prop := ∀ (L M : Lx) (t : Nat) (r : RS), Lxq L M →
  ((one L).1 = 0 → ∃ M1, Lxq (one L).2.1 M1 ∧ pone t (M, r) = (true, (M1, (exL w q m d n (one L).2.2 (t, r)).2)) ∧ (exL w q m d n (one L).2.2 (t, r)).1 = t + 1) ∧
  ((one L).1 ≠ 0 → (pone t (M, r)).1 = false ∧ sF (pone t (M, r)).2 = (one L).1 ∧ sA (pone t (M, r)).2 = (one L).2.1.2.1)
/-- one that goes on with what stands at t -/
def CG (one : Lx → CR) (pone : Nat → PS → Bool × PS) : Prop := ∀ (L M : Lx) (t : Nat) (r : RS), Lxq L M →
  ((one L).1 = 0 → ∃ M1, Lxq (one L).2.1 M1 ∧ pone t (M, r) = (true, (M1, (exL w q m d n (one L).2.2 (t + 1, r)).2)) ∧ (exL w q m d n (one L).2.2 (t + 1, r)).1 = t + 1) ∧
  ((one L).1 ≠ 0 → (pone t (M, r)).1 = false ∧ sF (pone t (M, r)).2 = (one L).1 ∧ sA (pone t (M, r)).2 = (one L).2.1.2.1)
end CPD
section CPS
variable {w : Bool} {q m d n : Nat} {tx : Nat → Nat} {len : Nat}
theorem cPw2_cg : CG w q m d n (cPw2 tx len) (pPw2 w q m d tx len) := fun L M t r h => by
  have h1 := stp_q (tx := tx) (len := len) h
  have h2 := stp_q (tx := tx) (len := len) h1
  unfold cPw2 pPw2
  have e1 : sL (M, r) = M := rfl
  have e2 : stepS tx len (M, r) = (stp tx len M, r) := rfl
  rw [e1, e2]
  have e3 : sL (stp tx len M, r) = stp tx len M := rfl
  rw [e3, ← h.1, ← h1.1]
  by_cases c1 : L.1 = 94
  · rw [if_pos c1, if_pos c1]
    by_cases c2 : (stp tx len L).1 = 2
    · rw [if_pos c2, if_pos c2, ← h1.2.2.2 c2]
      by_cases c3 : (stp tx len L).2.2.1 ≤ 24
      · rw [if_pos c3, if_pos c3]
        refine ⟨fun _ => ⟨stp tx len (stp tx len M), h2, ?_, rfl⟩, fun z => absurd rfl z⟩
        rw [raiseS_L]
        rfl
      · rw [if_neg c3, if_neg c3]
        exact ⟨fun z => absurd (show (2 : Nat) = 0 from z) (by decide), fun _ => ⟨rfl, rfl, h1.2.1.symm⟩⟩
    · rw [if_neg c2, if_neg c2]
      exact ⟨fun z => absurd (show (1 : Nat) = 0 from z) (by decide), fun _ => ⟨rfl, rfl, h1.2.1.symm⟩⟩
  · rw [if_neg c1, if_neg c1]
    exact ⟨fun _ => ⟨M, h, rfl, rfl⟩, fun z => absurd rfl z⟩
theorem cPow_cp {one : Lx → CR} {pone : Nat → PS → Bool × PS} (ho : CP w q m d n one pone) : CP w q m d n (cPow tx len one) (pPow w q m d tx len pone) := fun L M t r h => by
  obtain ⟨a1, a2⟩ := ho L M t r h
  unfold cPow pPow
  by_cases c : (one L).1 = 0
  · obtain ⟨M1, b1, b2, b3⟩ := a1 c
    rw [if_pos c, b2, if_pos rfl]
    generalize hz : exL w q m d n (one L).2.2 (t, r) = z at *
    obtain ⟨t1, r1⟩ := z
    have b3' : t1 = t + 1 := b3
    subst b3'
    obtain ⟨g1, g2⟩ := cPw2_cg (w := w) (q := q) (m := m) (d := d) (n := n) (tx := tx) (len := len) (one L).2.1 M1 t r1 b1
    refine ⟨fun z => ?_, g2⟩
    obtain ⟨M2, i1, i2, i3⟩ := g1 z
    refine ⟨M2, i1, ?_, ?_⟩
    · rw [exL_app, hz]
      exact i2
    · rw [exL_app, hz]
      exact i3
  · obtain ⟨b1, b2, b3⟩ := a2 c
    rw [if_neg c, if_neg (by rw [b1]; exact Bool.false_ne_true)]
    exact ⟨fun z => absurd z c, fun _ => ⟨rfl, b2, b3⟩⟩
theorem cProL_cg {one : Lx → CR} {pone : Nat → PS → Bool × PS} (ho : CP w q m d n one pone) : ∀ f, CG w q m d n (cProL tx len one f) (fun t s => pProL w q m d tx len pone t f s)
  | 0, L, M, t, r, h => ⟨fun _ => ⟨M, h, rfl, rfl⟩, fun z => absurd rfl z⟩
  | f + 1, L, M, t, r, h => by
    have h1 := stp_q (tx := tx) (len := len) h
    dsimp only
    unfold cProL
    have hp : pProL w q m d tx len pone t (f + 1) (M, r) = if M.1 = 42 then
      (if (pPow w q m d tx len pone (t + 1) (stp tx len M, r)).1 = true then pProL w q m d tx len pone t f (mulS w q m d (pPow w q m d tx len pone (t + 1) (stp tx len M, r)).2 t)
       else (false, (pPow w q m d tx len pone (t + 1) (stp tx len M, r)).2)) else (true, (M, r)) := rfl
    rw [hp, ← h.1]
    by_cases c : L.1 = 42
    · rw [if_pos c, if_pos c]
      obtain ⟨a1, a2⟩ := cPow_cp (tx := tx) (len := len) ho (stp tx len L) (stp tx len M) (t + 1) r h1
      by_cases c2 : (cPow tx len one (stp tx len L)).1 = 0
      · obtain ⟨M1, b1, b2, b3⟩ := a1 c2
        rw [if_pos c2, b2, if_pos rfl]
        generalize hz : exL w q m d n (cPow tx len one (stp tx len L)).2.2 (t + 1, r) = z at *
        obtain ⟨t1, r1⟩ := z
        have b3' : t1 = t + 1 + 1 := b3
        subst b3'
        rw [mulS_L]
        obtain ⟨g1, g2⟩ := cProL_cg ho f (cPow tx len one (stp tx len L)).2.1 M1 t (mulS w q m d (L00, r1) t).2 b1
        refine ⟨fun z => ?_, g2⟩
        obtain ⟨M2, i1, i2, i3⟩ := g1 z
        have e : exO w q m d n (5, 0) (t + 1 + 1, r1) = (t + 1, (mulS w q m d (L00, r1) t).2) := rfl
        refine ⟨M2, i1, ?_, ?_⟩
        · rw [exL_app, hz]
          show _ = (true, (M2, (exL w q m d n _ (exO w q m d n (5, 0) (t + 1 + 1, r1))).2))
          rw [e]
          exact i2
        · rw [exL_app, hz]
          show (exL w q m d n _ (exO w q m d n (5, 0) (t + 1 + 1, r1))).1 = _
          rw [e]
          exact i3
      · obtain ⟨b1, b2, b3⟩ := a2 c2
        rw [if_neg c2, if_neg (by rw [b1]; exact Bool.false_ne_true)]
        exact ⟨fun z => absurd z c2, fun _ => ⟨rfl, b2, b3⟩⟩
    · rw [if_neg c, if_neg c]
      exact ⟨fun _ => ⟨M, h, rfl, rfl⟩, fun z => absurd rfl z⟩
theorem cPro_cp {one : Lx → CR} {pone : Nat → PS → Bool × PS} (ho : CP w q m d n one pone) : CP w q m d n (cPro tx len one) (pPro w q m d tx len pone) := fun L M t r h => by
  obtain ⟨a1, a2⟩ := cPow_cp (tx := tx) (len := len) ho L M t r h
  unfold cPro pPro
  by_cases c : (cPow tx len one L).1 = 0
  · obtain ⟨M1, b1, b2, b3⟩ := a1 c
    rw [if_pos c, b2, if_pos rfl]
    generalize hz : exL w q m d n (cPow tx len one L).2.2 (t, r) = z at *
    obtain ⟨t1, r1⟩ := z
    have b3' : t1 = t + 1 := b3
    subst b3'
    obtain ⟨g1, g2⟩ := cProL_cg (tx := tx) (len := len) ho 300 (cPow tx len one L).2.1 M1 t r1 b1
    refine ⟨fun z => ?_, g2⟩
    obtain ⟨M2, i1, i2, i3⟩ := g1 z
    refine ⟨M2, i1, ?_, ?_⟩
    · rw [exL_app, hz]
      exact i2
    · rw [exL_app, hz]
      exact i3
  · obtain ⟨b1, b2, b3⟩ := a2 c
    rw [if_neg c, if_neg (by rw [b1]; exact Bool.false_ne_true)]
    exact ⟨fun z => absurd z c, fun _ => ⟨rfl, b2, b3⟩⟩
theorem cSumL_cg {one : Lx → CR} {pone : Nat → PS → Bool × PS} (ho : CP w q m d n one pone) : ∀ f, CG w q m d n (cSumL tx len one f) (fun t s => pSumL w q m d tx len pone t f s)
  | 0, L, M, t, r, h => ⟨fun _ => ⟨M, h, rfl, rfl⟩, fun z => absurd rfl z⟩
  | f + 1, L, M, t, r, h => by
    have h1 := stp_q (tx := tx) (len := len) h
    dsimp only
    unfold cSumL
    have hp : pSumL w q m d tx len pone t (f + 1) (M, r) = if M.1 = 43 ∨ M.1 = 45 then
      (if (pPro w q m d tx len pone (t + 1) (stp tx len M, r)).1 = true then pSumL w q m d tx len pone t f (addS w q (pPro w q m d tx len pone (t + 1) (stp tx len M, r)).2 t (decide (M.1 = 45)))
       else (false, (pPro w q m d tx len pone (t + 1) (stp tx len M, r)).2)) else (true, (M, r)) := rfl
    rw [hp, ← h.1]
    by_cases c : L.1 = 43 ∨ L.1 = 45
    · rw [if_pos c, if_pos c]
      obtain ⟨a1, a2⟩ := cPro_cp (tx := tx) (len := len) ho (stp tx len L) (stp tx len M) (t + 1) r h1
      by_cases c2 : (cPro tx len one (stp tx len L)).1 = 0
      · obtain ⟨M1, b1, b2, b3⟩ := a1 c2
        rw [if_pos c2, b2, if_pos rfl]
        generalize hz : exL w q m d n (cPro tx len one (stp tx len L)).2.2 (t + 1, r) = z at *
        obtain ⟨t1, r1⟩ := z
        have b3' : t1 = t + 1 + 1 := b3
        subst b3'
        rw [addS_L]
        obtain ⟨g1, g2⟩ := cSumL_cg ho f (cPro tx len one (stp tx len L)).2.1 M1 t (addS w q (L00, r1) t (decide (L.1 = 45))).2 b1
        refine ⟨fun z => ?_, g2⟩
        obtain ⟨M2, i1, i2, i3⟩ := g1 z
        have e : exO w q m d n (if L.1 = 45 then 4 else 3, 0) (t + 1 + 1, r1) = (t + 1, (addS w q (L00, r1) t (decide (L.1 = 45))).2) := by
          by_cases c5 : L.1 = 45
          · rw [if_pos c5, decide_eq_true c5]
            rfl
          · rw [if_neg c5, decide_eq_false c5]
            rfl
        refine ⟨M2, i1, ?_, ?_⟩
        · rw [exL_app, hz]
          show _ = (true, (M2, (exL w q m d n _ (exO w q m d n (if L.1 = 45 then 4 else 3, 0) (t + 1 + 1, r1))).2))
          rw [e]
          exact i2
        · rw [exL_app, hz]
          show (exL w q m d n _ (exO w q m d n (if L.1 = 45 then 4 else 3, 0) (t + 1 + 1, r1))).1 = _
          rw [e]
          exact i3
      · obtain ⟨b1, b2, b3⟩ := a2 c2
        rw [if_neg c2, if_neg (by rw [b1]; exact Bool.false_ne_true)]
        exact ⟨fun z => absurd z c2, fun _ => ⟨rfl, b2, b3⟩⟩
    · rw [if_neg c, if_neg c]
      exact ⟨fun _ => ⟨M, h, rfl, rfl⟩, fun z => absurd rfl z⟩
theorem cSum_cp {one : Lx → CR} {pone : Nat → PS → Bool × PS} (ho : CP w q m d n one pone) : CP w q m d n (cSum tx len one) (pSum w q m d tx len pone) := fun L M t r h => by
  obtain ⟨a1, a2⟩ := cPro_cp (tx := tx) (len := len) ho L M t r h
  unfold cSum pSum
  by_cases c : (cPro tx len one L).1 = 0
  · obtain ⟨M1, b1, b2, b3⟩ := a1 c
    rw [if_pos c, b2, if_pos rfl]
    generalize hz : exL w q m d n (cPro tx len one L).2.2 (t, r) = z at *
    obtain ⟨t1, r1⟩ := z
    have b3' : t1 = t + 1 := b3
    subst b3'
    obtain ⟨g1, g2⟩ := cSumL_cg (tx := tx) (len := len) ho 300 (cPro tx len one L).2.1 M1 t r1 b1
    refine ⟨fun z => ?_, g2⟩
    obtain ⟨M2, i1, i2, i3⟩ := g1 z
    refine ⟨M2, i1, ?_, ?_⟩
    · rw [exL_app, hz]
      exact i2
    · rw [exL_app, hz]
      exact i3
  · obtain ⟨b1, b2, b3⟩ := a2 c
    rw [if_neg c, if_neg (by rw [b1]; exact Bool.false_ne_true)]
    exact ⟨fun z => absurd z c, fun _ => ⟨rfl, b2, b3⟩⟩
theorem cLeaf_cp : CP w q m d n (cLeaf tx len) (pLeaf w n tx len) := fun L M t r h => by
  have h1 := stp_q (tx := tx) (len := len) h
  unfold cLeaf pLeaf
  have e1 : sL (M, r) = M := rfl
  rw [e1, ← h.1, isw_q h]
  by_cases c : L.1 = 2
  · rw [if_pos c, if_pos c, ← h.2.2.2 c]
    by_cases c2 : L.2.2.1 ≤ 9999
    · rw [if_pos c2, if_pos c2]
      refine ⟨fun _ => ⟨stp tx len M, h1, ?_, rfl⟩, fun z => absurd rfl z⟩
      rw [numS_L, ← h.2.2.2 c, putS_L]
      show (true, (stp tx len M, _)) = (true, (stp tx len M, (exO w q m d n (0, L.2.2.1) (t, r)).2))
      have e2 : exO w q m d n (0, L.2.2.1) (t, r) = (t + 1, (putS w (if w = true ∧ n ≤ L.2.2.1 then (L00, true, r.2) else (L00, r)) t 0 L.2.2.1).2) := rfl
      rw [e2]
      by_cases c3 : w = true ∧ n ≤ L.2.2.1
      · rw [if_pos c3]
      · rw [if_neg c3]
    · rw [if_neg c2, if_neg c2]
      exact ⟨fun z => absurd (show (2 : Nat) = 0 from z) (by decide), fun _ => ⟨rfl, rfl, h.2.1.symm⟩⟩
  · rw [if_neg c, if_neg c]
    by_cases c2 : isw tx L wT = true
    · rw [if_pos c2, if_pos c2]
      refine ⟨fun _ => ⟨stp tx len M, h1, ?_, rfl⟩, fun z => absurd rfl z⟩
      rw [putS_L]
      rfl
    · rw [if_neg c2, if_neg c2]
      exact ⟨fun z => absurd (show (1 : Nat) = 0 from z) (by decide), fun _ => ⟨rfl, rfl, h.2.1.symm⟩⟩
theorem cOne_cp : ∀ k, CP w q m d n (cOne tx len k) (pOne w q m d n tx len k)
  | 0, L, M, t, r, h => by
    have hp : pOne w q m d n tx len 0 t (M, r) = if M.1 = 40 ∨ M.1 = 45 then (false, failS (M, r) 3) else pLeaf w n tx len t (M, r) := rfl
    rw [hp, ← h.1]
    unfold cOne
    by_cases c : L.1 = 40 ∨ L.1 = 45
    · rw [if_pos c, if_pos c]
      exact ⟨fun z => absurd (show (3 : Nat) = 0 from z) (by decide), fun _ => ⟨rfl, rfl, h.2.1.symm⟩⟩
    · rw [if_neg c, if_neg c]
      exact cLeaf_cp L M t r h
  | k + 1, L, M, t, r, h => by
    have h1 := stp_q (tx := tx) (len := len) h
    have hp : pOne w q m d n tx len (k + 1) t (M, r) = if M.1 = 40 then
      (if (pSum w q m d tx len (pOne w q m d n tx len k) t (stp tx len M, r)).1 = true then pExp tx len 41 (pSum w q m d tx len (pOne w q m d n tx len k) t (stp tx len M, r)).2 else (false, (pSum w q m d tx len (pOne w q m d n tx len k) t (stp tx len M, r)).2))
    else if M.1 = 45 then
      (if (pOne w q m d n tx len k t (stp tx len M, r)).1 = true then (true, turnS w q (pOne w q m d n tx len k t (stp tx len M, r)).2 t) else (false, (pOne w q m d n tx len k t (stp tx len M, r)).2))
    else pLeaf w n tx len t (M, r) := rfl
    rw [hp, ← h.1]
    unfold cOne
    by_cases c : L.1 = 40
    · rw [if_pos c, if_pos c]
      obtain ⟨a1, a2⟩ := cSum_cp (tx := tx) (len := len) (cOne_cp k) (stp tx len L) (stp tx len M) t r h1
      by_cases c2 : (cSum tx len (cOne tx len k) (stp tx len L)).1 = 0
      · obtain ⟨M1, b1, b2, b3⟩ := a1 c2
        rw [if_pos c2, b2, if_pos rfl]
        unfold pExp
        have e1 : ∀ r1 : RS, sL (M1, r1) = M1 := fun _ => rfl
        rw [e1, ← b1.1]
        by_cases c3 : (cSum tx len (cOne tx len k) (stp tx len L)).2.1.1 = 41
        · rw [if_pos c3, if_pos c3]
          exact ⟨fun _ => ⟨stp tx len M1, stp_q b1, rfl, b3⟩, fun z => absurd rfl z⟩
        · rw [if_neg c3, if_neg c3]
          exact ⟨fun z => absurd (show (1 : Nat) = 0 from z) (by decide), fun _ => ⟨rfl, rfl, b1.2.1.symm⟩⟩
      · obtain ⟨b1, b2, b3⟩ := a2 c2
        rw [if_neg c2, if_neg (by rw [b1]; exact Bool.false_ne_true)]
        exact ⟨fun z => absurd z c2, fun _ => ⟨rfl, b2, b3⟩⟩
    · rw [if_neg c, if_neg c]
      by_cases c4 : L.1 = 45
      · rw [if_pos c4, if_pos c4]
        obtain ⟨a1, a2⟩ := cOne_cp k (stp tx len L) (stp tx len M) t r h1
        by_cases c2 : (cOne tx len k (stp tx len L)).1 = 0
        · obtain ⟨M1, b1, b2, b3⟩ := a1 c2
          rw [if_pos c2, b2, if_pos rfl]
          generalize hz : exL w q m d n (cOne tx len k (stp tx len L)).2.2 (t, r) = z at *
          obtain ⟨t1, r1⟩ := z
          have b3' : t1 = t + 1 := b3
          subst b3'
          refine ⟨fun _ => ⟨M1, b1, ?_, ?_⟩, fun z => absurd rfl z⟩
          · rw [exL_app, hz, turnS_L]
            rfl
          · rw [exL_app, hz]
            rfl
        · obtain ⟨b1, b2, b3⟩ := a2 c2
          rw [if_neg c2, if_neg (by rw [b1]; exact Bool.false_ne_true)]
          exact ⟨fun z => absurd z c2, fun _ => ⟨rfl, b2, b3⟩⟩
      · rw [if_neg c4, if_neg c4]
        exact cLeaf_cp L M t r h
end CPS
