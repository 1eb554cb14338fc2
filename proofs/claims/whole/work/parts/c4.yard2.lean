/-! texts: the pile -/
/-- (token.., pile, open ones, code, whole, may be raised) -/
abbrev YS : Type := Lx × List Nat × Nat × List (Nat × Nat) × Bool × Bool
def rko (o : Nat) : Nat := if o = 9 then 0 else if o = 2 then 3 else if o = 5 then 2 else 1
def stl (l : Nat) : List Nat → Nat → List (Nat × Nat) → List Nat × Nat × List (Nat × Nat)
  | [], n, C => ([], n, C)
  | o :: P, n, C => if l ≤ rko o then stl l P (if o = 2 then n - 1 else n) (C ++ [(o, 0)]) else (o :: P, n, C)
def whY (L : Lx) (P : List Nat) (n : Nat) (C : List (Nat × Nat)) : YS := (L, (stl 3 P n C).1, (stl 3 P n C).2.1, (stl 3 P n C).2.2, true, true)
section YRD
variable (tx : Nat → Nat) (len : Nat)
def opY (y : YS) (o : Nat) : Nat × YS := if y.2.2.1 = 8 then (3, y) else (0, (stp tx len y.1, o :: y.2.1, y.2.2.1 + 1, y.2.2.2.1, y.2.2.2.2.1, y.2.2.2.2.2))
def bgY (y : YS) : Nat × YS := if y.1.1 = 2 then (if y.1.2.2.1 ≤ 9999 then (0, whY (stp tx len y.1) y.2.1 y.2.2.1 (y.2.2.2.1 ++ [(0, y.1.2.2.1)])) else (2, y))
  else if isw tx y.1 wT = true then (0, whY (stp tx len y.1) y.2.1 y.2.2.1 (y.2.2.2.1 ++ [(1, 0)])) else if y.1.1 = 40 then opY tx len y 9 else if y.1.1 = 45 then opY tx len y 2 else (1, y)
def rsY (y : YS) : Nat × YS := if (stp tx len y.1).1 = 2 then (if (stp tx len y.1).2.2.1 ≤ 24 then (0, (stp tx len (stp tx len y.1), y.2.1, y.2.2.1, y.2.2.2.1 ++ [(6, (stp tx len y.1).2.2.1)], y.2.2.2.2.1, false)) else (2, (stp tx len y.1, y.2))) else (1, (stp tx len y.1, y.2))
def bnY (y : YS) (o : Nat) : YS := (stp tx len y.1, o :: (stl (rko o) y.2.1 y.2.2.1 y.2.2.2.1).1, (stl (rko o) y.2.1 y.2.2.1 y.2.2.2.1).2.1, (stl (rko o) y.2.1 y.2.2.1 y.2.2.2.1).2.2, false, y.2.2.2.2.2)
def s1Y (y : YS) : YS := (y.1, (stl 1 y.2.1 y.2.2.1 y.2.2.2.1).1, (stl 1 y.2.1 y.2.2.1 y.2.2.2.1).2.1, (stl 1 y.2.1 y.2.2.1 y.2.2.2.1).2.2, y.2.2.2.2.1, y.2.2.2.2.2)
def bhY (y : YS) : Bool × YS := if y.1.1 = 43 then (true, bnY tx len y 3) else if y.1.1 = 45 then (true, bnY tx len y 4) else if y.1.1 = 42 then (true, bnY tx len y 5)
  else if y.1.1 = 41 then (if (s1Y y).2.1 = [] then (false, s1Y y) else (true, whY (stp tx len y.1) (s1Y y).2.1.tail ((s1Y y).2.2.1 - 1) (s1Y y).2.2.2.1)) else (false, y)
def enY (y : YS) : Nat × YS := (if (s1Y y).2.1 = [] then 0 else 1, s1Y y)
def ryn : Nat → YS → Option (Nat × YS)
  | 0, _ => none
  | f + 1, y => if y.2.2.2.2.1 = false then (if (bgY tx len y).1 = 0 then ryn f (bgY tx len y).2 else some (bgY tx len y))
    else if y.1.1 = 94 ∧ y.2.2.2.2.2 = true then (if (rsY tx len y).1 = 0 then ryn f (rsY tx len y).2 else some (rsY tx len y))
    else if (bhY tx len y).1 = true then ryn f (bhY tx len y).2 else some (enY (bhY tx len y).2)
def Sp (y y1 : YS) : Prop := ∃ j, ∀ f, ryn tx len (j + f) y = ryn tx len f y1
def Fn (y : YS) (v : Nat) (L : Lx) : Prop := ∃ j y1, (∀ f, ryn tx len (j + f) y = some (v, y1)) ∧ y1.1 = L
end YRD
def opsP (P : List Nat) : List (Nat × Nat) := P.map (fun o => (o, 0))
section YSM
variable {tx : Nat → Nat} {len : Nat}
theorem Sp.refl (y : YS) : Sp tx len y y := ⟨0, fun f => by rw [Nat.zero_add]⟩
theorem Sp.trans {a b c : YS} (h : Sp tx len a b) (h1 : Sp tx len b c) : Sp tx len a c := by
  obtain ⟨j, hj⟩ := h
  obtain ⟨k, hk⟩ := h1
  exact ⟨j + k, fun f => by rw [Nat.add_assoc, hj, hk]⟩
theorem Sp.fn {a b : YS} {v : Nat} {L : Lx} (h : Sp tx len a b) (h1 : Fn tx len b v L) : Fn tx len a v L := by
  obtain ⟨j, hj⟩ := h
  obtain ⟨k, y1, hk, hL⟩ := h1
  exact ⟨j + k, y1, fun f => by rw [Nat.add_assoc, hj, hk], hL⟩
theorem Sp.one {y y1 : YS} (h : ∀ f, ryn tx len (f + 1) y = ryn tx len f y1) : Sp tx len y y1 := ⟨1, fun f => by rw [Nat.add_comm]; exact h f⟩
theorem Fn.one {y y1 : YS} {v : Nat} (h : ∀ f, ryn tx len (f + 1) y = some (v, y1)) : Fn tx len y v y1.1 := ⟨1, y1, fun f => by rw [Nat.add_comm]; exact h f, rfl⟩
theorem ryn_bg {y : YS} (hw : y.2.2.2.2.1 = false) (f : Nat) : ryn tx len (f + 1) y = if (bgY tx len y).1 = 0 then ryn tx len f (bgY tx len y).2 else some (bgY tx len y) := by
  show (if y.2.2.2.2.1 = false then _ else _) = _
  rw [if_pos hw]
theorem ryn_rs {y : YS} (hw : y.2.2.2.2.1 = true) (h94 : y.1.1 = 94 ∧ y.2.2.2.2.2 = true) (f : Nat) : ryn tx len (f + 1) y = if (rsY tx len y).1 = 0 then ryn tx len f (rsY tx len y).2 else some (rsY tx len y) := by
  show (if y.2.2.2.2.1 = false then _ else _) = _
  rw [if_neg (by rw [hw]; decide), if_pos h94]
theorem ryn_bh {y : YS} (hw : y.2.2.2.2.1 = true) (h94 : ¬ (y.1.1 = 94 ∧ y.2.2.2.2.2 = true)) (f : Nat) : ryn tx len (f + 1) y = if (bhY tx len y).1 = true then ryn tx len f (bhY tx len y).2 else some (enY (bhY tx len y).2) := by
  show (if y.2.2.2.2.1 = false then _ else _) = _
  rw [if_neg (by rw [hw]; decide), if_neg h94]
theorem stl_stop {l : Nat} {P : List Nat} {n : Nat} {C : List (Nat × Nat)} (h : P = [] ∨ ∃ o P1, P = o :: P1 ∧ rko o < l) : stl l P n C = (P, n, C) := by
  rcases h with rfl | ⟨o, P1, rfl, h⟩
  · rfl
  · show (if l ≤ rko o then _ else _) = _
    rw [if_neg (by omega)]
/-- the binary ones go, each l at least -/
theorem stl_ops {l : Nat} {B : List Nat} {n : Nat} : ∀ (P : List Nat) (C : List (Nat × Nat)), (∀ o, o ∈ P → o ≠ 2 ∧ l ≤ rko o) → stl l (P ++ B) n C = stl l B n (C ++ opsP P)
  | [], C, _ => by
    show stl l B n C = stl l B n (C ++ [])
    rw [List.append_nil]
  | o :: P, C, h => by
    obtain ⟨h1, h2⟩ := h o (List.mem_cons_self ..)
    show (if l ≤ rko o then stl l (P ++ B) (if o = 2 then n - 1 else n) (C ++ [(o, 0)]) else _) = _
    rw [if_pos h2, if_neg h1, stl_ops P _ (fun x hx => h x (List.mem_cons_of_mem _ hx)), List.append_assoc]
    rfl
theorem isw_tok {L : Lx} {ws : List Nat} (h : isw tx L ws = true) : L.1 = 3 := by
  unfold isw at h
  rw [Bool.and_eq_true, decide_eq_true_eq] at h
  exact h.1.1
/-- a number or t begins -/
theorem leaf_sim {L : Lx} {P : List Nat} {n : Nat} {C : List (Nat × Nat)} {cr : Bool} (h : ¬ (L.1 = 40 ∨ L.1 = 45)) : ((cLeaf tx len L).1 = 0 → Sp tx len (L, P, n, C, false, cr) (whY (cLeaf tx len L).2.1 P n (C ++ (cLeaf tx len L).2.2))) ∧ ((cLeaf tx len L).1 ≠ 0 → Fn tx len (L, P, n, C, false, cr) (cLeaf tx len L).1 (cLeaf tx len L).2.1) := by
  have key : ∀ f, ryn tx len (f + 1) (L, P, n, C, false, cr) = if (bgY tx len (L, P, n, C, false, cr)).1 = 0 then ryn tx len f (bgY tx len (L, P, n, C, false, cr)).2 else some (bgY tx len (L, P, n, C, false, cr)) := ryn_bg rfl
  unfold cLeaf
  unfold bgY at key
  by_cases c : L.1 = 2
  · rw [if_pos c]
    simp only [if_pos c] at key
    by_cases c2 : L.2.2.1 ≤ 9999
    · rw [if_pos c2]
      simp only [if_pos c2, if_true] at key
      exact ⟨fun _ => Sp.one key, fun z => absurd rfl z⟩
    · rw [if_neg c2]
      simp only [if_neg c2] at key
      exact ⟨fun z => absurd (show (2 : Nat) = 0 from z) (by decide), fun _ => Fn.one (y1 := (L, P, n, C, false, cr)) (fun f => by rw [key]; rfl)⟩
  · rw [if_neg c]
    simp only [if_neg c] at key
    by_cases c2 : isw tx L wT = true
    · rw [if_pos c2]
      simp only [if_pos c2, if_true] at key
      exact ⟨fun _ => Sp.one key, fun z => absurd rfl z⟩
    · rw [if_neg c2]
      simp only [if_neg c2, if_neg (fun z => h (Or.inl z) : ¬ L.1 = 40), if_neg (fun z => h (Or.inr z) : ¬ L.1 = 45)] at key
      exact ⟨fun z => absurd (show (1 : Nat) = 0 from z) (by decide), fun _ => Fn.one (y1 := (L, P, n, C, false, cr)) (fun f => by rw [key]; rfl)⟩
/-- what is shown of a ONE -/
def OneS (tx : Nat → Nat) (len n : Nat) (one : Lx → CR) : Prop := ∀ L P C cr, Lgd len L → ((one L).1 = 0 → Sp tx len (L, P, n, C, false, cr) (whY (one L).2.1 P n (C ++ (one L).2.2))) ∧ ((one L).1 ≠ 0 → Fn tx len (L, P, n, C, false, cr) (one L).1 (one L).2.1)
/-- the pile doesn't begin with a MINUS -/
def Nm (P : List Nat) : Prop := P = [] ∨ ∃ o P1, P = o :: P1 ∧ rko o < 3
theorem whY_nm {L : Lx} {P : List Nat} {n : Nat} {C : List (Nat × Nat)} (h : Nm P) : whY L P n C = (L, P, n, C, true, true) := by
  unfold whY
  rw [stl_stop h]
theorem pow_sim {n : Nat} {one : Lx → CR} (ho : OneS tx len n one) {L : Lx} {P : List Nat} {C : List (Nat × Nat)} {cr : Bool} (hL : Lgd len L) (hP : Nm P) : ((cPow tx len one L).1 = 0 → ∃ cr1, ¬ ((cPow tx len one L).2.1.1 = 94 ∧ cr1 = true) ∧ Sp tx len (L, P, n, C, false, cr) ((cPow tx len one L).2.1, P, n, C ++ (cPow tx len one L).2.2, true, cr1)) ∧ ((cPow tx len one L).1 ≠ 0 → Fn tx len (L, P, n, C, false, cr) (cPow tx len one L).1 (cPow tx len one L).2.1) := by
  obtain ⟨h1, h2⟩ := ho L P C cr hL
  unfold cPow
  by_cases c : (one L).1 = 0
  · rw [if_pos c]
    have hs := h1 c
    rw [whY_nm hP] at hs
    generalize one L = r at *
    obtain ⟨v, L1, C1⟩ := r
    dsimp only at *
    unfold cPw2
    by_cases c2 : L1.1 = 94
    · rw [if_pos c2]
      have key := ryn_rs (tx := tx) (len := len) (y := (L1, P, n, C ++ C1, true, true)) rfl ⟨c2, rfl⟩
      unfold rsY at key
      dsimp only at key
      by_cases c3 : (stp tx len L1).1 = 2
      · rw [if_pos c3]
        simp only [if_pos c3] at key
        by_cases c4 : (stp tx len L1).2.2.1 ≤ 24
        · rw [if_pos c4]
          simp only [if_pos c4, if_true] at key
          refine ⟨fun _ => ⟨false, fun z => absurd z.2 (by decide), ?_⟩, fun z => absurd rfl z⟩
          rw [← List.append_assoc]
          exact hs.trans (Sp.one key)
        · rw [if_neg c4]
          simp only [if_neg c4] at key
          exact ⟨fun z => absurd (show (2 : Nat) = 0 from z) (by decide), fun _ => hs.fn (Fn.one (y1 := (stp tx len L1, P, n, C ++ C1, true, true)) (fun f => by rw [key]; rfl))⟩
      · rw [if_neg c3]
        simp only [if_neg c3] at key
        exact ⟨fun z => absurd (show (1 : Nat) = 0 from z) (by decide), fun _ => hs.fn (Fn.one (y1 := (stp tx len L1, P, n, C ++ C1, true, true)) (fun f => by rw [key]; rfl))⟩
    · rw [if_neg c2]
      refine ⟨fun _ => ⟨true, fun z => c2 z.1, ?_⟩, fun z => absurd rfl z⟩
      rw [List.append_nil]
      exact hs
  · rw [if_neg c]
    exact ⟨fun z => absurd z c, fun _ => h2 c⟩
theorem bh_op {L : Lx} {P : List Nat} {n : Nat} {C : List (Nat × Nat)} {cr : Bool} {o : Nat} (h94 : ¬ (L.1 = 94 ∧ cr = true)) (h : (L.1 = 43 ∧ o = 3) ∨ (L.1 = 45 ∧ o = 4) ∨ (L.1 = 42 ∧ o = 5)) : Sp tx len (L, P, n, C, true, cr) (bnY tx len (L, P, n, C, true, cr) o) := by
  refine Sp.one (fun f => ?_)
  rw [ryn_bh rfl h94]
  unfold bhY
  dsimp only
  rcases h with ⟨a, rfl⟩ | ⟨a, rfl⟩ | ⟨a, rfl⟩
  · rw [if_pos a]
    rfl
  · rw [if_neg (show ¬ L.1 = 43 by omega), if_pos a]
    rfl
  · rw [if_neg (show ¬ L.1 = 43 by omega), if_neg (show ¬ L.1 = 45 by omega), if_pos a]
    rfl
theorem proL_sim {n : Nat} (ht : ∀ i, tx i < 256) {one : Lx → CR} (ho : OneS tx len n one) (ha : Adv len one) {B : List Nat} (hB : B = [] ∨ ∃ o P1, B = o :: P1 ∧ rko o < 2) : ∀ (f : Nat) (L : Lx) (pend : List Nat) (C : List (Nat × Nat)) (cr : Bool), Lgd len L → len ≤ L.2.1 + f → (pend = [] ∨ pend = [5]) → ¬ (L.1 = 94 ∧ cr = true) →
    ((cProL tx len one f L).1 = 0 → ∃ pend1 C1 cr1, (pend1 = [] ∨ pend1 = [5]) ∧ C1 ++ opsP pend1 = C ++ opsP pend ++ (cProL tx len one f L).2.2 ∧ (cProL tx len one f L).2.1.1 ≠ 42 ∧ ¬ ((cProL tx len one f L).2.1.1 = 94 ∧ cr1 = true) ∧ Sp tx len (L, pend ++ B, n, C, true, cr) ((cProL tx len one f L).2.1, pend1 ++ B, n, C1, true, cr1)) ∧ ((cProL tx len one f L).1 ≠ 0 → Fn tx len (L, pend ++ B, n, C, true, cr) (cProL tx len one f L).1 (cProL tx len one f L).2.1)
  | 0, L, pend, C, cr, hL, hf, hp, h94 => by
    have h0 : L.1 = 0 := by
      apply Decidable.byContradiction
      intro z
      have := (hL.2 z).2
      omega
    refine ⟨fun _ => ⟨pend, C, cr, hp, ?_, ?_, h94, Sp.refl _⟩, fun z => absurd rfl z⟩
    · show _ = _ ++ []
      rw [List.append_nil]
    · show L.1 ≠ 42
      omega
  | f + 1, L, pend, C, cr, hL, hf, hp, h94 => by
    unfold cProL
    by_cases c : L.1 = 42
    · rw [if_pos c]
      obtain ⟨g1, g2⟩ := stp_gd ht hL
      have g3 := (hL.2 (by omega)).1
      have hNm : Nm (5 :: B) := Or.inr ⟨5, B, rfl, by decide⟩
      have hst : stl 2 (pend ++ B) n C = (B, n, C ++ opsP pend) := by
        rw [stl_ops pend C (fun o ho => by
          rcases hp with rfl | rfl
          · cases ho
          · have : o = 5 := by simpa using ho
            subst this
            decide), stl_stop hB]
      have s1 : Sp tx len (L, pend ++ B, n, C, true, cr) (stp tx len L, 5 :: B, n, C ++ opsP pend, false, cr) := by
        have := bh_op (tx := tx) (len := len) (P := pend ++ B) (n := n) (C := C) h94 (Or.inr (Or.inr ⟨c, rfl⟩)) (o := 5)
        unfold bnY at this
        dsimp only at this
        rw [show rko 5 = 2 from rfl, hst] at this
        exact this
      obtain ⟨p1, p2⟩ := pow_sim ho (P := 5 :: B) (C := C ++ opsP pend) (cr := cr) g1 hNm
      have pa := cPow_adv ht ha _ g1
      generalize hr : cPow tx len one (stp tx len L) = r at *
      obtain ⟨v, L2, C2⟩ := r
      dsimp only at *
      by_cases c2 : v = 0
      · rw [if_pos c2]
        obtain ⟨cr1, q1, q2⟩ := p1 c2
        obtain ⟨i1, i2⟩ := proL_sim ht ho ha hB f L2 [5] (C ++ opsP pend ++ C2) cr1 pa.1 (by omega) (Or.inr rfl) q1
        refine ⟨fun z => ?_, fun z => ?_⟩
        · obtain ⟨pend1, C1, cr2, r1, r2, r3, r4, r5⟩ := i1 z
          refine ⟨pend1, C1, cr2, r1, ?_, r3, r4, (s1.trans q2).trans r5⟩
          rw [r2]
          show C ++ opsP pend ++ C2 ++ [(5, 0)] ++ _ = C ++ opsP pend ++ (C2 ++ ([(5, 0)] ++ _))
          simp only [List.append_assoc]
        · exact (s1.trans q2).fn (i2 z)
      · rw [if_neg c2]
        exact ⟨fun z => absurd z c2, fun _ => s1.fn (p2 c2)⟩
    · rw [if_neg c]
      refine ⟨fun _ => ⟨pend, C, cr, hp, ?_, c, h94, Sp.refl _⟩, fun z => absurd rfl z⟩
      show _ = _ ++ []
      rw [List.append_nil]
theorem Nm.of2 {B : List Nat} (hB : B = [] ∨ ∃ o P1, B = o :: P1 ∧ rko o < 2) : Nm B := by
  rcases hB with h | ⟨o, P1, h, h1⟩
  · exact Or.inl h
  · exact Or.inr ⟨o, P1, h, by omega⟩
theorem pro_sim {n : Nat} (ht : ∀ i, tx i < 256) (hl : len ≤ 300) {one : Lx → CR} (ho : OneS tx len n one) (ha : Adv len one) {B : List Nat} (hB : B = [] ∨ ∃ o P1, B = o :: P1 ∧ rko o < 2) (L : Lx) (C : List (Nat × Nat)) (cr : Bool) (hL : Lgd len L) :
    ((cPro tx len one L).1 = 0 → ∃ pend1 C1 cr1, (pend1 = [] ∨ pend1 = [5]) ∧ C1 ++ opsP pend1 = C ++ (cPro tx len one L).2.2 ∧ (cPro tx len one L).2.1.1 ≠ 42 ∧ ¬ ((cPro tx len one L).2.1.1 = 94 ∧ cr1 = true) ∧ Sp tx len (L, B, n, C, false, cr) ((cPro tx len one L).2.1, pend1 ++ B, n, C1, true, cr1)) ∧ ((cPro tx len one L).1 ≠ 0 → Fn tx len (L, B, n, C, false, cr) (cPro tx len one L).1 (cPro tx len one L).2.1) := by
  obtain ⟨p1, p2⟩ := pow_sim ho (P := B) (C := C) (cr := cr) hL (Nm.of2 hB)
  have pa := cPow_adv ht ha _ hL
  unfold cPro
  generalize hr : cPow tx len one L = r at *
  obtain ⟨v, L2, C2⟩ := r
  dsimp only at *
  by_cases c2 : v = 0
  · rw [if_pos c2]
    obtain ⟨cr1, q1, q2⟩ := p1 c2
    obtain ⟨i1, i2⟩ := proL_sim ht ho ha hB 300 L2 [] (C ++ C2) cr1 pa.1 (by omega) (Or.inl rfl) q1
    refine ⟨fun z => ?_, fun z => ?_⟩
    · obtain ⟨pend1, C1, cr2, r1, r2, r3, r4, r5⟩ := i1 z
      refine ⟨pend1, C1, cr2, r1, ?_, r3, r4, q2.trans r5⟩
      rw [r2]
      show C ++ C2 ++ [] ++ _ = C ++ (C2 ++ _)
      rw [List.append_nil, List.append_assoc]
    · exact q2.fn (i2 z)
  · rw [if_neg c2]
    exact ⟨fun z => absurd z c2, fun _ => p2 c2⟩
/-- what is shown at the end of a SUM: what waits on the pile, all of it binary -/
def Wt (P : List Nat) : Prop := ∀ o, o ∈ P → o ≠ 2 ∧ 1 ≤ rko o
theorem sumL_sim {n : Nat} (ht : ∀ i, tx i < 256) (hl : len ≤ 300) {one : Lx → CR} (ho : OneS tx len n one) (ha : Adv len one) {B : List Nat} (hB : B = [] ∨ ∃ o P1, B = o :: P1 ∧ rko o < 1) : ∀ (f : Nat) (L : Lx) (pend : List Nat) (C : List (Nat × Nat)) (cr : Bool), Lgd len L → len ≤ L.2.1 + f → Wt pend → ¬ (L.1 = 94 ∧ cr = true) → L.1 ≠ 42 →
    ((cSumL tx len one f L).1 = 0 → ∃ pend1 C1 cr1, Wt pend1 ∧ C1 ++ opsP pend1 = C ++ opsP pend ++ (cSumL tx len one f L).2.2 ∧ ((cSumL tx len one f L).2.1.1 ≠ 42 ∧ (cSumL tx len one f L).2.1.1 ≠ 43 ∧ (cSumL tx len one f L).2.1.1 ≠ 45) ∧ ¬ ((cSumL tx len one f L).2.1.1 = 94 ∧ cr1 = true) ∧ Sp tx len (L, pend ++ B, n, C, true, cr) ((cSumL tx len one f L).2.1, pend1 ++ B, n, C1, true, cr1)) ∧ ((cSumL tx len one f L).1 ≠ 0 → Fn tx len (L, pend ++ B, n, C, true, cr) (cSumL tx len one f L).1 (cSumL tx len one f L).2.1)
  | 0, L, pend, C, cr, hL, hf, hp, h94, h42 => by
    have h0 : L.1 = 0 := by
      apply Decidable.byContradiction
      intro z
      have := (hL.2 z).2
      omega
    refine ⟨fun _ => ⟨pend, C, cr, hp, ?_, ?_, h94, Sp.refl _⟩, fun z => absurd rfl z⟩
    · show _ = _ ++ []
      rw [List.append_nil]
    · show L.1 ≠ 42 ∧ L.1 ≠ 43 ∧ L.1 ≠ 45
      omega
  | f + 1, L, pend, C, cr, hL, hf, hp, h94, h42 => by
    unfold cSumL
    by_cases c : L.1 = 43 ∨ L.1 = 45
    · rw [if_pos c]
      obtain ⟨g1, g2⟩ := stp_gd ht hL
      have g3 := (hL.2 (by omega)).1
      generalize hop : (if L.1 = 45 then 4 else 3) = op
      have hop2 : (L.1 = 43 ∧ op = 3) ∨ (L.1 = 45 ∧ op = 4) := by
        rcases c with c | c
        · rw [if_neg (by omega)] at hop
          exact Or.inl ⟨c, hop.symm⟩
        · rw [if_pos c] at hop
          exact Or.inr ⟨c, hop.symm⟩
      have hrk : rko op = 1 := by
        rcases hop2 with ⟨_, rfl⟩ | ⟨_, rfl⟩ <;> rfl
      have hB1 : op :: B = [] ∨ ∃ o P1, op :: B = o :: P1 ∧ rko o < 2 := Or.inr ⟨op, B, rfl, by omega⟩
      have hst : stl 1 (pend ++ B) n C = (B, n, C ++ opsP pend) := by
        rw [stl_ops pend C hp, stl_stop hB]
      have s1 : Sp tx len (L, pend ++ B, n, C, true, cr) (stp tx len L, op :: B, n, C ++ opsP pend, false, cr) := by
        have := bh_op (tx := tx) (len := len) (P := pend ++ B) (n := n) (C := C) h94 (o := op) (by
          rcases hop2 with z | z
          · exact Or.inl z
          · exact Or.inr (Or.inl z))
        unfold bnY at this
        dsimp only at this
        rw [hrk, hst] at this
        exact this
      obtain ⟨p1, p2⟩ := pro_sim ht hl ho ha hB1 (stp tx len L) (C ++ opsP pend) cr g1
      have pa := cPro_adv ht ha _ g1
      generalize hr : cPro tx len one (stp tx len L) = r at *
      obtain ⟨v, L2, C2⟩ := r
      dsimp only at *
      by_cases c2 : v = 0
      · rw [if_pos c2]
        obtain ⟨pd1, C1, cr1, q1, q2, q3, q4, q5⟩ := p1 c2
        have hW : Wt (pd1 ++ [op]) := fun o ho => by
          rcases List.mem_append.mp ho with z | z
          · rcases q1 with rfl | rfl
            · cases z
            · have : o = 5 := by simpa using z
              subst this
              decide
          · have : o = op := by simpa using z
            subst this
            exact ⟨by rcases hop2 with ⟨_, y⟩ | ⟨_, y⟩ <;> omega, by omega⟩
        have eP : pd1 ++ op :: B = (pd1 ++ [op]) ++ B := by rw [List.append_assoc]; rfl
        rw [eP] at q5
        obtain ⟨i1, i2⟩ := sumL_sim ht hl ho ha hB f L2 (pd1 ++ [op]) C1 cr1 pa.1 (by omega) hW q4 q3
        refine ⟨fun z => ?_, fun z => ?_⟩
        · obtain ⟨pend1, C3, cr2, r1, r2, r3, r4, r5⟩ := i1 z
          refine ⟨pend1, C3, cr2, r1, ?_, r3, r4, (s1.trans q5).trans r5⟩
          have e1 : opsP (pd1 ++ [op]) = opsP pd1 ++ [(op, 0)] := by unfold opsP; rw [List.map_append]; rfl
          rw [r2, e1, ← List.append_assoc C1, q2]
          show C ++ opsP pend ++ C2 ++ [(op, 0)] ++ _ = C ++ opsP pend ++ (C2 ++ ([(op, 0)] ++ _))
          simp only [List.append_assoc]
        · exact (s1.trans q5).fn (i2 z)
      · rw [if_neg c2]
        exact ⟨fun z => absurd z c2, fun _ => s1.fn (p2 c2)⟩
    · rw [if_neg c]
      refine ⟨fun _ => ⟨pend, C, cr, hp, ?_, ⟨h42, fun z => c (Or.inl z), fun z => c (Or.inr z)⟩, h94, Sp.refl _⟩, fun z => absurd rfl z⟩
      show _ = _ ++ []
      rw [List.append_nil]
theorem sum_sim {n : Nat} (ht : ∀ i, tx i < 256) (hl : len ≤ 300) {one : Lx → CR} (ho : OneS tx len n one) (ha : Adv len one) {B : List Nat} (hB : B = [] ∨ ∃ o P1, B = o :: P1 ∧ rko o < 1) (L : Lx) (C : List (Nat × Nat)) (cr : Bool) (hL : Lgd len L) :
    ((cSum tx len one L).1 = 0 → ∃ pend1 C1 cr1, Wt pend1 ∧ C1 ++ opsP pend1 = C ++ (cSum tx len one L).2.2 ∧ ((cSum tx len one L).2.1.1 ≠ 42 ∧ (cSum tx len one L).2.1.1 ≠ 43 ∧ (cSum tx len one L).2.1.1 ≠ 45) ∧ ¬ ((cSum tx len one L).2.1.1 = 94 ∧ cr1 = true) ∧ Sp tx len (L, B, n, C, false, cr) ((cSum tx len one L).2.1, pend1 ++ B, n, C1, true, cr1)) ∧ ((cSum tx len one L).1 ≠ 0 → Fn tx len (L, B, n, C, false, cr) (cSum tx len one L).1 (cSum tx len one L).2.1) := by
  have hB1 : B = [] ∨ ∃ o P1, B = o :: P1 ∧ rko o < 2 := by
    rcases hB with h | ⟨o, P1, h, h1⟩
    · exact Or.inl h
    · exact Or.inr ⟨o, P1, h, by omega⟩
  obtain ⟨p1, p2⟩ := pro_sim ht hl ho ha hB1 L C cr hL
  have pa := cPro_adv ht ha _ hL
  unfold cSum
  generalize hr : cPro tx len one L = r at *
  obtain ⟨v, L2, C2⟩ := r
  dsimp only at *
  by_cases c2 : v = 0
  · rw [if_pos c2]
    obtain ⟨pd1, C1, cr1, q1, q2, q3, q4, q5⟩ := p1 c2
    have hW : Wt pd1 := fun o ho => by
      rcases q1 with rfl | rfl
      · cases ho
      · have : o = 5 := by simpa using ho
        subst this
        decide
    obtain ⟨i1, i2⟩ := sumL_sim ht hl ho ha hB 300 L2 pd1 C1 cr1 pa.1 (by omega) hW q4 q3
    refine ⟨fun z => ?_, fun z => ?_⟩
    · obtain ⟨pend1, C3, cr2, r1, r2, r3, r4, r5⟩ := i1 z
      refine ⟨pend1, C3, cr2, r1, ?_, r3, r4, q5.trans r5⟩
      rw [r2, q2, List.append_assoc]
    · exact q5.fn (i2 z)
  · rw [if_neg c2]
    exact ⟨fun z => absurd z c2, fun _ => p2 c2⟩
theorem one_sim (ht : ∀ i, tx i < 256) (hl : len ≤ 300) : ∀ k, k ≤ 8 → OneS tx len (8 - k) (cOne tx len k)
  | 0, _, L, P, C, cr, hL => by
    unfold cOne
    by_cases c : L.1 = 40 ∨ L.1 = 45
    · rw [if_pos c]
      refine ⟨fun z => absurd (show (3 : Nat) = 0 from z) (by decide), fun _ => ?_⟩
      refine Fn.one (y1 := (L, P, 8, C, false, cr)) (fun f => ?_)
      rw [ryn_bg rfl]
      unfold bgY
      dsimp only
      have n2 : ¬ L.1 = 2 := by omega
      have nw : ¬ isw tx L wT = true := fun z => by
        have := isw_tok z
        omega
      rw [if_neg n2, if_neg nw]
      rcases c with c | c
      · rw [if_pos c]
        rfl
      · rw [if_neg (show ¬ L.1 = 40 by omega), if_pos c]
        rfl
    · rw [if_neg c]
      exact leaf_sim c
  | k + 1, hk, L, P, C, cr, hL => by
    unfold cOne
    obtain ⟨g1, g2⟩ := stp_gd ht hL
    have ih := one_sim ht hl k (by omega)
    have ha := cOne_adv (tx := tx) (len := len) ht k
    have en : 8 - k = 8 - (k + 1) + 1 := by omega
    by_cases c : L.1 = 40
    · rw [if_pos c]
      have n2 : ¬ L.1 = 2 := by omega
      have nw : ¬ isw tx L wT = true := fun z => by
        have := isw_tok z
        omega
      have s1 : Sp tx len (L, P, 8 - (k + 1), C, false, cr) (stp tx len L, 9 :: P, 8 - k, C, false, cr) := by
        refine Sp.one (fun f => ?_)
        rw [ryn_bg rfl]
        unfold bgY opY
        dsimp only
        rw [if_neg n2, if_neg nw, if_pos c, if_neg (show ¬ 8 - (k + 1) = 8 by omega), en]
        rfl
      obtain ⟨p1, p2⟩ := sum_sim ht hl ih ha (B := 9 :: P) (Or.inr ⟨9, P, rfl, by decide⟩) (stp tx len L) C cr g1
      have pa := cSum_adv ht ha _ g1
      generalize hr : cSum tx len (cOne tx len k) (stp tx len L) = r at *
      obtain ⟨v, L2, C2⟩ := r
      dsimp only at *
      by_cases c2 : v = 0
      · rw [if_pos c2]
        obtain ⟨pd1, C1, cr1, q1, q2, q3, q4, q5⟩ := p1 c2
        have hst : stl 1 (pd1 ++ 9 :: P) (8 - k) C1 = (9 :: P, 8 - k, C1 ++ opsP pd1) := by
          rw [stl_ops pd1 C1 q1, stl_stop (Or.inr ⟨9, P, rfl, by decide⟩)]
        have hs1 : s1Y (L2, pd1 ++ 9 :: P, 8 - k, C1, true, cr1) = (L2, 9 :: P, 8 - k, C ++ C2, true, cr1) := by
          unfold s1Y
          dsimp only
          rw [hst, q2]
        have key := ryn_bh (tx := tx) (len := len) (y := (L2, pd1 ++ 9 :: P, 8 - k, C1, true, cr1)) rfl q4
        unfold bhY at key
        rw [hs1] at key
        dsimp only at key
        rw [if_neg q3.2.1, if_neg q3.2.2, if_neg q3.1] at key
        by_cases c3 : L2.1 = 41
        · rw [if_pos c3]
          rw [if_pos c3] at key
          refine ⟨fun _ => (s1.trans q5).trans (Sp.one (fun f => ?_)), fun z => absurd rfl z⟩
          rw [key]
          have e8 : 8 - k - 1 = 8 - (k + 1) := by omega
          rw [if_neg (List.cons_ne_nil _ _), if_pos rfl, e8]
          rfl
        · rw [if_neg c3]
          rw [if_neg c3] at key
          refine ⟨fun z => absurd (show (1 : Nat) = 0 from z) (by decide), fun _ => (s1.trans q5).fn ?_⟩
          refine Fn.one (y1 := (L2, 9 :: P, 8 - k, C ++ C2, true, cr1)) (fun f => ?_)
          rw [key, if_neg Bool.false_ne_true]
          unfold enY
          rw [hs1]
          dsimp only
          rw [if_neg (List.cons_ne_nil _ _)]
      · rw [if_neg c2]
        exact ⟨fun z => absurd z c2, fun _ => s1.fn (p2 c2)⟩
    · rw [if_neg c]
      by_cases c1 : L.1 = 45
      · rw [if_pos c1]
        have n2 : ¬ L.1 = 2 := by omega
        have nw : ¬ isw tx L wT = true := fun z => by
          have := isw_tok z
          omega
        have s1 : Sp tx len (L, P, 8 - (k + 1), C, false, cr) (stp tx len L, 2 :: P, 8 - k, C, false, cr) := by
          refine Sp.one (fun f => ?_)
          rw [ryn_bg rfl]
          unfold bgY opY
          dsimp only
          rw [if_neg n2, if_neg nw, if_neg c, if_pos c1, if_neg (show ¬ 8 - (k + 1) = 8 by omega), en]
          rfl
        obtain ⟨p1, p2⟩ := ih (stp tx len L) (2 :: P) C cr g1
        generalize hr : cOne tx len k (stp tx len L) = r at *
        obtain ⟨v, L2, C2⟩ := r
        dsimp only at *
        by_cases c2 : v = 0
        · rw [if_pos c2]
          refine ⟨fun _ => ?_, fun z => absurd rfl z⟩
          have hw : whY L2 (2 :: P) (8 - k) (C ++ C2) = whY L2 P (8 - (k + 1)) (C ++ (C2 ++ [(2, 0)])) := by
            unfold whY
            have e1 : stl 3 (2 :: P) (8 - k) (C ++ C2) = stl 3 P (8 - (k + 1)) (C ++ (C2 ++ [(2, 0)])) := by
              show (if 3 ≤ rko 2 then stl 3 P (if 2 = 2 then 8 - k - 1 else 8 - k) (C ++ C2 ++ [(2, 0)]) else _) = _
              rw [if_pos (by decide), if_pos rfl, List.append_assoc, show 8 - k - 1 = 8 - (k + 1) by omega]
            rw [e1]
          rw [← hw]
          exact s1.trans (p1 c2)
        · rw [if_neg c2]
          exact ⟨fun z => absurd z c2, fun _ => s1.fn (p2 c2)⟩
      · rw [if_neg c1]
        exact leaf_sim (fun z => by rcases z with z | z; exact c z; exact c1 z)
/-- a whole SUM of a clause -/
theorem top_sim (ht : ∀ i, tx i < 256) (hl : len ≤ 300) (L : Lx) (C : List (Nat × Nat)) (cr : Bool) (hL : Lgd len L) : ∃ j y1, (∀ f, ryn tx len (j + f) (L, [], 0, C, false, cr) = some ((cSum tx len (cOne tx len 8) L).1, y1)) ∧ y1.1 = (cSum tx len (cOne tx len 8) L).2.1 ∧ ((cSum tx len (cOne tx len 8) L).1 = 0 → y1.2.2.1 = 0 ∧ y1.2.2.2.1 = C ++ (cSum tx len (cOne tx len 8) L).2.2) := by
  obtain ⟨p1, p2⟩ := sum_sim ht hl (one_sim ht hl 8 (by omega)) (cOne_adv ht 8) (B := []) (Or.inl rfl) L C cr hL
  rw [Nat.sub_self] at p1 p2
  generalize hr : cSum tx len (cOne tx len 8) L = r at *
  obtain ⟨v, L2, C2⟩ := r
  dsimp only at *
  by_cases c2 : v = 0
  · subst c2
    obtain ⟨pd1, C1, cr1, q1, q2, q3, q4, q5⟩ := p1 rfl
    rw [List.append_nil] at q5
    have hst : stl 1 pd1 0 C1 = ([], 0, C1 ++ opsP pd1) := by
      have := stl_ops (l := 1) (B := []) (n := 0) pd1 C1 q1
      rw [List.append_nil] at this
      rw [this]
      rfl
    have hs1 : s1Y (L2, pd1, 0, C1, true, cr1) = (L2, [], 0, C ++ C2, true, cr1) := by
      unfold s1Y
      dsimp only
      rw [hst, q2]
    have hs2 : s1Y (L2, [], 0, C ++ C2, true, cr1) = (L2, [], 0, C ++ C2, true, cr1) := rfl
    have key := ryn_bh (tx := tx) (len := len) (y := (L2, pd1, 0, C1, true, cr1)) rfl q4
    unfold bhY at key
    rw [hs1] at key
    dsimp only at key
    rw [if_neg q3.2.1, if_neg q3.2.2, if_neg q3.1] at key
    obtain ⟨j, hj⟩ := q5
    refine ⟨j + 1, (L2, [], 0, C ++ C2, true, cr1), fun f => ?_, rfl, fun _ => ⟨rfl, rfl⟩⟩
    rw [Nat.add_assoc, hj, Nat.add_comm 1 f, key]
    by_cases c3 : L2.1 = 41
    · rw [if_pos c3, if_pos rfl, if_neg Bool.false_ne_true]
      unfold enY
      rw [hs2]
      rfl
    · rw [if_neg c3, if_neg Bool.false_ne_true]
      unfold enY
      rw [hs1]
      rfl
  · obtain ⟨j, y1, h1, h2⟩ := p2 c2
    exact ⟨j, y1, h1, h2, fun z => absurd z c2⟩
end YSM
