/-! texts: clauses and whole texts, the class's against the code's -/
section CT3
variable {w : Bool} {q m d n : Nat} {tx : Nat → Nat} {len : Nat}
theorem isw_two {L : Lx} (h1 : isw tx L wMap = true) : ¬ isw tx L wMod = true := fun h2 => by
  unfold isw at h1 h2
  rw [Bool.and_eq_true, decide_eq_true_eq] at h1 h2
  have e1 : L.2.2.2 - L.2.1 = 3 := h1.1.2
  have e2 : L.2.2.2 - L.2.1 = 6 := h2.1.2
  omega
/-- the code of a clause's sum -/
def clC (tx : Nat → Nat) (len : Nat) (L : Lx) : List (Nat × Nat) := (cSum tx len (cOne tx len 8) (stp tx len L)).2.2
theorem cC2_p {L M : Lx} {r : RS} (h : Lxq L M) (h0 : L.1 ≠ 0) {s : Nat} (hk : kd tx M = (if s = 1 then 2 else 1)) (Cs : List (Nat × Nat × Nat)) (C : List (Nat × Nat)) (hCs : Cs.length ≤ 20) :
    ((cC2 tx len s L Cs C).1 = 0 → ∃ M1, Lxq (cC2 tx len s L Cs C).2.1 M1 ∧ pCl w q m d n tx len (M, r) Cs.length = (if s = 1 then 2 else 1, (M1, (exL w q m d n (clC tx len L) (0, (false, r.2))).2), Cs.length + 1) ∧ (exL w q m d n (clC tx len L) (0, (false, r.2))).1 = 1 ∧ cC2 tx len s L Cs C = (0, (cC2 tx len s L Cs C).2.1, Cs ++ [(s, C.length, (C ++ clC tx len L).length)], C ++ clC tx len L) ∧ Cs.length < 20) ∧
    ((cC2 tx len s L Cs C).1 ≠ 0 → (pCl w q m d n tx len (M, r) Cs.length).1 = 3 ∧ sF (pCl w q m d n tx len (M, r) Cs.length).2.1 = (cC2 tx len s L Cs C).1 ∧ sA (pCl w q m d n tx len (M, r) Cs.length).2.1 = (cC2 tx len s L Cs C).2.1.2.1) := by
  have h1 := stp_q (tx := tx) (len := len) h
  have hk3 : ¬ kd tx M = 3 := by
    rw [hk]
    split <;> omega
  have e1 : sL (M, r) = M := rfl
  unfold cC2 pCl
  rw [e1, ← h.1, if_neg h0, if_neg hk3, hk]
  have e2 : stepS tx len (M, false, sS (M, r), sF (M, r), sA (M, r)) = (stp tx len M, (false, r.2)) := rfl
  rw [e2]
  by_cases c20 : Cs.length = 20
  · rw [if_pos c20, if_pos (by omega)]
    exact ⟨fun z => absurd (show (4 : Nat) = 0 from z) (by decide), fun _ => ⟨rfl, rfl, h.2.1.symm⟩⟩
  · rw [if_neg c20]
    rw [if_neg (by omega : ¬ 20 ≤ Cs.length)]
    obtain ⟨a1, a2⟩ := cSum_cp (w := w) (q := q) (m := m) (d := d) (n := n) (tx := tx) (len := len) (cOne_cp 8) (stp tx len L) (stp tx len M) 0 (false, r.2) h1
    by_cases c2 : (cSum tx len (cOne tx len 8) (stp tx len L)).1 = 0
    · obtain ⟨M1, b1, b2, b3⟩ := a1 c2
      rw [if_pos c2, b2, if_pos rfl]
      unfold pExp
      have e3 : ∀ r1 : RS, sL (M1, r1) = M1 := fun _ => rfl
      rw [e3, ← b1.1]
      by_cases c3 : (cSum tx len (cOne tx len 8) (stp tx len L)).2.1.1 = 59
      · rw [if_pos c3, if_pos c3]
        exact ⟨fun _ => ⟨stp tx len M1, stp_q b1, rfl, b3, rfl, by omega⟩, fun z => absurd rfl z⟩
      · rw [if_neg c3, if_neg c3]
        exact ⟨fun z => absurd (show (1 : Nat) = 0 from z) (by decide), fun _ => ⟨rfl, rfl, b1.2.1.symm⟩⟩
    · obtain ⟨b1, b2, b3⟩ := a2 c2
      rw [if_neg c2, if_neg (by rw [b1]; exact Bool.false_ne_true)]
      exact ⟨fun z => absurd z c2, fun _ => ⟨rfl, b2, b3⟩⟩
/-- which sort a clause is of -/
def clS (tx : Nat → Nat) (L : Lx) : Nat := if isw tx L wMap = true then 1 else 0
theorem cCl_p {L M : Lx} {r : RS} (h : Lxq L M) (h0 : L.1 ≠ 0) (Cs : List (Nat × Nat × Nat)) (C : List (Nat × Nat)) (hCs : Cs.length ≤ 20) :
    ((cCl tx len L Cs C).1 = 0 → ∃ M1, Lxq (cCl tx len L Cs C).2.1 M1 ∧ pCl w q m d n tx len (M, r) Cs.length = (if clS tx L = 1 then 2 else 1, (M1, (exL w q m d n (clC tx len L) (0, (false, r.2))).2), Cs.length + 1) ∧ (exL w q m d n (clC tx len L) (0, (false, r.2))).1 = 1 ∧ cCl tx len L Cs C = (0, (cCl tx len L Cs C).2.1, Cs ++ [(clS tx L, C.length, (C ++ clC tx len L).length)], C ++ clC tx len L) ∧ Cs.length < 20) ∧
    ((cCl tx len L Cs C).1 ≠ 0 → (pCl w q m d n tx len (M, r) Cs.length).1 = 3 ∧ sF (pCl w q m d n tx len (M, r) Cs.length).2.1 = (cCl tx len L Cs C).1 ∧ sA (pCl w q m d n tx len (M, r) Cs.length).2.1 = (cCl tx len L Cs C).2.1.2.1) := by
  unfold cCl clS
  by_cases c1 : isw tx L wMap = true
  · rw [if_pos c1, if_pos c1]
    refine cC2_p h h0 (s := 1) ?_ Cs C hCs
    unfold kd
    rw [isw_q h, isw_q h, if_neg (isw_two c1), if_pos c1]
    rfl
  · rw [if_neg c1, if_neg c1]
    by_cases c2 : isw tx L wMod = true
    · rw [if_pos c2]
      refine cC2_p h h0 (s := 0) ?_ Cs C hCs
      unfold kd
      rw [isw_q h, if_pos c2]
      rfl
    · rw [if_neg c2]
      have hk3 : kd tx M = 3 := by
        unfold kd
        rw [isw_q h, isw_q h, if_neg c2, if_neg c1]
      refine ⟨fun z => absurd (show (1 : Nat) = 0 from z) (by decide), fun _ => ?_⟩
      unfold pCl
      have e1 : sL (M, r) = M := rfl
      rw [e1, ← h.1, if_neg h0, if_pos hk3]
      exact ⟨rfl, rfl, h.2.1.symm⟩
theorem exO_off (c : Nat × Nat) (z : Nat × RS) : (exO false q m d n c z).2 = z.2 := by
  unfold exO
  split
  · rw [if_neg (fun h => absurd h.1 Bool.false_ne_true)]
    rfl
  · split
    · rfl
    · split
      · rfl
      · split
        · rfl
        · split <;> rfl
theorem exL_off : ∀ (C : List (Nat × Nat)) (z : Nat × RS), (exL false q m d n C z).2 = z.2
  | [], _ => rfl
  | c :: C, z => by
    show (exL false q m d n C (exO false q m d n c z)).2 = _
    rw [exL_off C, exO_off]
theorem cTx_p : ∀ (f f2 : Nat) (L M : Lx) (r : RS) (Cs : List (Nat × Nat × Nat)) (C : List (Nat × Nat)), f + Cs.length = 21 → Cs.length ≤ 20 → f ≤ f2 → Lxq L M → r.2.2.1 = 0 →
    sF (pCk q m d n tx len f (M, r) Cs.length) = (cTx tx len f2 L Cs C).1 ∧ ((cTx tx len f2 L Cs C).1 ≠ 0 → sA (pCk q m d n tx len f (M, r) Cs.length) = (cTx tx len f2 L Cs C).2.1.2.1)
  | 0, f2, L, M, r, Cs, C, h1, h2, h3, h, hr => by omega
  | f + 1, 0, L, M, r, Cs, C, h1, h2, h3, h, hr => by omega
  | f + 1, f2 + 1, L, M, r, Cs, C, h1, h2, h3, h, hr => by
    have hp : pCk q m d n tx len (f + 1) (M, r) Cs.length = if (pCl false q m d n tx len (M, r) Cs.length).1 = 1 ∨ (pCl false q m d n tx len (M, r) Cs.length).1 = 2 then pCk q m d n tx len f (pCl false q m d n tx len (M, r) Cs.length).2.1 (pCl false q m d n tx len (M, r) Cs.length).2.2 else (pCl false q m d n tx len (M, r) Cs.length).2.1 := rfl
    have ht : cTx tx len (f2 + 1) L Cs C = if L.1 = 0 then (0, L, Cs, C) else if (cCl tx len L Cs C).1 = 0 then cTx tx len f2 (cCl tx len L Cs C).2.1 (cCl tx len L Cs C).2.2.1 (cCl tx len L Cs C).2.2.2 else cCl tx len L Cs C := rfl
    rw [hp, ht]
    by_cases c0 : L.1 = 0
    · have e : pCl false q m d n tx len (M, r) Cs.length = (0, (M, r), Cs.length) := by
        unfold pCl
        rw [show sL (M, r) = M from rfl, ← h.1, if_pos c0]
      rw [e, if_pos c0, if_neg (show ¬ ((0 : Nat) = 1 ∨ (0 : Nat) = 2) by omega)]
      exact ⟨hr, fun z => absurd rfl z⟩
    · rw [if_neg c0]
      obtain ⟨a1, a2⟩ := cCl_p (w := false) (q := q) (m := m) (d := d) (n := n) (tx := tx) (len := len) (r := r) h c0 Cs C h2
      by_cases c1 : (cCl tx len L Cs C).1 = 0
      · obtain ⟨M1, b1, b2, b3, b4, b5⟩ := a1 c1
        rw [if_pos c1, b2]
        rw [if_pos (show (if clS tx L = 1 then 2 else 1) = 1 ∨ (if clS tx L = 1 then 2 else 1) = 2 by split <;> omega)]
        rw [exL_off]
        have hl : (cCl tx len L Cs C).2.2.1.length = Cs.length + 1 := by rw [b4]; exact List.length_append
        have i := cTx_p f f2 (cCl tx len L Cs C).2.1 M1 (false, r.2) (cCl tx len L Cs C).2.2.1 (cCl tx len L Cs C).2.2.2 (by omega) (by omega) (by omega) b1 hr
        rw [hl] at i
        exact i
      · obtain ⟨b1, b2, b3⟩ := a2 c1
        rw [if_neg c1, if_neg (by rw [b1]; omega)]
        exact ⟨b2, fun _ => b3⟩
/-- the class's faults are the reference's -/
theorem rTx_p (num : Nat) (S : Nat → Nat → Nat) : sF (pCk q m d n tx len 21 (st0 tx len num S) 0) = (rTx tx len 0).1 ∧ ((rTx tx len 0).1 ≠ 0 → sA (pCk q m d n tx len 21 (st0 tx len num S) 0) = (rTx tx len 0).2.1.2.1) :=
  cTx_p 21 302 (stp tx len (0, 0, 0, 0)) (stp tx len (0, 0, num, 0)) (false, S, 0, 0) [] [] rfl (by decide) (by decide) (stp_q ⟨rfl, rfl, rfl, fun z => absurd (show (0 : Nat) = 2 from z) (by decide)⟩) rfl
end CT3
