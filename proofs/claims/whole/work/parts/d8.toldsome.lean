/-! texts: a text without a fault is told -/
section TSO
variable {q m d n len : Nat} {tx : Nat → Nat}
theorem ifs_some {α : Type} {p q r s : Prop} [Decidable p] [Decidable q] [Decidable r] [Decidable s] {a : α} {X Y : Option α} (hX : ∃ R, X = some R) (hY : ∃ R, Y = some R) : ∃ R, (if p then some a else (if q then (if r then some a else X) else (if s then some a else Y))) = some R := by
  by_cases h1 : p
  · exact ⟨a, if_pos h1⟩
  · rw [if_neg h1]
    by_cases h2 : q
    · rw [if_pos h2]
      by_cases h3 : r
      · exact ⟨a, if_pos h3⟩
      · rw [if_neg h3]
        exact hX
    · rw [if_neg h2]
      by_cases h3 : s
      · exact ⟨a, if_pos h3⟩
      · rw [if_neg h3]
        exact hY
theorem tol_some : ∀ (f f2 : Nat) (L M : Lx) (r : RS) (Cs : List (Nat × Nat × Nat)) (C : List (Nat × Nat)) (c : Cst) (k : Nat), f + Cs.length = 20 → f < f2 → Lxq L M → (cTx tx len f2 L Cs C).1 = 0 → ∃ R, tol q m d n tx len f k (M, r) Cs.length c = some R := by
  intro f
  induction f with
  | zero => exact fun f2 L M r Cs C c k _ _ _ _ => ⟨(NONE, c), rfl⟩
  | succ f ih =>
    intro f2 L M r Cs C c k hf hf2 hLM hz
    obtain ⟨f3, rfl⟩ : ∃ f3, f2 = f3 + 1 := ⟨f2 - 1, by omega⟩
    have e1 : cTx tx len (f3 + 1) L Cs C = if L.1 = 0 then (0, L, Cs, C) else if (cCl tx len L Cs C).1 = 0 then cTx tx len f3 (cCl tx len L Cs C).2.1 (cCl tx len L Cs C).2.2.1 (cCl tx len L Cs C).2.2.2 else cCl tx len L Cs C := rfl
    have e2 : tol q m d n tx len (f + 1) k (M, r) Cs.length c = if (pCl true q m d n tx len (M, r) Cs.length).1 = 0 then some (NONE, c) else if (pCl true q m d n tx len (M, r) Cs.length).1 = 3 then none else
      if sK (pCl true q m d n tx len (M, r) Cs.length).2.1 = true then some (nI k, c) else
        (if (pCl true q m d n tx len (M, r) Cs.length).1 = 2 then
          (if (tellP c (sS (pCl true q m d n tx len (M, r) Cs.length).2.1 0)).1 = NONE then some (nI k, c) else tol q m d n tx len f (k + 1) (pCl true q m d n tx len (M, r) Cs.length).2.1 (pCl true q m d n tx len (M, r) Cs.length).2.2 (tellP c (sS (pCl true q m d n tx len (M, r) Cs.length).2.1 0)).2)
         else
          (if (tellM c (sS (pCl true q m d n tx len (M, r) Cs.length).2.1 0)).1 = NONE then some (nI k, c) else tol q m d n tx len f (k + 1) (pCl true q m d n tx len (M, r) Cs.length).2.1 (pCl true q m d n tx len (M, r) Cs.length).2.2 (tellM c (sS (pCl true q m d n tx len (M, r) Cs.length).2.1 0)).2)) := rfl
    rw [e1] at hz
    rw [e2]
    by_cases c0 : L.1 = 0
    · have e : pCl true q m d n tx len (M, r) Cs.length = (0, (M, r), Cs.length) := by
        unfold pCl
        rw [show sL (M, r) = M from rfl, ← hLM.1, if_pos c0]
      rw [e, if_pos rfl]
      exact ⟨_, rfl⟩
    · rw [if_neg c0] at hz
      by_cases c1 : (cCl tx len L Cs C).1 = 0
      · rw [if_pos c1] at hz
        obtain ⟨M1, b1, b2, b3, b4, b5⟩ := (cCl_p (w := true) (q := q) (m := m) (d := d) (n := n) (r := r) hLM c0 Cs C (by omega)).1 c1
        have hl1 : (cCl tx len L Cs C).2.2.1.length = Cs.length + 1 := by rw [b4]; exact List.length_append
        have hkind : ¬ ((if clS tx L = 1 then 2 else 1) = 0) ∧ ¬ ((if clS tx L = 1 then 2 else 1) = 3) := by split <;> omega
        rw [b2]
        dsimp only
        rw [if_neg hkind.1, if_neg hkind.2, ← hl1]
        exact ifs_some (ih f3 _ M1 _ _ _ _ _ (by omega) (by omega) b1 hz) (ih f3 _ M1 _ _ _ _ _ (by omega) (by omega) b1 hz)
      · rw [if_neg c1] at hz
        exact absurd hz c1
theorem told_some {s : Cst} {v : Int32} {num : Nat} {S : Nat → Nat → Nat} (h : ∀ j, asN (atx (cN s)) v = some j → (rTx (cXb s j) (cXl s j) 0).1 = 0) : ∃ R, fTold s v num S = some R := by
  unfold fTold
  cases hv : asN (atx (cN s)) v with
  | none => exact ⟨_, rfl⟩
  | some j => exact tol_some 20 302 (stp (cXb s j) (cXl s j) (0, 0, 0, 0)) (stp (cXb s j) (cXl s j) (0, 0, num, 0)) (false, S, 0, 0) [] [] s 0 rfl (by decide) (stp_q ⟨rfl, rfl, rfl, fun z => absurd (show (0 : Nat) = 2 from z) (by decide)⟩) (h j hv)
end TSO
