/-! the reference: told -/
section CTL
variable {w : Bool} {q m d n : Nat} {tx : Nat → Nat} {len : Nat}
theorem cC2_ok {s : Nat} {L : Lx} {Cs : List (Nat × Nat × Nat)} {C : List (Nat × Nat)} (hz : (cC2 tx len s L Cs C).1 = 0) : (cSum tx len (cOne tx len 8) (stp tx len L)).1 = 0 := by
  unfold cC2 at hz
  split at hz
  · exact absurd (show (4 : Nat) = 0 from hz) (by decide)
  · split at hz
    · next c => exact c
    · exact hz
theorem cCl_ok {L : Lx} {Cs : List (Nat × Nat × Nat)} {C : List (Nat × Nat)} (hz : (cCl tx len L Cs C).1 = 0) : Hok (clC tx len L) 0 1 := by
  have h : (cSum tx len (cOne tx len 8) (stp tx len L)).1 = 0 := by
    unfold cCl at hz
    split at hz
    · exact cC2_ok hz
    · split at hz
      · exact cC2_ok hz
      · exact absurd (show (1 : Nat) = 0 from hz) (by decide)
  exact cSum_h (B := 0) (cOne_h 8 2 (by omega)) (stp tx len L) 0 (Nat.le_refl _) h
theorem cC2_app {s : Nat} {L : Lx} {Cs : List (Nat × Nat × Nat)} {C : List (Nat × Nat)} (hz : (cC2 tx len s L Cs C).1 = 0) : (∃ X, (cC2 tx len s L Cs C).2.2.1 = Cs ++ X) ∧ ∃ Y, (cC2 tx len s L Cs C).2.2.2 = C ++ Y := by
  unfold cC2 at hz ⊢
  split at hz
  · exact absurd (show (4 : Nat) = 0 from hz) (by decide)
  · next c1 =>
    rw [if_neg c1]
    split at hz
    · next c2 =>
      rw [if_pos c2]
      split at hz
      · next c3 =>
        rw [if_pos c3]
        exact ⟨⟨_, rfl⟩, ⟨_, rfl⟩⟩
      · exact absurd (show (1 : Nat) = 0 from hz) (by decide)
    · next c2 => exact absurd hz c2
theorem cCl_app {L : Lx} {Cs : List (Nat × Nat × Nat)} {C : List (Nat × Nat)} (hz : (cCl tx len L Cs C).1 = 0) : (∃ X, (cCl tx len L Cs C).2.2.1 = Cs ++ X) ∧ ∃ Y, (cCl tx len L Cs C).2.2.2 = C ++ Y := by
  unfold cCl at hz ⊢
  split at hz
  · next c =>
    rw [if_pos c]
    exact cC2_app hz
  · next c =>
    rw [if_neg c]
    split at hz
    · next c2 =>
      rw [if_pos c2]
      exact cC2_app hz
    · exact absurd (show (1 : Nat) = 0 from hz) (by decide)
theorem cTx_app : ∀ (f : Nat) (L : Lx) (Cs : List (Nat × Nat × Nat)) (C : List (Nat × Nat)), (cTx tx len f L Cs C).1 = 0 → (∃ X, (cTx tx len f L Cs C).2.2.1 = Cs ++ X) ∧ ∃ Y, (cTx tx len f L Cs C).2.2.2 = C ++ Y
  | 0, L, Cs, C, _ => ⟨⟨[], (List.append_nil _).symm⟩, ⟨[], (List.append_nil _).symm⟩⟩
  | f + 1, L, Cs, C, hz => by
    unfold cTx at hz ⊢
    split at hz
    · next c =>
      rw [if_pos c]
      exact ⟨⟨[], (List.append_nil _).symm⟩, ⟨[], (List.append_nil _).symm⟩⟩
    · next c =>
      rw [if_neg c]
      split at hz
      · next c2 =>
        rw [if_pos c2]
        obtain ⟨⟨X, a⟩, ⟨Y, b⟩⟩ := cTx_app f _ _ _ hz
        obtain ⟨⟨X1, a1⟩, ⟨Y1, b1⟩⟩ := cCl_app c2
        exact ⟨⟨X1 ++ X, by rw [a, a1, List.append_assoc]⟩, ⟨Y1 ++ Y, by rw [b, b1, List.append_assoc]⟩⟩
      · next c2 => exact absurd hz c2
end CTL
section MTO
variable {G : GC} {e q m d n len t0 : Nat} {tx : Nat → Nat} {ml : Nat → Nat → Int64} {K : Int32 → (Nat → Nat → Int32) → (Nat → Nat → Int64) → Prop}
/-- the work and the told alone changed -/
def offL (mi mi1 : Nat → Nat → Int32) : Prop := (∀ o, o ≠ 155 → o ≠ 161 → mi1 o = mi o) ∧ mi1 155 0 = mi 155 0 ∧ mi1 155 1 = mi 155 1
theorem offL.refl (mi : Nat → Nat → Int32) : offL mi mi := ⟨fun _ _ _ => rfl, rfl, rfl⟩
theorem offL.trans {a b c : Nat → Nat → Int32} (h : offL a b) (h1 : offL b c) : offL a c := ⟨fun o z z2 => by rw [h1.1 o z z2, h.1 o z z2], by rw [h1.2.1, h.2.1], by rw [h1.2.2, h.2.2]⟩
theorem Mw.offL {mi mi1 : Nat → Nat → Int32} (h : Mw q m d n mi) (ho : offL mi mi1) : Mw q m d n mi1 := h.off ⟨ho.2.1, ho.2.2⟩ (by rw [ho.1 154 (by omega) (by omega)]; exact ⟨rfl, rfl⟩) (ho.1 158 (by omega) (by omega)) (ho.1 159 (by omega) (by omega)) (ho.1 160 (by omega) (by omega))
theorem ten_SI {A : Ast} (h : SI A d n) : kc (aks A) 0 (adn A) ≤ 10 ∧ kc (aks A) 1 (adn A) ≤ 10 := ⟨Nat.le_trans (kc_le h.2.2.1) h.2.2.2.2.1, Nat.le_trans (kc_le h.2.2.1) h.2.2.2.2.2.1⟩
theorem NONE_ne {k : Nat} (hk : k < 2 ^ 31) : nI k ≠ NONE := fun z => by
  have h1 : (nI k).toInt = (NONE : Int32).toInt := by rw [z]
  rw [show (NONE : Int32).toInt = -1 by decide, nI_toInt hk] at h1
  omega
end MTO
