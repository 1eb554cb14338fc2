/-! the reference: works -/
section MW2
variable {G : GC} {e q m d n t0 : Nat} {ml : Nat → Nat → Int64} {K : Int32 → (Nat → Nat → Int32) → (Nat → Nat → Int64) → Prop}
theorem gd_at {A D : List (Nat × Nat)} {c : Nat × Nat} : (A ++ c :: D).getD A.length (0, 0) = c := by
  rw [List.getD_eq_getElem?_getD, List.getElem?_append_right (Nat.le_refl _), Nat.sub_self]
  rfl
theorem Vrw.offV {h r : Nat} {S : Nat → Nat → Nat} {mi mi1 : Nat → Nat → Int32} (hv : Vrw n h S mi) (ho : offV r mi mi1) (hr : r < 8 ∨ 8 + h ≤ r) : Vrw n h S mi1 := fun i hi => (hv i hi).offV ho (by omega)
/-- one row of them new -/
theorem Vrw.put {h h1 a : Nat} {S : Nat → Nat → Nat} {g : Nat → Nat} {mi mi1 : Nat → Nat → Int32} (hv : Vrw n h S mi) (ho : ∀ i, i < h1 → i ≠ a → Wr n mi (8 + i) (S i) → Wr n mi1 (8 + i) (S i)) (hg : Wr n mi1 (8 + a) g) (hh : h1 ≤ h ∨ (h1 = h + 1 ∧ a = h)) : Vrw n h1 (upR S a g) mi1 := fun i hi => by
  by_cases c : i = a
  · rw [c, upR_eq]
    exact hg
  · rw [upR_ne c]
    exact ho i hi c (hv i (by omega))
theorem m_turnL {a : Nat} {f : Nat → Nat} (ha : a < 50) (ha1 : 1 ≤ a) {v1 v2 v4 : Int32} {mi0 : Nat → Nat → Int32} (h0 : Mw q m d n mi0) (hf0 : Wr n mi0 a f) (hK : ∀ mi1, offV a mi0 mi1 → Wr n mi1 a (fun k => cmb q (q - 1) 13 0 (f k)) → wp G e tM m_X10_works 262 [(0, .ref 154), (1, .int v1), (2, .int v2), (3, .int (nI (a + 1))), (4, .int v4)] [] (mi1, ml, RX RM) (QI K)) : ∀ (r i : Nat) (mi : Nat → Nat → Int32), r + i = 25 → offV a mi0 mi → (∀ j, j < 25 → mi 161 (25 * a + j) = nI (if j < i then cmb q (q - 1) 13 0 (f j) else f j)) → wp G e tM m_X10_works 127 [(0, .ref 154), (1, .int v1), (2, .int v2), (3, .int (nI (a + 1))), (4, .int v4), (7, .int (nI i))] [] (mi, ml, RX RM) (QI K)
  | 0, i, mi, hi, ho, hz => by
    have w := h0.1.1
    apply b_X10_works_127
    rw [s_le (by omega) (by omega)]
    refine ⟨fun _ => hK mi ho ⟨ha, fun k hk => ?_, fun k hk => ?_, fun k => ?_⟩, fun z => absurd (by omega) z⟩
    · rw [hz k hk, if_pos (by omega)]
    · show cmb q (q - 1) 13 0 (f k) = 0
      rw [hf0.2.2.1 k hk]
      exact cmb_self w.q2
    · exact cmb_ltn w (by have := w.n2; omega) (hf0.2.2.2 k)
  | r + 1, i, mi, hi, ho, hz => by
    have w := h0.1.1
    have hM : Mw q m d n mi := h0.offV ho
    have e1 : nI (a + 1) - nI 1 = nI a := by rw [s_sub (by omega), Nat.add_sub_cancel]
    apply b_X10_works_127
    rw [s_le (by omega) (by omega), e1, pk_mul, nI_add, s_in (by omega), s_ix (by omega), hz i (by omega), if_neg (by omega)]
    refine ⟨fun z => absurd z (by omega), fun _ => ⟨by omega, ?_⟩⟩
    refine m_minus hM.2.1.1 (w.lt13 (hf0.2.2.2 i)) ⟨by omega, ?_⟩
    rw [nI_add]
    refine m_turnL ha ha1 h0 hf0 hK r (i + 1) _ (by omega) (ho.put (by omega)) (fun j hj => ?_)
    by_cases c : j = i
    · subst c
      rw [u2_at, if_pos (by omega)]
    · rw [u2_ne (by omega), hz j hj]
      by_cases c2 : j < i
      · rw [if_pos c2, if_pos (by omega)]
      · rw [if_neg c2, if_neg (by omega)]
end MW2
