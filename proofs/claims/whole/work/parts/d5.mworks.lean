/-! the reference: raiseBy, works -/
/-- the work alone changed; the other rows of values stand -/
def offE (mi mi1 : Nat → Nat → Int32) : Prop := ∀ o, o ≠ 161 → mi1 o = mi o
theorem offE.refl (mi : Nat → Nat → Int32) : offE mi mi := fun _ _ => rfl
theorem offE.trans {a b c : Nat → Nat → Int32} (h : offE a b) (h1 : offE b c) : offE a c := fun o z => by rw [h1 o z, h o z]
def Vrw (n h : Nat) (S : Nat → Nat → Nat) (mi : Nat → Nat → Int32) : Prop := ∀ i, i < h → Wr n mi (8 + i) (S i)
section MWK
variable {G : GC} {e q m d n : Nat} {ml : Nat → Nat → Int64} {K : Int32 → (Nat → Nat → Int32) → (Nat → Nat → Int64) → Prop}
theorem Mw.offE {mi mi1 : Nat → Nat → Int32} (h : Mw q m d n mi) (ho : offE mi mi1) : Mw q m d n mi1 := h.off (by rw [ho 155 (by omega)]; exact ⟨rfl, rfl⟩) (by rw [ho 154 (by omega)]; exact ⟨rfl, rfl⟩) (ho 158 (by omega)) (ho 159 (by omega)) (ho 160 (by omega))
theorem fits_no {f h : Nat → Nat} : (0 < rl f 25 ∧ 0 < rl h 25 ∧ 26 < rl f 25 + rl h 25) ↔ ¬ fitsM f h := by
  unfold fitsM
  omega
/-- rows 3, 4 and a changed -/
def offQ (a : Nat) (mi mi1 : Nat → Nat → Int32) : Prop := (∀ o, o ≠ 161 → mi1 o = mi o) ∧ ∀ j, (j < 75 ∨ 125 ≤ j) → (j < 25 * a ∨ 25 * a + 25 ≤ j) → mi1 161 j = mi 161 j
theorem offQ.refl (a : Nat) (mi : Nat → Nat → Int32) : offQ a mi mi := ⟨fun _ _ => rfl, fun _ _ _ => rfl⟩
theorem offQ.trans {r : Nat} {a b c : Nat → Nat → Int32} (h : offQ r a b) (h1 : offQ r b c) : offQ r a c := ⟨fun o z => by rw [h1.1 o z, h.1 o z], fun j z z2 => by rw [h1.2 j z z2, h.2 j z z2]⟩
theorem offV.toQ {a r : Nat} {mi mi1 : Nat → Nat → Int32} (h : offV r mi mi1) (hr : r = 3 ∨ r = 4 ∨ r = a) : offQ a mi mi1 := ⟨h.1, fun j z z2 => h.2 j (by rcases hr with rfl | rfl | rfl <;> omega)⟩
theorem Wr.offQ {r a : Nat} {f : Nat → Nat} {mi mi1 : Nat → Nat → Int32} (h : Wr n mi r f) (ho : offQ a mi mi1) (hr : 5 ≤ r) (hne : r ≠ a) : Wr n mi1 r f := ⟨h.1, fun k hk => by rw [ho.2 _ (by omega) (by omega)]; exact h.2.1 k hk, h.2.2⟩
theorem m_raiseL {a p : Nat} {f : Nat → Nat} (ha : 8 ≤ a) {mi0 : Nat → Nat → Int32} (h0 : Mw q m d n mi0) (hf0 : Wr n mi0 a f) (hp : p < 100)
    {Z : Option (Nat → Nat)} (h1 : ∀ g, Z = some g → ∀ mi1, offQ a mi0 mi1 → Wr n mi1 a g → K (nI 1) mi1 ml) (hno : Z = none → ∀ mi1, offQ a mi0 mi1 → K (nI 0) mi1 ml) :
    ∀ (r i : Nat) (g : Nat → Nat) (mi : Nat → Nat → Int32), r + i = p → offQ a mi0 mi → Wr n mi a f → Wr n mi 4 g → pwc q m d f r g = Z → wp G e tM m_X10_raiseBy 15 [(0, .ref 154), (1, .int (nI a)), (2, .int (nI p)), (3, .int (nI i))] [] (mi, ml, RX RM) (QI K)
  | 0, i, g, mi, hi, ho, hf, hg, hz => by
    have hz1 : some g = Z := hz
    have e : i = p := by omega
    subst e
    apply b_X10_raiseBy_15
    rw [s_le (by omega) (by omega)]
    refine ⟨fun _ => ?_, fun z => absurd (Nat.le_refl _) z⟩
    exact m_lay (r := 4) (c := a) hf0.1 (by omega) hg (fun mi1 o1 w1 => ⟨Or.inr rfl, h1 g hz1.symm mi1 (ho.trans (o1.toQ (Or.inr (Or.inr rfl)))) w1⟩)
  | r + 1, i, g, mi, hi, ho, hf, hg, hz => by
    have hz1 : (if 0 < rl g 25 ∧ 0 < rl f 25 ∧ 26 < rl g 25 + rl f 25 then none else pwc q m d f r (cv q m d g f)) = Z := hz
    have hM : Mw q m d n mi := h0.offE ho.1
    apply b_X10_raiseBy_15
    rw [s_le (by omega) (by omega)]
    refine ⟨fun z => absurd z (by omega), fun _ => ?_⟩
    refine m_multiply (a := 4) (b := a) (c := 3) hM hg hf (by omega) (by omega) (by omega) (fun hfit mi1 o1 w1 => ⟨fun _ => ?_, fun z => absurd z (by decide)⟩) (fun hfit mi1 o1 w1 => ⟨fun z => absurd rfl z, fun _ => ⟨Or.inl rfl, ?_⟩⟩)
    · rw [if_neg (fun z => fits_no.mp z hfit)] at hz1
      refine m_lay (r := 3) (c := 4) (by omega) (by omega) w1 (fun mi2 o2 w2 => ?_)
      rw [nI_add]
      have o3 : offQ a mi mi2 := (o1.toQ (Or.inl rfl)).trans (o2.toQ (Or.inr (Or.inl rfl)))
      exact m_raiseL ha h0 hf0 hp h1 hno r (i + 1) _ mi2 (by omega) (ho.trans o3) ((hf.offV o1 (by omega)).offV o2 (by omega)) w2 hz1
    · rw [if_pos (fits_no.mpr hfit)] at hz1
      exact hno hz1.symm mi1 (ho.trans (o1.toQ (Or.inl rfl)))
theorem m_raiseBy {a p : Nat} {f : Nat → Nat} (ha : 8 ≤ a) {mi : Nat → Nat → Int32} (h0 : Mw q m d n mi) (hf : Wr n mi a f) (hp : p < 100)
    (h1 : ∀ g, pwc q m d f p (r1 1) = some g → ∀ mi1, offQ a mi mi1 → Wr n mi1 a g → K (nI 1) mi1 ml) (hno : pwc q m d f p (r1 1) = none → ∀ mi1, offQ a mi mi1 → K (nI 0) mi1 ml) : wpI G e 168 m_X10_raiseBy [.ref 154, .int (nI a), .int (nI p)] (mi, ml, RX RM) K := by
  have hn2 := h0.two
  apply e_X10_raiseBy
  refine m_clear (n := n) (r := 4) (by omega) (by omega) (fun mi1 o1 w1 => ?_)
  rw [s_ix (by omega), s_in (by omega)]
  refine ⟨by omega, ?_⟩
  have w2 : Wr n (u2 mi1 161 100 (nI 1)) 4 (r1 1) := by
    refine ⟨by omega, fun k hk => ?_, fun k hk => ?_, fun k => ?_⟩
    · by_cases c : k = 0
      · subst c
        exact u2_at
      · rw [u2_ne (by omega), w1.2.1 k hk]
        show nI 0 = nI (if k = 0 then 1 else 0)
        rw [if_neg c]
    · show (if k = 0 then 1 else 0) = 0
      rw [if_neg (by omega)]
    · show (if k = 0 then 1 else 0) < n
      split <;> omega
  have o2 : offV 4 mi (u2 mi1 161 (25 * 4 + 0) (nI 1)) := o1.put (by omega)
  have o3 : offQ a mi (u2 mi1 161 100 (nI 1)) := o2.toQ (Or.inr (Or.inl rfl))
  exact m_raiseL ha h0 hf hp h1 hno p 0 (r1 1) _ rfl o3 (hf.offV o2 (by omega)) w2 rfl
end MWK
