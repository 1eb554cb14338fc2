/-! texts: what code comes to -/
section EVD
variable (q m d n : Nat)
def pwc (f : Nat → Nat) : Nat → (Nat → Nat) → Option (Nat → Nat)
  | 0, g => some g
  | r + 1, g => if 0 < rl g 25 ∧ 0 < rl f 25 ∧ 26 < rl g 25 + rl f 25 then none else pwc f r (cv q m d g f)
abbrev ES : Type := Nat × (Nat → Nat → Nat)
def evP (z : ES) : Option (Nat → Nat) → Option ES
  | none => none
  | some g => some (z.1, upR z.2 (z.1 - 1) g)
def evO (c : Nat × Nat) (z : ES) : Option ES :=
  if c.1 = 0 then (if n ≤ c.2 then none else some (z.1 + 1, upR z.2 z.1 (fun k => if k = 0 then c.2 else 0)))
  else if c.1 = 1 then some (z.1 + 1, upR z.2 z.1 (fun k => if k = 1 then 1 else 0))
  else if c.1 = 2 then some (z.1, upR z.2 (z.1 - 1) (fun k => cmb q (q - 1) 13 0 (z.2 (z.1 - 1) k)))
  else if c.1 = 6 then evP z (pwc q m d (z.2 (z.1 - 1)) c.2 (r1 1))
  else if c.1 = 5 then (if 0 < rl (z.2 (z.1 - 2)) 25 ∧ 0 < rl (z.2 (z.1 - 1)) 25 ∧ 26 < rl (z.2 (z.1 - 2)) 25 + rl (z.2 (z.1 - 1)) 25 then none else some (z.1 - 1, upR z.2 (z.1 - 2) (cv q m d (z.2 (z.1 - 2)) (z.2 (z.1 - 1)))))
  else some (z.1 - 1, upR z.2 (z.1 - 2) (fun k => cmb q (if c.1 = 4 then q - 1 else 1) 13 (z.2 (z.1 - 2) k) (z.2 (z.1 - 1) k)))
def evB : Option ES → (ES → Option ES) → Option ES
  | none, _ => none
  | some z, f => f z
def evL : List (Nat × Nat) → ES → Option ES
  | [], z => some z
  | c :: C, z => evB (evO q m d n c z) (evL C)
end EVD
/-- how high the pile of values is -/
def Hok : List (Nat × Nat) → Nat → Nat → Prop
  | [], h, h1 => h = h1
  | c :: C, h, h1 => if c.1 = 0 ∨ c.1 = 1 then (h < 40 ∧ c.2 ≤ 9999) ∧ Hok C (h + 1) h1 else if c.1 = 2 ∨ c.1 = 6 then (1 ≤ h ∧ c.2 ≤ 24) ∧ Hok C h h1 else (2 ≤ h ∧ c.1 < 6) ∧ Hok C (h - 1) h1
theorem Hok.app : ∀ {C D : List (Nat × Nat)} {a b c : Nat}, Hok C a b → Hok D b c → Hok (C ++ D) a c
  | [], D, a, b, c, h, h1 => by
    have e : a = b := h
    rw [e]
    exact h1
  | x :: C, D, a, b, c, h, h1 => by
    show (if x.1 = 0 ∨ x.1 = 1 then (a < 40 ∧ x.2 ≤ 9999) ∧ Hok (C ++ D) (a + 1) c else if x.1 = 2 ∨ x.1 = 6 then (1 ≤ a ∧ x.2 ≤ 24) ∧ Hok (C ++ D) a c else (2 ≤ a ∧ x.1 < 6) ∧ Hok (C ++ D) (a - 1) c)
    have h0 : (if x.1 = 0 ∨ x.1 = 1 then (a < 40 ∧ x.2 ≤ 9999) ∧ Hok C (a + 1) b else if x.1 = 2 ∨ x.1 = 6 then (1 ≤ a ∧ x.2 ≤ 24) ∧ Hok C a b else (2 ≤ a ∧ x.1 < 6) ∧ Hok C (a - 1) b) := h
    split at h0
    · next c1 =>
      rw [if_pos c1]
      exact ⟨h0.1, Hok.app h0.2 h1⟩
    · next c1 =>
      rw [if_neg c1]
      split at h0
      · next c2 =>
        rw [if_pos c2]
        exact ⟨h0.1, Hok.app h0.2 h1⟩
      · next c2 =>
        rw [if_neg c2]
        exact ⟨h0.1, Hok.app h0.2 h1⟩
section HOK
variable {tx : Nat → Nat} {len : Nat}
def HP (B : Nat) (one : Lx → CR) : Prop := ∀ L t, t ≤ B → (one L).1 = 0 → Hok (one L).2.2 t (t + 1)
def HG (B : Nat) (one : Lx → CR) : Prop := ∀ L t, t ≤ B → (one L).1 = 0 → Hok (one L).2.2 (t + 1) (t + 1)
theorem cPw2_h (B : Nat) : HG B (cPw2 tx len) := fun L t ht hz => by
  unfold cPw2 at hz ⊢
  split at hz
  · next c =>
    rw [if_pos c]
    split at hz
    · next c2 =>
      rw [if_pos c2]
      split at hz
      · next c3 =>
        rw [if_pos c3]
        exact ⟨⟨by omega, c3⟩, rfl⟩
      · exact absurd (show (2 : Nat) = 0 from hz) (by decide)
    · exact absurd (show (1 : Nat) = 0 from hz) (by decide)
  · next c =>
    rw [if_neg c]
    exact rfl
theorem cPow_h {B : Nat} {one : Lx → CR} (ho : HP B one) : HP B (cPow tx len one) := fun L t ht hz => by
  unfold cPow at hz ⊢
  split at hz
  · next c =>
    rw [if_pos c]
    exact (ho L t ht c).app (cPw2_h B _ t ht hz)
  · next c => exact absurd hz c
theorem cProL_h {B : Nat} {one : Lx → CR} (ho : HP (B + 1) one) : ∀ f, HG B (cProL tx len one f)
  | 0, L, t, ht, hz => rfl
  | f + 1, L, t, ht, hz => by
    unfold cProL at hz ⊢
    split at hz
    · next c =>
      rw [if_pos c]
      split at hz
      · next c2 =>
        rw [if_pos c2]
        refine (cPow_h ho _ (t + 1) (by omega) c2).app ?_
        show (2 ≤ t + 1 + 1 ∧ 5 < 6) ∧ Hok _ (t + 1 + 1 - 1) (t + 1)
        exact ⟨⟨by omega, by omega⟩, cProL_h ho f _ t ht hz⟩
      · next c2 => exact absurd hz c2
    · next c =>
      rw [if_neg c]
      exact rfl
theorem HP.mono {A B : Nat} (h : A ≤ B) {one : Lx → CR} (ho : HP B one) : HP A one := fun L t ht hz => ho L t (by omega) hz
theorem cPro_h {B : Nat} {one : Lx → CR} (ho : HP (B + 1) one) : HP B (cPro tx len one) := fun L t ht hz => by
  unfold cPro at hz ⊢
  split at hz
  · next c =>
    rw [if_pos c]
    exact (cPow_h (ho.mono (by omega)) L t ht c).app (cProL_h ho 300 _ t ht hz)
  · next c => exact absurd hz c
theorem cSumL_h {B : Nat} {one : Lx → CR} (ho : HP (B + 2) one) : ∀ f, HG B (cSumL tx len one f)
  | 0, L, t, ht, hz => rfl
  | f + 1, L, t, ht, hz => by
    unfold cSumL at hz ⊢
    split at hz
    · next c =>
      rw [if_pos c]
      split at hz
      · next c2 =>
        rw [if_pos c2]
        refine (cPro_h (B := B + 1) ho _ (t + 1) (by omega) c2).app ?_
        have key : ∀ o : Nat, (o = 3 ∨ o = 4) → Hok ((o, 0) :: (cSumL tx len one f (cPro tx len one (stp tx len L)).2.1).2.2) (t + 1 + 1) (t + 1) := fun o ho2 => by
          show (if o = 0 ∨ o = 1 then _ else if o = 2 ∨ o = 6 then _ else (2 ≤ t + 1 + 1 ∧ o < 6) ∧ Hok _ (t + 1 + 1 - 1) (t + 1))
          rw [if_neg (by omega), if_neg (by omega)]
          exact ⟨⟨by omega, by omega⟩, cSumL_h ho f _ t ht hz⟩
        refine key _ ?_
        split <;> omega
      · next c2 => exact absurd hz c2
    · next c =>
      rw [if_neg c]
      exact rfl
theorem cSum_h {B : Nat} {one : Lx → CR} (ho : HP (B + 2) one) : HP B (cSum tx len one) := fun L t ht hz => by
  unfold cSum at hz ⊢
  split at hz
  · next c =>
    rw [if_pos c]
    exact (cPro_h (ho.mono (by omega)) L t ht c).app (cSumL_h ho 300 _ t ht hz)
  · next c => exact absurd hz c
theorem cLeaf_h {B : Nat} (hB : B < 40) : HP B (cLeaf tx len) := fun L t ht hz => by
  unfold cLeaf at hz ⊢
  split at hz
  · next c =>
    rw [if_pos c]
    split at hz
    · next c2 =>
      rw [if_pos c2]
      exact ⟨⟨by omega, c2⟩, rfl⟩
    · exact absurd (show (2 : Nat) = 0 from hz) (by decide)
  · next c =>
    rw [if_neg c]
    split at hz
    · next c2 =>
      rw [if_pos c2]
      exact ⟨⟨by omega, Nat.zero_le _⟩, rfl⟩
    · exact absurd (show (1 : Nat) = 0 from hz) (by decide)
theorem cOne_h : ∀ (k B : Nat), B + 2 * k < 40 → HP B (cOne tx len k)
  | 0, B, hB, L, t, ht, hz => by
    unfold cOne at hz ⊢
    split at hz
    · exact absurd (show (3 : Nat) = 0 from hz) (by decide)
    · next c =>
      rw [if_neg c]
      exact cLeaf_h (by omega) L t ht hz
  | k + 1, B, hB, L, t, ht, hz => by
    unfold cOne at hz ⊢
    split at hz
    · next c =>
      rw [if_pos c]
      split at hz
      · next c2 =>
        rw [if_pos c2]
        split at hz
        · next c3 =>
          rw [if_pos c3]
          exact cSum_h (cOne_h k (B + 2) (by omega)) _ t ht c2
        · exact absurd (show (1 : Nat) = 0 from hz) (by decide)
      · next c2 => exact absurd hz c2
    · next c =>
      rw [if_neg c]
      split at hz
      · next c1 =>
        rw [if_pos c1]
        split at hz
        · next c2 =>
          rw [if_pos c2]
          refine (cOne_h k B (by omega) _ t ht c2).app ?_
          exact ⟨⟨by omega, Nat.zero_le _⟩, rfl⟩
        · next c2 => exact absurd hz c2
      · next c1 =>
        rw [if_neg c1]
        exact cLeaf_h (by omega) L t ht hz
end HOK
section EVS
variable {q m d n : Nat}
theorem rsl_pwc {f : Nat → Nat} {t : Nat} : ∀ (r : Nat) (g : Nat → Nat) (L : Lx) (S : Nat → Nat → Nat) (F A : Nat), S t = g → S (t + 1) = f →
    (pwc q m d f r g = none → sK (rsl true q m d t r (L, false, S, F, A)) = true) ∧ (∀ g1, pwc q m d f r g = some g1 → ∃ S1, rsl true q m d t r (L, false, S, F, A) = (L, false, S1, F, A) ∧ S1 t = g1 ∧ ∀ j, j ≠ t → S1 j = S j)
  | 0, g, L, S, F, A, hg, hf => ⟨fun z => absurd (show some g = none from z) (by simp), fun g1 z => by
      injection z with z1
      exact ⟨S, rfl, by rw [hg, z1], fun _ _ => rfl⟩⟩
  | r + 1, g, L, S, F, A, hg, hf => by
    have e : rsl true q m d t (r + 1) (L, false, S, F, A) = rsl true q m d t r (mulS true q m d (L, false, S, F, A) t) := rfl
    have e2 : mulS true q m d (L, false, S, F, A) t = if 0 < rl g 25 ∧ 0 < rl f 25 ∧ 26 < rl g 25 + rl f 25 then (L, true, S, F, A) else (L, false, upR S t (cv q m d g f), F, A) := by
      rw [← hg, ← hf]
      rfl
    have e3 : pwc q m d f (r + 1) g = if 0 < rl g 25 ∧ 0 < rl f 25 ∧ 26 < rl g 25 + rl f 25 then none else pwc q m d f r (cv q m d g f) := rfl
    rw [e, e2, e3]
    by_cases c : 0 < rl g 25 ∧ 0 < rl f 25 ∧ 26 < rl g 25 + rl f 25
    · rw [if_pos c, if_pos c]
      refine ⟨fun _ => ?_, fun g1 z => absurd z (by simp)⟩
      have st : ∀ r, rsl true q m d t r (L, true, S, F, A) = (L, true, S, F, A) := fun r => by
        induction r with
        | zero => rfl
        | succ r ih => exact ih
      rw [st]
    · rw [if_neg c, if_neg c]
      have hf1 : upR S t (cv q m d g f) (t + 1) = f := by rw [upR_ne (by omega)]; exact hf
      obtain ⟨a1, a2⟩ := rsl_pwc r (cv q m d g f) L (upR S t (cv q m d g f)) F A upR_eq hf1
      refine ⟨a1, fun g1 z => ?_⟩
      obtain ⟨S1, b1, b2, b3⟩ := a2 g1 z
      exact ⟨S1, b1, b2, fun j hj => by rw [b3 j hj, upR_ne hj]⟩
/-- stuck stays stuck -/
theorem exO_stuck (c : Nat × Nat) (z : Nat × RS) (h : z.2.1 = true) : (exO true q m d n c z).2.1 = true := by
  obtain ⟨t, K, S, F, A⟩ := z
  have h1 : K = true := h
  subst h1
  have hw : ∀ L : Lx, ¬ wk true (L, true, S, F, A) = true := fun L => by show ¬ (true && !true) = true; decide
  unfold exO
  dsimp only
  split
  · split
    · unfold putS
      rw [if_neg (hw _)]
    · unfold putS
      rw [if_neg (hw _)]
  · split
    · unfold putS
      rw [if_neg (hw _)]
    · split
      · unfold turnS
        rw [if_neg (hw _)]
      · split
        · unfold raiseS
          rw [if_neg (hw _)]
        · split
          · unfold mulS
            rw [if_neg (hw _)]
          · unfold addS
            rw [if_neg (hw _)]
theorem exL_stuck : ∀ (C : List (Nat × Nat)) (z : Nat × RS), z.2.1 = true → (exL true q m d n C z).2.1 = true
  | [], z, h => h
  | c :: C, z, h => exL_stuck C _ (exO_stuck c z h)
/-- the class's and the code's values, below h -/
def Eqh (h : Nat) (S T : Nat → Nat → Nat) : Prop := ∀ i, i < h → S i = T i
theorem exO_ev {c : Nat × Nat} {C : List (Nat × Nat)} {h h1 : Nat} {S T : Nat → Nat → Nat} {F A : Nat} (hok : Hok (c :: C) h h1) (he : Eqh h S T) :
    (evO q m d n c (h, T) = none → (exO true q m d n c (h, (false, S, F, A))).2.1 = true) ∧ (∀ z, evO q m d n c (h, T) = some z → ∃ S1, exO true q m d n c (h, (false, S, F, A)) = (z.1, (false, S1, F, A)) ∧ Eqh z.1 S1 z.2 ∧ Hok C z.1 h1) := by
  have hok1 : (if c.1 = 0 ∨ c.1 = 1 then (h < 40 ∧ c.2 ≤ 9999) ∧ Hok C (h + 1) h1 else if c.1 = 2 ∨ c.1 = 6 then (1 ≤ h ∧ c.2 ≤ 24) ∧ Hok C h h1 else (2 ≤ h ∧ c.1 < 6) ∧ Hok C (h - 1) h1) := hok
  have hw : ∀ (S : Nat → Nat → Nat), wk true (L00, false, S, F, A) = true := fun S => rfl
  have push : ∀ (i x : Nat), Eqh (h + 1) (upR S h (fun k => if k = i then x else 0)) (upR T h (fun k => if k = i then x else 0)) := fun i x j hj => by
    by_cases c1 : j = h
    · rw [c1, upR_eq, upR_eq]
    · rw [upR_ne c1, upR_ne c1]
      exact he j (by omega)
  unfold exO evO
  dsimp only
  by_cases c0 : c.1 = 0
  · rw [if_pos c0, if_pos c0]
    rw [if_pos (Or.inl c0)] at hok1
    by_cases c2 : n ≤ c.2
    · rw [if_pos c2, if_pos ⟨rfl, c2⟩]
      exact ⟨fun _ => rfl, fun z hz => absurd hz (by simp)⟩
    · rw [if_neg c2, if_neg (fun z => c2 z.2)]
      refine ⟨fun z => absurd z (by simp), fun z hz => ?_⟩
      injection hz with hz1
      subst hz1
      exact ⟨_, rfl, push 0 c.2, hok1.2⟩
  rw [if_neg c0, if_neg c0]
  by_cases c1 : c.1 = 1
  · rw [if_pos c1, if_pos c1]
    rw [if_pos (Or.inr c1)] at hok1
    refine ⟨fun z => absurd z (by simp), fun z hz => ?_⟩
    injection hz with hz1
    subst hz1
    exact ⟨_, rfl, push 1 1, hok1.2⟩
  rw [if_neg c1, if_neg c1]
  rw [if_neg (by omega)] at hok1
  by_cases c2 : c.1 = 2
  · rw [if_pos c2, if_pos c2]
    rw [if_pos (Or.inl c2)] at hok1
    refine ⟨fun z => absurd z (by simp), fun z hz => ?_⟩
    injection hz with hz1
    subst hz1
    refine ⟨_, rfl, fun j hj => ?_, hok1.2⟩
    show upR (upR S (h - 1 + 1) (S (h - 1))) (h - 1) _ j = upR T (h - 1) _ j
    have hj2 : j < h := hj
    by_cases c3 : j = h - 1
    · subst c3
      rw [upR_eq, upR_eq]
      show (fun k => cmb q (q - 1) 13 0 (S (h - 1) k)) = _
      rw [he (h - 1) (by omega)]
    · rw [upR_ne c3, upR_ne c3, upR_ne (by omega)]
      exact he j (by omega)
  rw [if_neg c2, if_neg c2]
  by_cases c6 : c.1 = 6
  · rw [if_pos c6, if_pos c6]
    rw [if_pos (Or.inr c6)] at hok1
    have e1 : raiseS true q m d (L00, false, S, F, A) (h - 1) c.2 = rsl true q m d (h - 1) c.2 (L00, false, upR (upR S (h - 1 + 1) (S (h - 1))) (h - 1) (r1 1), F, A) := rfl
    rw [e1, ← he (h - 1) (by omega)]
    obtain ⟨a1, a2⟩ := rsl_pwc (q := q) (m := m) (d := d) (f := S (h - 1)) (t := h - 1) c.2 (r1 1) L00 (upR (upR S (h - 1 + 1) (S (h - 1))) (h - 1) (r1 1)) F A upR_eq (by rw [upR_ne (by omega), upR_eq])
    cases hp : pwc q m d (S (h - 1)) c.2 (r1 1) with
    | none => exact ⟨fun _ => a1 hp, fun z hz => absurd (show (none : Option ES) = some z from hz) (by simp)⟩
    | some g =>
      refine ⟨fun z => absurd (show some (h, upR T (h - 1) g) = none from z) (by simp), fun z hz => ?_⟩
      have hz2 : some (h, upR T (h - 1) g) = some z := hz
      injection hz2 with hz1
      subst hz1
      obtain ⟨S1, b1, b2, b3⟩ := a2 g hp
      rw [b1]
      refine ⟨S1, rfl, fun j hj => ?_, hok1.2⟩
      have hj2 : j < h := hj
      show S1 j = upR T (h - 1) g j
      by_cases c3 : j = h - 1
      · subst c3
        rw [b2, upR_eq]
      · rw [b3 j c3, upR_ne c3, upR_ne c3, upR_ne (by omega)]
        exact he j hj2
  rw [if_neg c6, if_neg c6]
  rw [if_neg (by omega)] at hok1
  have h2 : h - 2 + 1 = h - 1 := by omega
  by_cases c5 : c.1 = 5
  · rw [if_pos c5, if_pos c5]
    have e1 : mulS true q m d (L00, false, S, F, A) (h - 2) = if 0 < rl (S (h - 2)) 25 ∧ 0 < rl (S (h - 2 + 1)) 25 ∧ 26 < rl (S (h - 2)) 25 + rl (S (h - 2 + 1)) 25 then (L00, true, S, F, A) else (L00, false, upR S (h - 2) (cv q m d (S (h - 2)) (S (h - 2 + 1))), F, A) := rfl
    rw [e1, h2, he (h - 2) (by omega), he (h - 1) (by omega)]
    by_cases c3 : 0 < rl (T (h - 2)) 25 ∧ 0 < rl (T (h - 1)) 25 ∧ 26 < rl (T (h - 2)) 25 + rl (T (h - 1)) 25
    · rw [if_pos c3, if_pos c3]
      exact ⟨fun _ => rfl, fun z hz => absurd hz (by simp)⟩
    · rw [if_neg c3, if_neg c3]
      refine ⟨fun z => absurd z (by simp), fun z hz => ?_⟩
      injection hz with hz1
      subst hz1
      refine ⟨_, rfl, fun j hj => ?_, hok1.2⟩
      have hj2 : j < h - 1 := hj
      show upR S (h - 2) _ j = upR T (h - 2) _ j
      by_cases c4 : j = h - 2
      · rw [c4, upR_eq, upR_eq]
      · rw [upR_ne c4, upR_ne c4]
        exact he j (by omega)
  · rw [if_neg c5, if_neg c5]
    refine ⟨fun z => absurd z (by simp), fun z hz => ?_⟩
    injection hz with hz1
    subst hz1
    refine ⟨_, rfl, fun j hj => ?_, hok1.2⟩
    have hj2 : j < h - 1 := hj
    show upR S (h - 2) (fun k => cmb q (if decide (c.1 = 4) = true then q - 1 else 1) 13 (S (h - 2) k) (S (h - 2 + 1) k)) j = upR T (h - 2) _ j
    by_cases c4 : j = h - 2
    · rw [c4, upR_eq, upR_eq, h2, he (h - 2) (by omega), he (h - 1) (by omega)]
      by_cases c7 : c.1 = 4
      · rw [if_pos c7, decide_eq_true c7, if_pos rfl]
      · rw [if_neg c7, decide_eq_false c7, if_neg Bool.false_ne_true]
    · rw [upR_ne c4, upR_ne c4]
      exact he j (by omega)
theorem exL_ev : ∀ (C : List (Nat × Nat)) (h h1 : Nat) (S T : Nat → Nat → Nat) (F A : Nat), Hok C h h1 → Eqh h S T →
    (evL q m d n C (h, T) = none → (exL true q m d n C (h, (false, S, F, A))).2.1 = true) ∧ (∀ z, evL q m d n C (h, T) = some z → ∃ S1, exL true q m d n C (h, (false, S, F, A)) = (z.1, (false, S1, F, A)) ∧ Eqh z.1 S1 z.2 ∧ z.1 = h1)
  | [], h, h1, S, T, F, A, hok, he => ⟨fun z => absurd (show some (h, T) = none from z) (by simp), fun z hz => by
      have hz2 : some (h, T) = some z := hz
      injection hz2 with hz1
      subst hz1
      exact ⟨S, rfl, he, hok⟩⟩
  | c :: C, h, h1, S, T, F, A, hok, he => by
    obtain ⟨a1, a2⟩ := exO_ev (q := q) (m := m) (d := d) (n := n) (F := F) (A := A) hok he
    have e : evL q m d n (c :: C) (h, T) = evB (evO q m d n c (h, T)) (evL q m d n C) := rfl
    have e2 : exL true q m d n (c :: C) (h, (false, S, F, A)) = exL true q m d n C (exO true q m d n c (h, (false, S, F, A))) := rfl
    rw [e, e2]
    cases hv : evO q m d n c (h, T) with
    | none => exact ⟨fun _ => exL_stuck C _ (a1 hv), fun z hz => absurd (show (none : Option ES) = some z from hz) (by simp)⟩
    | some z =>
      obtain ⟨S1, b1, b2, b3⟩ := a2 z hv
      rw [b1]
      obtain ⟨h2, T2⟩ := z
      exact exL_ev C h2 h1 S1 T2 F A b3 b2
end EVS
