/-! texts: the code of a text by descent, and by a pile -/
abbrev CR : Type := Nat × Lx × List (Nat × Nat)
section CRD
variable (tx : Nat → Nat) (len : Nat)
def cPw2 (L : Lx) : CR := if L.1 = 94 then (if (stp tx len L).1 = 2 then (if (stp tx len L).2.2.1 ≤ 24 then (0, stp tx len (stp tx len L), [(6, (stp tx len L).2.2.1)]) else (2, stp tx len L, [])) else (1, stp tx len L, [])) else (0, L, [])
def cPow (one : Lx → CR) (L : Lx) : CR := if (one L).1 = 0 then ((cPw2 tx len (one L).2.1).1, (cPw2 tx len (one L).2.1).2.1, (one L).2.2 ++ (cPw2 tx len (one L).2.1).2.2) else one L
def cProL (one : Lx → CR) : Nat → Lx → CR
  | 0, L => (0, L, [])
  | f + 1, L => if L.1 = 42 then (if (cPow tx len one (stp tx len L)).1 = 0 then ((cProL one f (cPow tx len one (stp tx len L)).2.1).1, (cProL one f (cPow tx len one (stp tx len L)).2.1).2.1, (cPow tx len one (stp tx len L)).2.2 ++ (5, 0) :: (cProL one f (cPow tx len one (stp tx len L)).2.1).2.2) else cPow tx len one (stp tx len L)) else (0, L, [])
def cPro (one : Lx → CR) (L : Lx) : CR := if (cPow tx len one L).1 = 0 then ((cProL tx len one 300 (cPow tx len one L).2.1).1, (cProL tx len one 300 (cPow tx len one L).2.1).2.1, (cPow tx len one L).2.2 ++ (cProL tx len one 300 (cPow tx len one L).2.1).2.2) else cPow tx len one L
def cSumL (one : Lx → CR) : Nat → Lx → CR
  | 0, L => (0, L, [])
  | f + 1, L => if L.1 = 43 ∨ L.1 = 45 then (if (cPro tx len one (stp tx len L)).1 = 0 then ((cSumL one f (cPro tx len one (stp tx len L)).2.1).1, (cSumL one f (cPro tx len one (stp tx len L)).2.1).2.1, (cPro tx len one (stp tx len L)).2.2 ++ (if L.1 = 45 then 4 else 3, 0) :: (cSumL one f (cPro tx len one (stp tx len L)).2.1).2.2) else cPro tx len one (stp tx len L)) else (0, L, [])
def cSum (one : Lx → CR) (L : Lx) : CR := if (cPro tx len one L).1 = 0 then ((cSumL tx len one 300 (cPro tx len one L).2.1).1, (cSumL tx len one 300 (cPro tx len one L).2.1).2.1, (cPro tx len one L).2.2 ++ (cSumL tx len one 300 (cPro tx len one L).2.1).2.2) else cPro tx len one L
def cLeaf (L : Lx) : CR := if L.1 = 2 then (if L.2.2.1 ≤ 9999 then (0, stp tx len L, [(0, L.2.2.1)]) else (2, L, [])) else if isw tx L wT = true then (0, stp tx len L, [(1, 0)]) else (1, L, [])
def cOne : Nat → Lx → CR
  | 0, L => if L.1 = 40 ∨ L.1 = 45 then (3, L, []) else cLeaf tx len L
  | k + 1, L => if L.1 = 40 then (if (cSum tx len (cOne k) (stp tx len L)).1 = 0 then (if (cSum tx len (cOne k) (stp tx len L)).2.1.1 = 41 then (0, stp tx len (cSum tx len (cOne k) (stp tx len L)).2.1, (cSum tx len (cOne k) (stp tx len L)).2.2) else (1, (cSum tx len (cOne k) (stp tx len L)).2.1, [])) else cSum tx len (cOne k) (stp tx len L))
    else if L.1 = 45 then (if (cOne k (stp tx len L)).1 = 0 then (0, (cOne k (stp tx len L)).2.1, (cOne k (stp tx len L)).2.2 ++ [(2, 0)]) else cOne k (stp tx len L))
    else cLeaf tx len L
/-- where reading stands: a token, its place -/
def Lgd (L : Lx) : Prop := Lok len L ∧ (L.1 ≠ 0 → L.2.1 < L.2.2.2 ∧ L.2.1 < len)
end CRD
section LGD
variable {tx : Nat → Nat} {len : Nat}
theorem nme_gt {p v : Nat} (hp : p < len) (hb : bD (tx p) = true) (hv : v ≤ 10000) : ∀ f, p < (nme tx len (f + 1) p v).2 := fun f => by
  have e : nme tx len (f + 1) p v = if len ≤ p then (v, p) else if bD (tx p) = true then nme tx len f (p + 1) (min 10000 (v * 10 + tx p - 48)) else (v, p) := rfl
  rw [e, if_neg (by omega), if_pos hb]
  have := (nme_le (tx := tx) (len := len) f (p + 1) (min 10000 (v * 10 + tx p - 48)) (by omega) (by omega)).1
  omega
theorem lte_gt {p : Nat} (hp : p < len) (hb : bL (tx p) = true) : ∀ f, p < lte tx len (f + 1) p := fun f => by
  have e : lte tx len (f + 1) p = if len ≤ p then p else if bL (tx p) = true then lte tx len f (p + 1) else p := rfl
  rw [e, if_neg (by omega), if_pos hb]
  have := (lte_le (tx := tx) (len := len) f (p + 1) (by omega)).1
  omega
theorem tkn_gd {p v : Nat} (ht : ∀ i, tx i < 256) (hp : p ≤ len) (hv : v ≤ 10000) : Lgd len (tkn tx len p v) ∧ (tkn tx len p v).2.1 = p := by
  refine ⟨⟨tkn_ok ht hp hv, fun h => ?_⟩, ?_⟩
  · unfold tkn at h ⊢
    by_cases c : len ≤ p
    · rw [if_pos c] at h
      exact absurd rfl h
    rw [if_neg c] at h ⊢
    obtain ⟨f, hf⟩ : ∃ f, len - p = f + 1 := ⟨len - p - 1, by omega⟩
    by_cases c1 : bD (tx p) = true
    · rw [if_pos c1]
      refine ⟨?_, by show p < len; omega⟩
      show p < (nme tx len (len - p) p 0).2
      rw [hf]
      exact nme_gt (by omega) c1 (by omega) f
    rw [if_neg c1]
    by_cases c2 : bL (tx p) = true
    · rw [if_pos c2]
      refine ⟨?_, by show p < len; omega⟩
      show p < lte tx len (len - p) p
      rw [hf]
      exact lte_gt (by omega) c2 f
    rw [if_neg c2]
    split
    · exact ⟨Nat.lt_succ_self p, by show p < len; omega⟩
    · exact ⟨Nat.lt_succ_self p, by show p < len; omega⟩
  · unfold tkn
    split
    · rfl
    split
    · rfl
    split
    · rfl
    split <;> rfl
theorem stp_gd (ht : ∀ i, tx i < 256) {L : Lx} (h : Lgd len L) : Lgd len (stp tx len L) ∧ L.2.2.2 ≤ (stp tx len L).2.1 := by
  obtain ⟨a, -, b, c⟩ := h.1
  have hs := skp_le (tx := tx) (len - L.2.2.2) L.2.2.2 c
  obtain ⟨g1, g2⟩ := tkn_gd (v := L.2.2.1) ht hs.2 b
  refine ⟨g1, ?_⟩
  show _ ≤ (tkn tx len _ _).2.1
  rw [g2]
  exact hs.1
theorem stp_adv (ht : ∀ i, tx i < 256) {L : Lx} (h : Lgd len L) (h0 : L.1 ≠ 0) : L.2.1 < (stp tx len L).2.1 := by
  have h1 := (stp_gd ht h).2
  have h2 := (h.2 h0).1
  omega
/-- a piece of the descent goes on -/
def Adv (len : Nat) (one : Lx → CR) : Prop := ∀ L, Lgd len L → Lgd len (one L).2.1 ∧ L.2.1 ≤ (one L).2.1.2.1
theorem cPw2_adv (ht : ∀ i, tx i < 256) : Adv len (cPw2 tx len) := fun L h => by
  unfold cPw2
  by_cases c : L.1 = 94
  · rw [if_pos c]
    obtain ⟨a, b⟩ := stp_gd ht h
    obtain ⟨a2, b2⟩ := stp_gd ht a
    have h0 := (h.2 (by omega)).1
    have hl := a.1.2.1
    split
    · split
      · exact ⟨a2, by show _ ≤ (stp tx len (stp tx len L)).2.1; omega⟩
      · exact ⟨a, by show _ ≤ (stp tx len L).2.1; omega⟩
    · exact ⟨a, by show _ ≤ (stp tx len L).2.1; omega⟩
  · rw [if_neg c]
    exact ⟨h, Nat.le_refl _⟩
theorem cPow_adv (ht : ∀ i, tx i < 256) {one : Lx → CR} (ho : Adv len one) : Adv len (cPow tx len one) := fun L h => by
  obtain ⟨a, b⟩ := ho L h
  unfold cPow
  split
  · obtain ⟨a2, b2⟩ := cPw2_adv ht _ a
    exact ⟨a2, Nat.le_trans b b2⟩
  · exact ⟨a, b⟩
theorem cProL_adv (ht : ∀ i, tx i < 256) {one : Lx → CR} (ho : Adv len one) : ∀ f, Adv len (cProL tx len one f)
  | 0, L, h => ⟨h, Nat.le_refl _⟩
  | f + 1, L, h => by
    unfold cProL
    by_cases c : L.1 = 42
    · rw [if_pos c]
      obtain ⟨a, b⟩ := stp_gd ht h
      have h0 := (h.2 (by omega)).1
      obtain ⟨a2, b2⟩ := cPow_adv ht ho _ a
      split
      · obtain ⟨a3, b3⟩ := cProL_adv ht ho f _ a2
        exact ⟨a3, by show _ ≤ (cProL tx len one f _).2.1.2.1; omega⟩
      · exact ⟨a2, by omega⟩
    · rw [if_neg c]
      exact ⟨h, Nat.le_refl _⟩
theorem cPro_adv (ht : ∀ i, tx i < 256) {one : Lx → CR} (ho : Adv len one) : Adv len (cPro tx len one) := fun L h => by
  obtain ⟨a, b⟩ := cPow_adv ht ho L h
  unfold cPro
  split
  · obtain ⟨a2, b2⟩ := cProL_adv ht ho 300 _ a
    exact ⟨a2, Nat.le_trans b b2⟩
  · exact ⟨a, b⟩
theorem cSumL_adv (ht : ∀ i, tx i < 256) {one : Lx → CR} (ho : Adv len one) : ∀ f, Adv len (cSumL tx len one f)
  | 0, L, h => ⟨h, Nat.le_refl _⟩
  | f + 1, L, h => by
    unfold cSumL
    by_cases c : L.1 = 43 ∨ L.1 = 45
    · rw [if_pos c]
      obtain ⟨a, b⟩ := stp_gd ht h
      have h0 := (h.2 (by omega)).1
      obtain ⟨a2, b2⟩ := cPro_adv ht ho _ a
      split
      · obtain ⟨a3, b3⟩ := cSumL_adv ht ho f _ a2
        exact ⟨a3, by show _ ≤ (cSumL tx len one f _).2.1.2.1; omega⟩
      · exact ⟨a2, by omega⟩
    · rw [if_neg c]
      exact ⟨h, Nat.le_refl _⟩
theorem cSum_adv (ht : ∀ i, tx i < 256) {one : Lx → CR} (ho : Adv len one) : Adv len (cSum tx len one) := fun L h => by
  obtain ⟨a, b⟩ := cPro_adv ht ho L h
  unfold cSum
  split
  · obtain ⟨a2, b2⟩ := cSumL_adv ht ho 300 _ a
    exact ⟨a2, Nat.le_trans b b2⟩
  · exact ⟨a, b⟩
theorem cLeaf_adv (ht : ∀ i, tx i < 256) : Adv len (cLeaf tx len) := fun L h => by
  unfold cLeaf
  obtain ⟨a, b⟩ := stp_gd ht h
  have hl := h.1.2.1
  split
  · split
    · exact ⟨a, by show _ ≤ (stp tx len L).2.1; omega⟩
    · exact ⟨h, Nat.le_refl _⟩
  · split
    · exact ⟨a, by show _ ≤ (stp tx len L).2.1; omega⟩
    · exact ⟨h, Nat.le_refl _⟩
theorem cOne_adv (ht : ∀ i, tx i < 256) : ∀ k, Adv len (cOne tx len k)
  | 0, L, h => by
    unfold cOne
    split
    · exact ⟨h, Nat.le_refl _⟩
    · exact cLeaf_adv ht L h
  | k + 1, L, h => by
    unfold cOne
    obtain ⟨a, b⟩ := stp_gd ht h
    have hl := h.1.2.1
    split
    · obtain ⟨a2, b2⟩ := cSum_adv ht (cOne_adv ht k) _ a
      split
      · split
        · obtain ⟨a3, b3⟩ := stp_gd ht a2
          have hl2 := a2.1.2.1
          exact ⟨a3, by show _ ≤ (stp tx len _).2.1; omega⟩
        · exact ⟨a2, by show _ ≤ (cSum tx len (cOne tx len k) (stp tx len L)).2.1.2.1; omega⟩
      · exact ⟨a2, by omega⟩
    · split
      · obtain ⟨a2, b2⟩ := cOne_adv ht k _ a
        split
        · exact ⟨a2, by show _ ≤ (cOne tx len k (stp tx len L)).2.1.2.1; omega⟩
        · exact ⟨a2, by omega⟩
      · exact cLeaf_adv ht L h
end LGD
