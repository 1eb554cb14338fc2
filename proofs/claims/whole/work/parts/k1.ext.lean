/-! the reader reads no more than the text -/
section EXT
variable {tx tz : Nat → Nat} {len : Nat}
def Wk (len : Nat) (L : Lx) : Prop := L.1 = 3 → L.2.2.2 ≤ len
theorem skp_ext (hx : ∀ i, i < len → tx i = tz i) : ∀ f p, skp tx len f p = skp tz len f p
  | 0, p => rfl
  | f + 1, p => by
    unfold skp
    by_cases c : len ≤ p
    · rw [if_pos c, if_pos c]
    · rw [if_neg c, if_neg c, hx p (by omega), skp_ext hx f]
theorem lte_ext (hx : ∀ i, i < len → tx i = tz i) : ∀ f p, lte tx len f p = lte tz len f p
  | 0, p => rfl
  | f + 1, p => by
    unfold lte
    by_cases c : len ≤ p
    · rw [if_pos c, if_pos c]
    · rw [if_neg c, if_neg c, hx p (by omega), lte_ext hx f]
theorem nme_ext (hx : ∀ i, i < len → tx i = tz i) : ∀ f p v, nme tx len f p v = nme tz len f p v
  | 0, p, v => rfl
  | f + 1, p, v => by
    unfold nme
    by_cases c : len ≤ p
    · rw [if_pos c, if_pos c]
    · rw [if_neg c, if_neg c, hx p (by omega), nme_ext hx f]
theorem lte_in : ∀ f p, p ≤ len → lte tx len f p ≤ len
  | 0, p, h => h
  | f + 1, p, h => by
    unfold lte
    split
    · exact h
    · split
      · exact lte_in f (p + 1) (by omega)
      · exact h
theorem stp_ext (hx : ∀ i, i < len → tx i = tz i) (L : Lx) : stp tx len L = stp tz len L := by
  unfold stp
  rw [skp_ext hx]
  unfold tkn
  generalize skp tz len (len - L.2.2.2) L.2.2.2 = p
  by_cases c : len ≤ p
  · rw [if_pos c, if_pos c]
  · rw [if_neg c, if_neg c, hx p (by omega), nme_ext hx, lte_ext hx]
theorem bS3 {v : Nat} (h : bS v = true) : v ≠ 3 := fun z => by
  subst z
  exact absurd h (by decide)
theorem stp_wk (L : Lx) : Wk len (stp tx len L) := by
  unfold stp tkn
  generalize skp tx len (len - L.2.2.2) L.2.2.2 = p
  by_cases c : len ≤ p
  · rw [if_pos c]
    exact fun z => absurd (show (0 : Nat) = 3 from z) (by decide)
  · rw [if_neg c]
    by_cases c1 : bD (tx p) = true
    · rw [if_pos c1]
      exact fun z => absurd (show (2 : Nat) = 3 from z) (by decide)
    · rw [if_neg c1]
      by_cases c2 : bL (tx p) = true
      · rw [if_pos c2]
        exact fun _ => lte_in _ p (by omega)
      · rw [if_neg c2]
        by_cases c3 : bS (tx p) = true
        · rw [if_pos c3]
          exact fun z => absurd (show tx p = 3 from z) (bS3 c3)
        · rw [if_neg c3]
          exact fun z => absurd (show (1 : Nat) = 3 from z) (by decide)
theorem wbl_ext (ws : List Nat) (p : Nat) : ∀ f i, (∀ j, p ≤ j → j < p + i + f → tx j = tz j) → wbl tx ws p f i = wbl tz ws p f i
  | 0, i, _ => rfl
  | f + 1, i, h => by
    unfold wbl
    rw [h (p + i) (by omega) (by omega), wbl_ext ws p f (i + 1) (fun j j1 j2 => h j j1 (by omega))]
theorem isw_ext (hx : ∀ i, i < len → tx i = tz i) {L : Lx} (h : Wk len L) (ws : List Nat) : isw tx L ws = isw tz L ws := by
  unfold isw
  by_cases c : L.1 = 3 ∧ L.2.2.2 - L.2.1 = ws.length
  · have h3 := h c.1
    rw [wbl_ext ws L.2.1 ws.length 0 (fun j j1 j2 => hx j (by omega))]
  · rw [decide_eq_false c]
    rfl
def XE (len : Nat) (one onz : Lx → CR) : Prop := ∀ L, Wk len L → one L = onz L ∧ Wk len (onz L).2.1
theorem cPw2_ext (hx : ∀ i, i < len → tx i = tz i) : XE len (cPw2 tx len) (cPw2 tz len) := fun L hL => by
  have e : stp tx len = stp tz len := funext (stp_ext hx)
  unfold cPw2
  rw [e]
  refine ⟨rfl, ?_⟩
  split
  · split
    · split
      · exact stp_wk _
      · exact stp_wk _
    · exact stp_wk _
  · exact hL
theorem cPow_ext (hx : ∀ i, i < len → tx i = tz i) {one onz : Lx → CR} (ho : XE len one onz) : XE len (cPow tx len one) (cPow tz len onz) := fun L hL => by
  obtain ⟨a1, a2⟩ := ho L hL
  unfold cPow
  rw [a1, (cPw2_ext hx _ a2).1]
  refine ⟨rfl, ?_⟩
  split
  · exact (cPw2_ext hx _ a2).2
  · exact a2
theorem cProL_ext (hx : ∀ i, i < len → tx i = tz i) {one onz : Lx → CR} (ho : XE len one onz) : ∀ f, XE len (cProL tx len one f) (cProL tz len onz f)
  | 0 => fun L hL => ⟨rfl, hL⟩
  | f + 1 => fun L hL => by
    unfold cProL
    obtain ⟨a1, a2⟩ := cPow_ext hx ho (stp tz len L) (stp_wk L)
    obtain ⟨b1, b2⟩ := cProL_ext hx ho f _ a2
    rw [stp_ext hx, a1, b1]
    refine ⟨rfl, ?_⟩
    split
    · split
      · exact b2
      · exact a2
    · exact hL
theorem cPro_ext (hx : ∀ i, i < len → tx i = tz i) {one onz : Lx → CR} (ho : XE len one onz) : XE len (cPro tx len one) (cPro tz len onz) := fun L hL => by
  obtain ⟨a1, a2⟩ := cPow_ext hx ho L hL
  obtain ⟨b1, b2⟩ := cProL_ext hx ho 300 _ a2
  unfold cPro
  rw [a1, b1]
  refine ⟨rfl, ?_⟩
  split
  · exact b2
  · exact a2
theorem cSumL_ext (hx : ∀ i, i < len → tx i = tz i) {one onz : Lx → CR} (ho : XE len one onz) : ∀ f, XE len (cSumL tx len one f) (cSumL tz len onz f)
  | 0 => fun L hL => ⟨rfl, hL⟩
  | f + 1 => fun L hL => by
    unfold cSumL
    obtain ⟨a1, a2⟩ := cPro_ext hx ho (stp tz len L) (stp_wk L)
    obtain ⟨b1, b2⟩ := cSumL_ext hx ho f _ a2
    rw [stp_ext hx, a1, b1]
    refine ⟨rfl, ?_⟩
    split
    · split
      · exact b2
      · exact a2
    · exact hL
theorem cSum_ext (hx : ∀ i, i < len → tx i = tz i) {one onz : Lx → CR} (ho : XE len one onz) : XE len (cSum tx len one) (cSum tz len onz) := fun L hL => by
  obtain ⟨a1, a2⟩ := cPro_ext hx ho L hL
  obtain ⟨b1, b2⟩ := cSumL_ext hx ho 300 _ a2
  unfold cSum
  rw [a1, b1]
  refine ⟨rfl, ?_⟩
  split
  · exact b2
  · exact a2
theorem cLeaf_ext (hx : ∀ i, i < len → tx i = tz i) : XE len (cLeaf tx len) (cLeaf tz len) := fun L hL => by
  have e : stp tx len = stp tz len := funext (stp_ext hx)
  unfold cLeaf
  rw [e, isw_ext hx hL]
  refine ⟨rfl, ?_⟩
  split
  · split
    · exact stp_wk _
    · exact hL
  · split
    · exact stp_wk _
    · exact hL
theorem cOne_ext (hx : ∀ i, i < len → tx i = tz i) : ∀ k, XE len (cOne tx len k) (cOne tz len k)
  | 0 => fun L hL => by
    unfold cOne
    rw [(cLeaf_ext hx L hL).1]
    refine ⟨rfl, ?_⟩
    split
    · exact hL
    · exact (cLeaf_ext hx L hL).2
  | k + 1 => fun L hL => by
    obtain ⟨a1, a2⟩ := cSum_ext hx (cOne_ext hx k) (stp tz len L) (stp_wk L)
    obtain ⟨b1, b2⟩ := cOne_ext hx k (stp tz len L) (stp_wk L)
    unfold cOne
    rw [stp_ext hx L, a1, b1, (cLeaf_ext hx L hL).1, stp_ext hx]
    refine ⟨rfl, ?_⟩
    split
    · split
      · split
        · exact stp_wk _
        · exact a2
      · exact a2
    · split
      · split
        · exact b2
        · exact b2
      · exact (cLeaf_ext hx L hL).2
theorem cC2_ext (hx : ∀ i, i < len → tx i = tz i) (s : Nat) (L : Lx) (hL : Wk len L) (Cs : List (Nat × Nat × Nat)) (C : List (Nat × Nat)) : cC2 tx len s L Cs C = cC2 tz len s L Cs C ∧ Wk len (cC2 tz len s L Cs C).2.1 := by
  obtain ⟨a1, a2⟩ := cSum_ext hx (cOne_ext hx 8) (stp tz len L) (stp_wk L)
  unfold cC2
  rw [stp_ext hx L, a1, stp_ext hx]
  refine ⟨rfl, ?_⟩
  split
  · exact hL
  · split
    · split
      · exact stp_wk _
      · exact a2
    · exact a2
theorem cCl_ext (hx : ∀ i, i < len → tx i = tz i) (L : Lx) (hL : Wk len L) (Cs : List (Nat × Nat × Nat)) (C : List (Nat × Nat)) : cCl tx len L Cs C = cCl tz len L Cs C ∧ Wk len (cCl tz len L Cs C).2.1 := by
  unfold cCl
  rw [isw_ext hx hL, isw_ext hx hL, (cC2_ext hx 1 L hL Cs C).1, (cC2_ext hx 0 L hL Cs C).1]
  refine ⟨rfl, ?_⟩
  split
  · exact (cC2_ext hx 1 L hL Cs C).2
  · split
    · exact (cC2_ext hx 0 L hL Cs C).2
    · exact hL
theorem cTx_ext (hx : ∀ i, i < len → tx i = tz i) : ∀ (f : Nat) (L : Lx) (_ : Wk len L) (Cs : List (Nat × Nat × Nat)) (C : List (Nat × Nat)), cTx tx len f L Cs C = cTx tz len f L Cs C
  | 0, L, _, Cs, C => rfl
  | f + 1, L, hL, Cs, C => by
    obtain ⟨a1, a2⟩ := cCl_ext hx L hL Cs C
    unfold cTx
    rw [a1, cTx_ext hx f _ a2]
theorem rTx_ext (hx : ∀ i, i < len → tx i = tz i) (v : Nat) : rTx tx len v = rTx tz len v := by
  unfold rTx
  rw [stp_ext hx]
  exact cTx_ext hx 302 _ (stp_wk _) _ _
theorem StT.ofx {t0 : Nat} {mi : Nat → Nat → Int32} (h : StT t0 tx len mi) (hx : ∀ i, i < len → tx i = tz i) : StT t0 tz len mi := by
  unfold StT at h ⊢
  rw [← rTx_ext hx]
  exact h
end EXT
