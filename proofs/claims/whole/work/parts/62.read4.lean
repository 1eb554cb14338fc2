/-! class Reader: the descent -/
def pPw2 (w : Bool) (q m d : Nat) (tx : Nat → Nat) (len t : Nat) (s : PS) : Bool × PS :=
  if (sL s).1 = 94 then
    (if (sL (stepS tx len s)).1 = 2 then
      (if (sL (stepS tx len s)).2.2.1 ≤ 24 then (true, stepS tx len (raiseS w q m d (stepS tx len s) t (sL (stepS tx len s)).2.2.1)) else (false, failS (stepS tx len s) 2))
     else (false, failS (stepS tx len s) 1))
  else (true, s)
def pPow (w : Bool) (q m d : Nat) (tx : Nat → Nat) (len : Nat) (one : Nat → PS → Bool × PS) (t : Nat) (s : PS) : Bool × PS :=
  if (one t s).1 = true then pPw2 w q m d tx len t (one t s).2 else (false, (one t s).2)
def pProL (w : Bool) (q m d : Nat) (tx : Nat → Nat) (len : Nat) (one : Nat → PS → Bool × PS) (t : Nat) : Nat → PS → Bool × PS
  | 0, s => (true, s)
  | f + 1, s => if (sL s).1 = 42 then
      (if (pPow w q m d tx len one (t + 1) (stepS tx len s)).1 = true then pProL w q m d tx len one t f (mulS w q m d (pPow w q m d tx len one (t + 1) (stepS tx len s)).2 t)
       else (false, (pPow w q m d tx len one (t + 1) (stepS tx len s)).2))
    else (true, s)
def pPro (w : Bool) (q m d : Nat) (tx : Nat → Nat) (len : Nat) (one : Nat → PS → Bool × PS) (t : Nat) (s : PS) : Bool × PS :=
  if (pPow w q m d tx len one t s).1 = true then pProL w q m d tx len one t 300 (pPow w q m d tx len one t s).2 else (false, (pPow w q m d tx len one t s).2)
def pSumL (w : Bool) (q m d : Nat) (tx : Nat → Nat) (len : Nat) (one : Nat → PS → Bool × PS) (t : Nat) : Nat → PS → Bool × PS
  | 0, s => (true, s)
  | f + 1, s => if (sL s).1 = 43 ∨ (sL s).1 = 45 then
      (if (pPro w q m d tx len one (t + 1) (stepS tx len s)).1 = true then pSumL w q m d tx len one t f (addS w q (pPro w q m d tx len one (t + 1) (stepS tx len s)).2 t (decide ((sL s).1 = 45)))
       else (false, (pPro w q m d tx len one (t + 1) (stepS tx len s)).2))
    else (true, s)
def pSum (w : Bool) (q m d : Nat) (tx : Nat → Nat) (len : Nat) (one : Nat → PS → Bool × PS) (t : Nat) (s : PS) : Bool × PS :=
  if (pPro w q m d tx len one t s).1 = true then pSumL w q m d tx len one t 300 (pPro w q m d tx len one t s).2 else (false, (pPro w q m d tx len one t s).2)
def pExp (tx : Nat → Nat) (len : Nat) (v : Nat) (s : PS) : Bool × PS := if (sL s).1 = v then (true, stepS tx len s) else (false, failS s 1)
/-- a number or t -/
def pLeaf (w : Bool) (n : Nat) (tx : Nat → Nat) (len : Nat) (t : Nat) (s : PS) : Bool × PS :=
  if (sL s).1 = 2 then (if (sL s).2.2.1 ≤ 9999 then (true, stepS tx len (putS w (numS w n s) t 0 (sL s).2.2.1)) else (false, failS s 2))
  else if isw tx (sL s) wT = true then (true, stepS tx len (putS w s t 1 1)) else (false, failS s 1)
/-- k: how many may be opened still -/
def pOne (w : Bool) (q m d n : Nat) (tx : Nat → Nat) (len : Nat) : Nat → Nat → PS → Bool × PS
  | 0, t, s => if (sL s).1 = 40 ∨ (sL s).1 = 45 then (false, failS s 3) else pLeaf w n tx len t s
  | k + 1, t, s => if (sL s).1 = 40 then
      (if (pSum w q m d tx len (pOne w q m d n tx len k) t (stepS tx len s)).1 = true then pExp tx len 41 (pSum w q m d tx len (pOne w q m d n tx len k) t (stepS tx len s)).2 else (false, (pSum w q m d tx len (pOne w q m d n tx len k) t (stepS tx len s)).2))
    else if (sL s).1 = 45 then
      (if (pOne w q m d n tx len k t (stepS tx len s)).1 = true then (true, turnS w q (pOne w q m d n tx len k t (stepS tx len s)).2 t) else (false, (pOne w q m d n tx len k t (stepS tx len s)).2))
    else pLeaf w n tx len t s
/-- what stands at t is worked where it is; below t nothing has changed; stuck stays -/
def VR (w : Bool) (n t : Nat) (s s1 : PS) : Prop := (wk w s1 = true → Vd n s1 t ∧ wk w s = true) ∧ ∀ j, j < t → sS s1 j = sS s j
def OV (w : Bool) (n : Nat) (one : Nat → PS → Bool × PS) : Prop := ∀ t s, (one t s).1 = true → VR w n t s (one t s).2
theorem VR.step {w : Bool} {n t : Nat} {s s1 : PS} {tx : Nat → Nat} {len : Nat} (h : VR w n t s s1) : VR w n t s (stepS tx len s1) := h
theorem mulS_VR {w : Bool} {q m d n t : Nat} {s : PS} (hw : Wd q m d n) (hv : wk w s = true → Vd n s t ∧ Vd n s (t + 1)) : VR w n t s (mulS w q m d s t) := by
  unfold mulS
  by_cases c : wk w s = true
  · rw [if_pos c]
    obtain ⟨v1, v2⟩ := hv c
    split
    · refine ⟨fun z => absurd z ?_, fun j hj => rfl⟩
      show ¬ (w && !true) = true
      rw [Bool.not_true, Bool.and_false]
      exact Bool.false_ne_true
    · refine ⟨fun _ => ⟨fun k => ?_, c⟩, fun j hj => upR_ne (by omega)⟩
      show upR _ t _ t k < n
      rw [upR_eq]
      exact cv_lt hw v2 k
  · rw [if_neg c]
    exact ⟨fun z => absurd z c, fun j hj => rfl⟩
theorem addS_VR {w : Bool} {q m d n t : Nat} {s : PS} {less : Bool} (hw : Wd q m d n) (hv : wk w s = true → Vd n s t ∧ Vd n s (t + 1)) : VR w n t s (addS w q s t less) := by
  unfold addS
  by_cases c : wk w s = true
  · rw [if_pos c]
    obtain ⟨v1, v2⟩ := hv c
    refine ⟨fun _ => ⟨fun k => ?_, c⟩, fun j hj => upR_ne (by omega)⟩
    show upR _ t _ t k < n
    rw [upR_eq]
    exact cmb_ltn hw (v1 k) (v2 k)
  · rw [if_neg c]
    exact ⟨fun z => absurd z c, fun j hj => rfl⟩
theorem turnS_VR {w : Bool} {q m d n t : Nat} {s : PS} (hw : Wd q m d n) (hv : wk w s = true → Vd n s t) : VR w n t s (turnS w q s t) := by
  unfold turnS
  have hn2 := hw.n2
  by_cases c : wk w s = true
  · rw [if_pos c]
    refine ⟨fun _ => ⟨fun k => ?_, c⟩, fun j hj => ?_⟩
    · show upR _ t _ t k < n
      rw [upR_eq]
      exact cmb_ltn hw (by omega) (hv c k)
    · show upR (upR _ _ _) _ _ j = _
      rw [upR_ne (by omega), upR_ne (by omega)]
  · rw [if_neg c]
    exact ⟨fun z => absurd z c, fun j hj => rfl⟩
theorem putS_VR {w : Bool} {n t i x : Nat} {s : PS} (hn : 2 ≤ n) (hx : wk w s = true → x < n) : VR w n t s (putS w s t i x) := by
  unfold putS
  by_cases c : wk w s = true
  · rw [if_pos c]
    refine ⟨fun _ => ⟨fun k => ?_, c⟩, fun j hj => upR_ne (by omega)⟩
    show upR _ t _ t k < n
    rw [upR_eq]
    show (if k = i then x else 0) < n
    have := hx c
    split <;> omega
  · rw [if_neg c]
    exact ⟨fun z => absurd z c, fun j hj => rfl⟩
theorem VR.trans {w : Bool} {n t u : Nat} {s s1 s2 : PS} (h : VR w n t s1 s2) (h1 : wk w s1 = true → wk w s = true) (h2 : ∀ j, j < t → sS s1 j = sS s j) : VR w n t s s2 := ⟨fun z => ⟨(h.1 z).1, h1 (h.1 z).2⟩, fun j hj => by rw [h.2 j hj, h2 j hj]⟩
theorem rsl_VR {w : Bool} {q m d n t : Nat} (hw : Wd q m d n) : ∀ (f : Nat) (s : PS), (wk w s = true → Vd n s t ∧ Vd n s (t + 1)) → VR w n t s (rsl w q m d t f s) ∧ ∀ j, j ≠ t → sS (rsl w q m d t f s) j = sS s j
  | 0, s, hv => ⟨⟨fun z => ⟨(hv z).1, z⟩, fun _ _ => rfl⟩, fun _ _ => rfl⟩
  | f + 1, s, hv => by
    have h1 := mulS_VR hw hv
    have ho : ∀ j, j ≠ t → sS (mulS w q m d s t) j = sS s j := by
      intro j hj
      unfold mulS
      split
      · split
        · rfl
        · exact upR_ne hj
      · rfl
    obtain ⟨i1, i2⟩ := rsl_VR hw f (mulS w q m d s t) (fun z => ⟨(h1.1 z).1, fun k => by
      have e : sS (mulS w q m d s t) (t + 1) = sS s (t + 1) := ho (t + 1) (by omega)
      rw [e]
      exact (hv (h1.1 z).2).2 k⟩)
    exact ⟨i1.trans (u := 0) (fun z => (h1.1 z).2) (fun j hj => ho j (by omega)), fun j hj => by
      show sS (rsl w q m d t f (mulS w q m d s t)) j = _
      rw [i2 j hj, ho j hj]⟩
theorem raiseS_VR {w : Bool} {q m d n t p : Nat} {s : PS} (hw : Wd q m d n) (hv : wk w s = true → Vd n s t) : VR w n t s (raiseS w q m d s t p) := by
  unfold raiseS
  have hn2 := hw.n2
  by_cases c : wk w s = true
  · rw [if_pos c]
    obtain ⟨i1, -⟩ := rsl_VR (t := t) hw p (sL s, sK s, upR (upR (sS s) (t + 1) (sS s t)) t (r1 1), sF s, sA s) (fun _ => ⟨fun k => by
      show upR _ t _ t k < n
      rw [upR_eq]
      show (if k = 0 then 1 else 0) < n
      split <;> omega, fun k => by
      show upR _ t _ (t + 1) k < n
      rw [upR_ne (by omega), upR_eq]
      exact hv c k⟩)
    refine i1.trans (u := 0) (fun _ => c) (fun j hj => ?_)
    show upR (upR _ _ _) _ _ j = _
    rw [upR_ne (by omega), upR_ne (by omega)]
  · rw [if_neg c]
    exact ⟨fun z => absurd z c, fun j hj => rfl⟩
theorem wk_step {w : Bool} {s : PS} {tx : Nat → Nat} {len : Nat} : wk w (stepS tx len s) = wk w s := rfl
theorem Vd_step {n t : Nat} {s : PS} {tx : Nat → Nat} {len : Nat} (h : Vd n s t) : Vd n (stepS tx len s) t := h
theorem sS_step {s : PS} {tx : Nat → Nat} {len : Nat} : sS (stepS tx len s) = sS s := rfl
theorem pPw2_OV {w : Bool} {q m d n : Nat} {tx : Nat → Nat} {len t : Nat} (hw : Wd q m d n) {s S1 : PS} (hv : VR w n t s S1) (h1 : (pPw2 w q m d tx len t S1).1 = true) : VR w n t s (pPw2 w q m d tx len t S1).2 := by
  unfold pPw2 at h1 ⊢
  by_cases c1 : (sL S1).1 = 94
  · rw [if_pos c1] at h1 ⊢
    by_cases c2 : (sL (stepS tx len S1)).1 = 2
    · rw [if_pos c2] at h1 ⊢
      by_cases c3 : (sL (stepS tx len S1)).2.2.1 ≤ 24
      · rw [if_pos c3]
        generalize (sL (stepS tx len S1)).2.2.1 = P
        show VR w n t s (stepS tx len (raiseS w q m d (stepS tx len S1) t P))
        refine VR.step ?_
        have hr : VR w n t (stepS tx len S1) (raiseS w q m d (stepS tx len S1) t P) := raiseS_VR hw (fun z => Vd_step (hv.1 (by rw [← wk_step]; exact z)).1)
        generalize raiseS w q m d (stepS tx len S1) t P = R at hr ⊢
        exact hr.trans (u := 0) (fun z => (hv.1 (by rw [← wk_step]; exact z)).2) (fun j hj => by rw [sS_step]; exact hv.2 j hj)
      · rw [if_neg c3] at h1
        exact absurd h1 Bool.false_ne_true
    · rw [if_neg c2] at h1
      exact absurd h1 Bool.false_ne_true
  · rw [if_neg c1]
    exact hv
theorem pPow_OV {w : Bool} {q m d n : Nat} {tx : Nat → Nat} {len : Nat} (hw : Wd q m d n) {one : Nat → PS → Bool × PS} (h : OV w n one) : OV w n (pPow w q m d tx len one) := by
  intro t s h1
  unfold pPow at h1 ⊢
  by_cases c : (one t s).1 = true
  · rw [if_pos c] at h1 ⊢
    exact pPw2_OV hw (h t s c) h1
  · rw [if_neg c] at h1
    exact absurd h1 Bool.false_ne_true
theorem pProL_OV {w : Bool} {q m d n : Nat} {tx : Nat → Nat} {len : Nat} (hw : Wd q m d n) {one : Nat → PS → Bool × PS} (h : OV w n one) (t : Nat) (s0 : PS) : ∀ (f : Nat) (s : PS), VR w n t s0 s → (pProL w q m d tx len one t f s).1 = true → VR w n t s0 (pProL w q m d tx len one t f s).2
  | 0, s, hs, _ => hs
  | f + 1, s, hs, h1 => by
    unfold pProL at h1 ⊢
    by_cases c1 : (sL s).1 = 42
    · rw [if_pos c1] at h1 ⊢
      by_cases c2 : (pPow w q m d tx len one (t + 1) (stepS tx len s)).1 = true
      · rw [if_pos c2] at h1 ⊢
        have hv := pPow_OV (tx := tx) (len := len) hw h (t + 1) (stepS tx len s) c2
        refine pProL_OV hw h t s0 f _ ?_ h1
        refine (mulS_VR hw (fun z => ⟨fun k => ?_, (hv.1 z).1⟩)).trans (u := 0) (fun z => (hs.1 (hv.1 z).2).2) (fun j hj => ?_)
        · rw [hv.2 t (by omega)]
          exact (hs.1 (hv.1 z).2).1 k
        · rw [hv.2 j (by omega)]
          exact hs.2 j hj
      · rw [if_neg c2] at h1
        exact absurd h1 Bool.false_ne_true
    · rw [if_neg c1]
      exact hs
theorem pPro_OV {w : Bool} {q m d n : Nat} {tx : Nat → Nat} {len : Nat} (hw : Wd q m d n) {one : Nat → PS → Bool × PS} (h : OV w n one) : OV w n (pPro w q m d tx len one) := by
  intro t s h1
  unfold pPro at h1 ⊢
  by_cases c : (pPow w q m d tx len one t s).1 = true
  · rw [if_pos c] at h1 ⊢
    exact pProL_OV hw h t s 300 _ (pPow_OV hw h t s c) h1
  · rw [if_neg c] at h1
    exact absurd h1 Bool.false_ne_true
theorem pSumL_OV {w : Bool} {q m d n : Nat} {tx : Nat → Nat} {len : Nat} (hw : Wd q m d n) {one : Nat → PS → Bool × PS} (h : OV w n one) (t : Nat) (s0 : PS) : ∀ (f : Nat) (s : PS), VR w n t s0 s → (pSumL w q m d tx len one t f s).1 = true → VR w n t s0 (pSumL w q m d tx len one t f s).2
  | 0, s, hs, _ => hs
  | f + 1, s, hs, h1 => by
    unfold pSumL at h1 ⊢
    by_cases c1 : (sL s).1 = 43 ∨ (sL s).1 = 45
    · rw [if_pos c1] at h1 ⊢
      by_cases c2 : (pPro w q m d tx len one (t + 1) (stepS tx len s)).1 = true
      · rw [if_pos c2] at h1 ⊢
        have hv := pPro_OV (tx := tx) (len := len) hw h (t + 1) (stepS tx len s) c2
        refine pSumL_OV hw h t s0 f _ ?_ h1
        refine (addS_VR hw (fun z => ⟨fun k => ?_, (hv.1 z).1⟩)).trans (u := 0) (fun z => (hs.1 (hv.1 z).2).2) (fun j hj => ?_)
        · rw [hv.2 t (by omega)]
          exact (hs.1 (hv.1 z).2).1 k
        · rw [hv.2 j (by omega)]
          exact hs.2 j hj
      · rw [if_neg c2] at h1
        exact absurd h1 Bool.false_ne_true
    · rw [if_neg c1]
      exact hs
theorem pSum_OV {w : Bool} {q m d n : Nat} {tx : Nat → Nat} {len : Nat} (hw : Wd q m d n) {one : Nat → PS → Bool × PS} (h : OV w n one) : OV w n (pSum w q m d tx len one) := by
  intro t s h1
  unfold pSum at h1 ⊢
  by_cases c : (pPro w q m d tx len one t s).1 = true
  · rw [if_pos c] at h1 ⊢
    exact pSumL_OV hw h t s 300 _ (pPro_OV hw h t s c) h1
  · rw [if_neg c] at h1
    exact absurd h1 Bool.false_ne_true
theorem pLeaf_OV {w : Bool} {n : Nat} {tx : Nat → Nat} {len : Nat} (hn : 2 ≤ n) : OV w n (pLeaf w n tx len) := by
  intro t s h1
  unfold pLeaf at h1 ⊢
  split at h1
  · next c1 =>
    split at h1
    · next c2 =>
      rw [if_pos c1, if_pos c2]
      have hnum : (wk w (numS w n s) = true → (sL s).2.2.1 < n ∧ wk w s = true) ∧ sS (numS w n s) = sS s := by
        unfold numS
        split
        · refine ⟨fun z => absurd z ?_, rfl⟩
          show ¬ (w && !true) = true
          rw [Bool.not_true, Bool.and_false]
          exact Bool.false_ne_true
        · next c3 =>
          refine ⟨fun z => ⟨?_, z⟩, rfl⟩
          have hw : w = true := by
            unfold wk at z
            rw [Bool.and_eq_true] at z
            exact z.1
          exact Nat.lt_of_not_le (fun z2 => c3 ⟨hw, z2⟩)
      exact (putS_VR hn (fun z => (hnum.1 z).1)).step.trans (u := 0) (fun z => (hnum.1 z).2) (fun j hj => by rw [hnum.2])
    · exact absurd h1 Bool.false_ne_true
  · next c1 =>
    rw [if_neg c1]
    split at h1
    · next c2 =>
      rw [if_pos c2]
      exact (putS_VR hn (fun _ => by omega)).step
    · exact absurd h1 Bool.false_ne_true
theorem pOne_OV {w : Bool} {q m d n : Nat} {tx : Nat → Nat} {len : Nat} (hw : Wd q m d n) : ∀ k, OV w n (pOne w q m d n tx len k) := by
  intro k
  induction k with
  | zero =>
    intro t s h1
    unfold pOne at h1 ⊢
    split at h1
    · exact absurd h1 Bool.false_ne_true
    · next c =>
      rw [if_neg c]
      exact pLeaf_OV hw.n2 t s h1
  | succ k ih =>
    intro t s h1
    unfold pOne at h1 ⊢
    by_cases c1 : (sL s).1 = 40
    · rw [if_pos c1] at h1 ⊢
      by_cases c2 : (pSum w q m d tx len (pOne w q m d n tx len k) t (stepS tx len s)).1 = true
      · rw [if_pos c2] at h1 ⊢
        have hv := pSum_OV (tx := tx) (len := len) hw ih t (stepS tx len s) c2
        unfold pExp at h1 ⊢
        split at h1
        · next c3 =>
          rw [if_pos c3]
          exact hv.step
        · exact absurd h1 Bool.false_ne_true
      · rw [if_neg c2] at h1
        exact absurd h1 Bool.false_ne_true
    · rw [if_neg c1] at h1 ⊢
      by_cases c2 : (sL s).1 = 45
      · rw [if_pos c2] at h1 ⊢
        by_cases c3 : (pOne w q m d n tx len k t (stepS tx len s)).1 = true
        · rw [if_pos c3]
          have hv := ih t (stepS tx len s) c3
          exact (turnS_VR hw (fun z => (hv.1 z).1)).trans (u := 0) (fun z => (hv.1 z).2) hv.2
        · rw [if_neg c3] at h1
          exact absurd h1 Bool.false_ne_true
      · rw [if_neg c2] at h1 ⊢
        exact pLeaf_OV hw.n2 t s h1
