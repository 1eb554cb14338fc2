/-! what find has found has first figure 1; class Acting: parts -/
def AllMn (q L : Nat) (f : Nat → Nat) : Prop := ∀ i, i < L → Mn q (f i)
theorem up1_Mn {q L v : Nat} {f : Nat → Nat} (h : AllMn q L f) (hv : Mn q v) : AllMn q (L + 1) (up1 f L v) := by
  intro i hi
  show Mn q (if i = L then v else f i)
  by_cases c : i = L
  · rw [if_pos c]
    exact hv
  · rw [if_neg c]
    exact h i (by omega)
theorem tkf_all {q p : Nat} (hp : Mn q p) : ∀ (n a L : Nat) (f : Nat → Nat), AllMn q L f → AllMn q (tkf q p n a L f).2.1 (tkf q p n a L f).2.2
  | 0, _, _, _, h => h
  | n + 1, a, L, f, h => by
    unfold tkf
    split
    · split
      · exact tkf_all hp n _ _ _ (up1_Mn h hp)
      · exact tkf_all hp n _ _ _ h
    · exact h
theorem tka_all {q S : Nat} (hq : q = 2 ∨ q = 3 ∨ q = 5) {g : Nat → Nat} (hg : ∀ j, j < S → Mn q (g j)) : ∀ (n i a L : Nat) (f : Nat → Nat), i + n ≤ S → Mn q a → AllMn q L f → Mn q (tka q g n i a L f).1 ∧ AllMn q (tka q g n i a L f).2.1 (tka q g n i a L f).2.2
  | 0, _, _, _, _, _, ha, h => ⟨ha, h⟩
  | n + 1, i, a, L, f, hi, ha, h => by
    unfold tka
    exact tka_all hq hg n (i + 1) _ _ _ (by omega) (tkf_Mn hq (hg i (by omega)) 13 a L f ha) (tkf_all (hg i (by omega)) 13 a L f h)
theorem fdo_all {q : Nat} (hq : q = 2 ∨ q = 3 ∨ q = 5) : ∀ (n k a t L : Nat) (f : Nat → Nat), Mn q a → AllMn q L f → Mn q (fdo q n k a t L f).1 ∧ AllMn q (fdo q n k a t L f).2.1 (fdo q n k a t L f).2.2
  | 0, _, _, _, _, _, ha, h => ⟨ha, h⟩
  | n + 1, k, a, t, L, f, ha, h => by
    unfold fdo
    split
    · exact ⟨ha, h⟩
    · have hC : Mn q (fdC q a t) := gcn_Mn hq ha (cmb_lt _ (by omega) 13 _ _)
      obtain ⟨m1, m2⟩ := tka_all hq (spU_Mn hq hC (k := k)) (spU q k (fdC q a t)).1 0 a L f (by omega) ha h
      exact fdo_all hq n _ _ _ _ _ m1 m2
theorem swp_all {q L k : Nat} {f : Nat → Nat} (h : AllMn q L f) (hk : k < L) : AllMn q L (swp f k) := by
  intro i hi
  show Mn q (if i = k - 1 then f k else if i = k then f (k - 1) else f i)
  split
  · exact h k hk
  split
  · exact h (k - 1) (by omega)
  · exact h i hi
theorem srI_all {q L : Nat} : ∀ (k : Nat) (f : Nat → Nat), k < L → AllMn q L f → AllMn q L (srI k f)
  | 0, _, _, h => h
  | k + 1, f, hk, h => by
    unfold srI
    split
    · exact h
    · exact srI_all k _ (by omega) (swp_all h hk)
theorem srO_all {q L : Nat} : ∀ (n i : Nat) (f : Nat → Nat), i + n ≤ L → AllMn q L f → AllMn q L (srO n i f)
  | 0, _, _, _, h => h
  | n + 1, i, f, hi, h => by
    unfold srO
    exact srO_all n (i + 1) _ (by omega) (srI_all i f (by omega) h)
theorem fnu_all {q a : Nat} (hq : q = 2 ∨ q = 3 ∨ q = 5) (ha : a < q ^ 13) (h0 : 0 < a) : AllMn q (fnu q a).1 (fnu q a).2 := by
  obtain ⟨m1, m2⟩ := fdo_all hq 6 1 (mon q a) q 0 (fun _ => 0) (mon_Mn hq ha h0) (fun i hi => absurd hi (by omega))
  unfold fnu fdE
  split
  · exact m2
  split
  · exact up1_Mn m2 m1
  · exact m2
theorem fnd_all {q a : Nat} (hq : q = 2 ∨ q = 3 ∨ q = 5) (ha : a < q ^ 13) (h0 : 0 < a) : AllMn q (fnd q a).1 (fnd q a).2 := by
  have h := fnu_all hq ha h0
  unfold fnd
  show AllMn q (fnu q a).1 (srO ((fnu q a).1 - 1) 1 (fnu q a).2)
  rcases Nat.eq_zero_or_pos (fnu q a).1 with z | z
  · intro i hi
    omega
  · exact srO_all _ _ _ (by omega) h
def nsl (q m d : Nat) (f : Nat → Nat) (a : Nat) : Nat → Nat → Nat → TSt → Nat
  | 0, _, s, _ => s
  | r + 1, j, s, S => nsl q m d f a r (j + 1) (if (tS q S (snd q m d f a (q ^ j)) 0).1 = 0 then s + 1 else s) (tS q S (snd q m d f a (q ^ j)) 0).2.2
/-- of how many figures the noughts of a are -/
def nsp (q m d : Nat) (f : Nat → Nat) (a : Nat) : Nat := nsl q m d f a d 0 0 tS0
theorem nsl_le {q m d : Nat} {f : Nat → Nat} {a : Nat} : ∀ (r j s : Nat) (S : TSt), nsl q m d f a r j s S ≤ s + r
  | 0, _, _, _ => Nat.le_refl _
  | r + 1, j, s, S => by
    unfold nsl
    refine Nat.le_trans (nsl_le r (j + 1) _ _) ?_
    split <;> omega
def spi (q p : Nat) : Nat → Nat → (Nat → Nat) → Option (Nat → Nat)
  | 0, _, P => some P
  | r + 1, i, P => if 14 < ln q 13 (P i) + ln q 13 p then none else spi q p r (i + 1) (up1 P i (prd q (P i) p))
def spo (q m d : Nat) (f : Nat → Nat) (p : Nat) : Nat → Nat → Nat → Nat → (Nat → Nat) → Option (Nat → Nat)
  | 0, _, _, _, P => some P
  | r + 1, k, w, b, P => if d < k * (ln q 13 p - 1) then some P else
      match spi q p (min (nsp q m d f (prd q w p) / (ln q 13 p - 1) - b) 7) 0 P with
      | none => none
      | some P1 => spo q m d f p r (k + 1) (prd q w p) (nsp q m d f (prd q w p) / (ln q 13 p - 1)) P1
/-- the parts with those of the prime p; none: one would be too long -/
def spr (q m d : Nat) (f : Nat → Nat) (p : Nat) (P : Nat → Nat) : Option (Nat → Nat) := if ln q 13 p ≤ 1 then some P else spo q m d f p 7 1 1 0 P
def fpl (q m d : Nat) (f F : Nat → Nat) : Nat → Nat → (Nat → Nat) → Option (Nat → Nat)
  | 0, _, P => some P
  | r + 1, i, P => if i = 0 ∨ F i ≠ F (i - 1) then
      match spr q m d f (F i) P with
      | none => none
      | some P1 => fpl q m d f F r (i + 1) P1
    else fpl q m d f F r (i + 1) P
/-- the parts -/
def fpa (q m d : Nat) (f : Nat → Nat) : Option (Nat → Nat) := fpl q m d f (fnd q (pts q m d f)).2 (fnd q (pts q m d f)).1 0 (fun _ => 1)
def cnt (P : Nat → Nat) : Nat → Nat → Nat
  | 0, i => i
  | r + 1, i => if P i ≤ 1 then i else cnt P r (i + 1)
def Pr (q : Nat) (mi : Nat → Nat → Int32) (P : Nat → Nat) : Prop := ∀ i, i < 7 → mi 13 i = nI (P i) ∧ P i < q ^ 13
theorem row13 : isR 13 ∧ an 13 = 7 := by
  have h : (ak 13 = 11 ∧ an 13 = 7) := by decide +kernel
  exact ⟨⟨⟨h.1, by omega⟩, by rw [h.2]; omega⟩, h.2⟩
theorem nI_subc {a b i : Nat} (ha : a < 2 ^ 20) (hb : b < 2 ^ 20) (hi : i < 2 ^ 20) : (nI a - nI b ≤ nI i) = (a ≤ b + i) := by
  rw [Int32.le_iff_toInt_le, Int32.toInt_sub, nI_toInt (by omega), nI_toInt (by omega), nI_toInt (by omega), Int.bmod_eq_of_le (by omega) (by omega)]
  exact propext ⟨fun h => by omega, fun h => by omega⟩
theorem snd_lt {q m d n : Nat} (w : Wd q m d n) {f : Nat → Nat} {a x : Nat} (hx : x < n) : snd q m d f a x < n := by
  have : ∀ k s, s < n → sndl q m d f a x k s < n := by
    intro k
    induction k with
    | zero => intro s hs; exact hs
    | succ k ih =>
      intro s hs
      exact ih _ (cmb_ltn w (vl_lt w hs) hx)
  exact this _ 0 (by have := w.n2; omega)
section PAR
variable {G : GC} {e q m d n g : Nat} {mi : Nat → Nat → Int32} {ml : Nat → Nat → Int64} {y : Nat → Nat → Option Nat}
theorem p_nsp_loop {c a : Nat} (hc : isR c) (hc25 : an c ≤ 25) (hc67 : 67 < c) (ha : a < q ^ 13) {f : Nat → Nat} (mi0 : Nat → Nat → Int32) (h0 : En q m d n g mi0) (hf : Rw n mi0 c f) {K : Int32 → (Nat → Nat → Int32) → (Nat → Nat → Int64) → Prop} :
    ∀ (r j s : Nat) (S : TSt) (mi : Nat → Nat → Int32), r + j = d → off16 mi0 mi → T1 q n mi S → (∀ mi1, off16 mi0 mi1 → K (nI (nsl q m d f a r j s S)) mi1 ml) →
      wp G e tX m_X0_noughtSpace 12 [(0, .ref 11), (1, .ref c), (2, .int (nI a)), (3, .int (nI s)), (4, .int (nI j))] [] (mi, ml, RX y) (QI K) := by
  have w := h0.w
  have hq2 := w.q2
  have hd7 := w.d7
  intro r
  induction r with
  | zero =>
    intro j s S mi hr ho hT hK
    have hE := h0.off (fun o o1 o2 => ho o (by omega))
    apply b_X0_noughtSpace_12
    refine p_rdegree hE.2.1 ?_
    simp (disch := omega) only [s_le, s_lt, s_eq, s_eq0, s_in, s_ix, s_rm, s_div, s_pdlt, s_pdle, s_lepd, s_pdpd, s_pdlepd, s_pdadd, nI_add, pk_mul, pd_succ, Nat.not_lt_zero, Nat.zero_lt_succ, not_false_eq_true, not_true_eq_false, false_implies, true_implies, implies_true, and_true, true_and, Nat.reduceLT, Nat.reduceLeDiff, Nat.reduceAdd, Nat.reduceSub, Nat.zero_add, Nat.add_zero]
    exact ⟨fun _ => hK mi ho, fun z => absurd (show d ≤ j by omega) z⟩
  | succ r ih =>
    intro j s S mi hr ho hT hK
    have hE := h0.off (fun o o1 o2 => ho o (by omega))
    have hjn : q ^ j < n := by
      have hn : n = q ^ d := w.2.2.2.2.2.1
      rw [hn]
      exact Nat.pow_lt_pow_right (by omega) (by omega)
    have h31 := pow_lt31 (M := 13) w.1 (Nat.le_refl _)
    have h130 : 0 < q ^ 13 := Nat.pow_pos (by omega)
    unfold nsl at hK
    apply b_X0_noughtSpace_12
    refine p_rdegree hE.2.1 ?_
    simp (disch := omega) only [s_le, s_lt, s_eq, s_eq0, s_in, s_ix, s_rm, s_div, s_pdlt, s_pdle, s_lepd, s_pdpd, s_pdlepd, s_pdadd, nI_add, pk_mul, pd_succ, Nat.not_lt_zero, Nat.zero_lt_succ, not_false_eq_true, not_true_eq_false, false_implies, true_implies, implies_true, and_true, true_and, Nat.reduceLT, Nat.reduceLeDiff, Nat.reduceAdd, Nat.reduceSub, Nat.zero_add, Nat.add_zero]
    refine ⟨fun z => absurd z (by omega), fun _ => p_power hE.1 (by omega) ?_⟩
    refine p_sendBy hE hc hc25 ha (hf.off (ho c (by omega))) hjn ?_
    refine p_add1 hE (snd_lt w hjn) h130 hT (fun mi1 ho1 hT1 => ?_)
    have ho2 : off16 mi0 mi1 := fun o oo => by rw [ho1 o oo]; exact ho o oo
    have htag := ta1_tag hq2 (fl := S.1) (v := S.2.1) (tg := S.2.2) 7 (snd q m d f a (q ^ j)) 0 h130
    have htag2 : (tS q S (snd q m d f a (q ^ j)) 0).2.1 < 2 ^ 31 := by
      show (ta1 q S.1 S.2.1 S.2.2 7 (snd q m d f a (q ^ j)) 0).2.1 < _
      omega
    by_cases c1 : (tS q S (snd q m d f a (q ^ j)) 0).1 = 0
    · rw [if_pos c1] at hK ⊢
      exact ⟨fun z => absurd z (nI_neg1 htag2), fun _ => ih (j + 1) (s + 1) _ mi1 (by omega) ho2 hT1 hK⟩
    · rw [if_neg c1] at hK ⊢
      exact ⟨fun _ => ih (j + 1) s _ mi1 (by omega) ho2 hT1 hK, fun z => absurd rfl z⟩
theorem p_nsp (h0 : En q m d n g mi) {c a : Nat} (hc : isR c) (hc25 : an c ≤ 25) (hc67 : 67 < c) (ha : a < q ^ 13) {f : Nat → Nat} (hf : Rw n mi c f) {K : Int32 → (Nat → Nat → Int32) → (Nat → Nat → Int64) → Prop}
    (hK : ∀ mi1, off16 mi mi1 → K (nI (nsp q m d f a)) mi1 ml) : wpI G e 154 m_X0_noughtSpace [.ref 11, .ref c, .int (nI a)] (mi, ml, RX y) K := by
  apply e_X0_noughtSpace
  refine p_clear1 (q := q) (n := n) (fun mi1 ho1 hT1 => ?_)
  exact p_nsp_loop hc hc25 hc67 ha mi h0 hf d 0 0 tS0 mi1 rfl (fun o oo => ho1 o (by omega)) hT1 hK
def off1367 (mi mi1 : Nat → Nat → Int32) : Prop := ∀ o, (o < 13 ∨ 67 < o) → mi1 o = mi o
theorem p_spread_in {p deg w b k sp c : Nat} (hp : Mn q p) (hsp : sp < 2 ^ 20) (hb : b < 2 ^ 20) (mi0 : Nat → Nat → Int32) (h0 : Fg q mi0) {K : (Nat → Nat → Int32) → (Nat → Nat → Int64) → Prop} {R : Nat → Nat} :
    ∀ (r i : Nat) (P : Nat → Nat) (mi : Nat → Nat → Int32), i + r = min (sp - b) 7 → off1367 mi0 mi → Pr q mi P → spi q p r i P = some R →
      (∀ mi1, off1367 mi0 mi1 → Pr q mi1 R → wp G e tX m_X0_spread 18 [(0, .ref 11), (1, .ref c), (2, .int (nI p)), (3, .int (nI deg)), (4, .int (nI w)), (5, .int (nI sp)), (6, .int (nI (k + 1)))] [] (mi1, ml, RX y) (QV K)) →
      wp G e tX m_X0_spread 62 [(0, .ref 11), (1, .ref c), (2, .int (nI p)), (3, .int (nI deg)), (4, .int (nI w)), (5, .int (nI b)), (6, .int (nI k)), (7, .int (nI sp)), (8, .int (nI i))] [] (mi, ml, RX y) (QV K) := by
  have hq2 := h0.two
  obtain ⟨kp, kp1, kp2, kp3⟩ := id hp
  intro r
  induction r with
  | zero =>
    intro i P mi hi ho hP hR hK
    have e1 : P = R := Option.some.inj hR
    subst e1
    apply b_X0_spread_62
    rw [nI_subc hsp hb (by omega)]
    simp (disch := omega) only [s_le, s_lt, s_eq, s_eq0, s_in, s_ix, s_rm, s_div, s_pdlt, s_pdle, s_lepd, s_pdpd, s_pdlepd, s_pdadd, nI_add, pk_mul, pd_succ, Nat.not_lt_zero, Nat.zero_lt_succ, not_false_eq_true, not_true_eq_false, false_implies, true_implies, implies_true, and_true, true_and, Nat.reduceLT, Nat.reduceLeDiff, Nat.reduceAdd, Nat.reduceSub, Nat.zero_add, Nat.add_zero]
    exact ⟨fun _ => hK mi ho hP, fun c1 => ⟨fun _ => hK mi ho hP, fun c2 => absurd hi (by omega)⟩⟩
  | succ r ih =>
    intro i P mi hi ho hP hR hK
    have hF : Fg q mi := h0.off (ho 1 (by omega)) (ho 2 (by omega))
    obtain ⟨P1, P2⟩ := hP i (by omega)
    unfold spi at hR
    split at hR
    · cases hR
    · next c1 =>
      have lP := ln_lt P2
      have lp := ln_lt kp3
      have hprd : prd q (P i) p < q ^ 13 := by
        have := prd_lt hq2.1 lP lp (by omega) (by omega)
        exact Nat.lt_of_lt_of_le this (Nat.pow_le_pow_right (by omega) (by omega))
      apply b_X0_spread_62
      rw [nI_subc hsp hb (by omega)]
      simp (disch := omega) only [s_le, s_lt, s_eq, s_eq0, s_in, s_ix, s_rm, s_div, s_pdlt, s_pdle, s_lepd, s_pdpd, s_pdlepd, s_pdadd, nI_add, pk_mul, pd_succ, Nat.not_lt_zero, Nat.zero_lt_succ, not_false_eq_true, not_true_eq_false, false_implies, true_implies, implies_true, and_true, true_and, Nat.reduceLT, Nat.reduceLeDiff, Nat.reduceAdd, Nat.reduceSub, Nat.zero_add, Nat.add_zero]
      refine ⟨fun z => absurd hi (by omega), fun c2 => ⟨fun z => absurd hi (by omega), fun c3 => ⟨by omega, ?_⟩⟩⟩
      rw [P1]
      refine p_product hF P2 kp3 (by omega) ⟨by omega, ?_⟩
      refine ih (i + 1) _ _ (by omega) (fun o oo => by rw [u2_off (by omega)]; exact ho o oo) (fun j hj => ?_) hR hK
      rw [u2_on]
      show (if j = i then _ else _) = nI (if j = i then _ else _) ∧ (if j = i then _ else _) < _
      by_cases z : j = i
      · rw [if_pos z, if_pos z]
        exact ⟨rfl, hprd⟩
      · rw [if_neg z, if_neg z]
        exact hP j hj
theorem p_spread_loop {c p : Nat} (hc : isR c) (hc25 : an c ≤ 25) (hc67 : 67 < c) {f : Nat → Nat} (hp : Mn q p) (mi0 : Nat → Nat → Int32) (h0 : En q m d n g mi0) (hf : Rw n mi0 c f) {deg : Nat} (hdeg : ln q 13 p = deg + 1) (hd1 : 1 ≤ deg) {K : (Nat → Nat → Int32) → (Nat → Nat → Int64) → Prop} {R : Nat → Nat} :
    ∀ (r k w b : Nat) (P : Nat → Nat) (mi : Nat → Nat → Int32), r + k = 8 → 1 ≤ k → w < q ^ ((k - 1) * deg + 1) → b < 2 ^ 20 → off1367 mi0 mi → Pr q mi P → spo q m d f p r k w b P = some R →
      (∀ mi1, off1367 mi0 mi1 → Pr q mi1 R → K mi1 ml) →
      wp G e tX m_X0_spread 18 [(0, .ref 11), (1, .ref c), (2, .int (nI p)), (3, .int (nI deg)), (4, .int (nI w)), (5, .int (nI b)), (6, .int (nI k))] [] (mi, ml, RX y) (QV K) := by
  have wd := h0.w
  have hq2 := wd.q2
  have hd7 := wd.d7
  have hdl := ln_le q 13 p
  obtain ⟨kp, kp1, kp2, kp3⟩ := id hp
  intro r
  induction r with
  | zero =>
    intro k w b P mi hr hk hw hb ho hP hR hK
    have hE := h0.off (fun o o1 o2 => ho o (by omega))
    have e1 : P = R := Option.some.inj hR
    subst e1
    have hk8 : k = 8 := by omega
    subst hk8
    apply b_X0_spread_18
    simp (disch := omega) only [s_le, s_lt, s_eq, s_eq0, s_in, s_ix, s_rm, s_div, s_pdlt, s_pdle, s_lepd, s_pdpd, s_pdlepd, s_pdadd, nI_add, pk_mul, pd_succ, Nat.not_lt_zero, Nat.zero_lt_succ, not_false_eq_true, not_true_eq_false, false_implies, true_implies, implies_true, and_true, true_and, Nat.reduceLT, Nat.reduceLeDiff, Nat.reduceAdd, Nat.reduceSub, Nat.zero_add, Nat.add_zero]
    refine ⟨fun z => absurd z (by omega), fun _ => p_rdegree hE.2.1 ?_⟩
    simp (disch := omega) only [s_le, s_lt, s_eq, s_eq0, s_in, s_ix, s_rm, s_div, s_pdlt, s_pdle, s_lepd, s_pdpd, s_pdlepd, s_pdadd, nI_add, pk_mul, pd_succ, Nat.not_lt_zero, Nat.zero_lt_succ, not_false_eq_true, not_true_eq_false, false_implies, true_implies, implies_true, and_true, true_and, Nat.reduceLT, Nat.reduceLeDiff, Nat.reduceAdd, Nat.reduceSub, Nat.zero_add, Nat.add_zero]
    exact ⟨fun _ => hK mi ho hP, fun z => absurd (show d < 8 * deg by omega) z⟩
  | succ r ih =>
    intro k w b P mi hr hk hw hb ho hP hR hK
    have hE := h0.off (fun o o1 o2 => ho o (by omega))
    have hkd : k * deg ≤ 8 * 13 := Nat.mul_le_mul (by omega) (by omega)
    unfold spo at hR
    rw [hdeg, Nat.add_sub_cancel] at hR
    apply b_X0_spread_18
    simp (disch := omega) only [s_le, s_lt, s_eq, s_eq0, s_in, s_ix, s_rm, s_div, s_pdlt, s_pdle, s_lepd, s_pdpd, s_pdlepd, s_pdadd, nI_add, pk_mul, pd_succ, Nat.not_lt_zero, Nat.zero_lt_succ, not_false_eq_true, not_true_eq_false, false_implies, true_implies, implies_true, and_true, true_and, Nat.reduceLT, Nat.reduceLeDiff, Nat.reduceAdd, Nat.reduceSub, Nat.zero_add, Nat.add_zero]
    refine ⟨fun z => absurd z (by omega), fun _ => p_rdegree hE.2.1 ?_⟩
    simp (disch := omega) only [s_le, s_lt, s_eq, s_eq0, s_in, s_ix, s_rm, s_div, s_pdlt, s_pdle, s_lepd, s_pdpd, s_pdlepd, s_pdadd, nI_add, pk_mul, pd_succ, Nat.not_lt_zero, Nat.zero_lt_succ, not_false_eq_true, not_true_eq_false, false_implies, true_implies, implies_true, and_true, true_and, Nat.reduceLT, Nat.reduceLeDiff, Nat.reduceAdd, Nat.reduceSub, Nat.zero_add, Nat.add_zero]
    refine ⟨fun c1 => ?_, fun c1 => ?_⟩
    · rw [if_pos c1] at hR
      have e1 : P = R := Option.some.inj hR
      subst e1
      exact hK mi ho hP
    rw [if_neg c1] at hR
    have e2 : (k - 1) * deg + deg = k * deg := by
      rw [← Nat.succ_mul]
      congr 1
      omega
    have lw := ln_le_lt (m := 13) hq2 hw
    have lp := ln_lt kp3
    have hwp : prd q w p < q ^ (k * deg + 1) := by
      have := prd_lt hq2 hw lp (by omega) (by omega)
      exact Nat.lt_of_lt_of_le this (Nat.pow_le_pow_right (by omega) (by omega))
    have hwp13 : prd q w p < q ^ 13 := Nat.lt_of_lt_of_le hwp (Nat.pow_le_pow_right (by omega) (by omega))
    refine p_product hE.1 (Nat.lt_of_lt_of_le hw (Nat.pow_le_pow_right (by omega) (by omega))) kp3 (by omega) ?_
    refine p_nsp hE hc hc25 hc67 hwp13 (hf.off (ho c (by omega))) (fun mi1 ho1 => ?_)
    have ho2 : off1367 mi0 mi1 := fun o oo => by rw [ho1 o (by omega)]; exact ho o oo
    have hns := nsl_le (q := q) (m := m) (d := d) (f := f) (a := prd q w p) d 0 0 tS0
    have hns2 : nsp q m d f (prd q w p) ≤ 7 := by
      unfold nsp
      omega
    have hdiv : nsp q m d f (prd q w p) / deg ≤ 7 := Nat.le_trans (Nat.div_le_self _ _) hns2
    rw [s_div (by omega) (by omega) (by omega)]
    refine ⟨by omega, ?_⟩
    cases hS : spi q p (min (nsp q m d f (prd q w p) / deg - b) 7) 0 P with
    | none =>
      rw [hS] at hR
      cases hR
    | some P1 =>
      rw [hS] at hR
      refine p_spread_in hp (by omega) hb mi0 h0.1 (min (nsp q m d f (prd q w p) / deg - b) 7) 0 P mi1 (Nat.zero_add _) ho2 (fun i hi => ?_) hS (fun mi2 ho3 hP3 => ?_)
      · rw [ho1 13 (by omega)]
        exact hP i hi
      · exact ih (k + 1) _ _ P1 mi2 (by omega) (by omega) (by rw [Nat.add_sub_cancel]; exact hwp) (by omega) ho3 hP3 hR hK
theorem p_spread (h0 : En q m d n g mi) {c p : Nat} (hc : isR c) (hc25 : an c ≤ 25) (hc67 : 67 < c) {f : Nat → Nat} (hf : Rw n mi c f) (hp : Mn q p) {P R : Nat → Nat} (hP : Pr q mi P) (hR : spr q m d f p P = some R) {K : (Nat → Nat → Int32) → (Nat → Nat → Int64) → Prop}
    (hK : ∀ mi1, off1367 mi mi1 → Pr q mi1 R → K mi1 ml) : wpV G e 154 m_X0_spread [.ref 11, .ref c, .int (nI p)] (mi, ml, RX y) K := by
  have hq2 := h0.w.q2
  obtain ⟨kp, kp1, kp2, kp3⟩ := id hp
  have hl := ln_le q 13 p
  apply e_X0_spread
  refine p_degree h0.1 kp3 ?_
  unfold spr at hR
  rw [kp1, pd_succ]
  rcases Nat.eq_zero_or_pos kp with z | z
  · rw [if_pos (by omega)] at hR
    have e1 : P = R := Option.some.inj hR
    subst e1
    subst z
    apply b_X0_spread_18
    simp (disch := omega) only [s_le, s_lt, s_eq, s_eq0, s_in, s_ix, s_rm, s_div, s_pdlt, s_pdle, s_lepd, s_pdpd, s_pdlepd, s_pdadd, nI_add, pk_mul, pd_succ, Nat.not_lt_zero, Nat.zero_lt_succ, not_false_eq_true, not_true_eq_false, false_implies, true_implies, implies_true, and_true, true_and, Nat.reduceLT, Nat.reduceLeDiff, Nat.reduceAdd, Nat.reduceSub, Nat.zero_add, Nat.add_zero]
    exact hK mi (fun _ _ => rfl) hP
  · rw [if_neg (by omega)] at hR
    refine p_spread_loop hc hc25 hc67 hp mi h0 hf kp1 z 7 1 1 0 P mi rfl (Nat.le_refl 1) ?_ (by omega) (fun _ _ => rfl) hP hR hK
    show 1 < q ^ (0 * kp + 1)
    rw [Nat.zero_mul, Nat.zero_add, Nat.pow_one]
    omega
end PAR
