/-! class Maps: lead, dual, make -/
def rowsB : Bool := Nat.beq (ak 69) 11 && Nat.beq (an 69) 25 && Nat.beq (ak 70) 11 && Nat.beq (an 70) 25 && Nat.beq (ak 71) 11 && Nat.beq (an 71) 25 && Nat.beq (ak 72) 11 && Nat.beq (an 72) 4 && Nat.beq (ak 153) 11 && Nat.beq (an 153) 25
theorem rows_t : rowsB = true := by decide +kernel
theorem rowK : (isR 69 ∧ an 69 = 25) ∧ (isR 70 ∧ an 70 = 25) ∧ (isR 71 ∧ an 71 = 25) ∧ (isR 72 ∧ an 72 = 4) ∧ isR 153 ∧ an 153 = 25 := by
  have h := rows_t
  unfold rowsB at h
  simp only [Bool.and_eq_true, nbq] at h
  obtain ⟨⟨⟨⟨⟨⟨⟨⟨⟨a1, a2⟩, a3⟩, a4⟩, a5⟩, a6⟩, a7⟩, a8⟩, a9⟩, b1⟩ := h
  exact ⟨⟨⟨⟨a1, by omega⟩, by rw [a2]; omega⟩, a2⟩, ⟨⟨⟨a3, by omega⟩, by rw [a4]; omega⟩, a4⟩, ⟨⟨⟨a5, by omega⟩, by rw [a6]; omega⟩, a6⟩, ⟨⟨⟨a7, by omega⟩, by rw [a8]; omega⟩, a8⟩, ⟨⟨a9, by omega⟩, by rw [b1]; omega⟩, b1⟩
/-- what V u = u G leaves, and V -/
def lds (q m d n : Nat) (u g : Nat → Nat) : (Nat → Nat) × (Nat → Nat) := dvd q m d n 25 (cv q m d u g) u
abbrev TSf : Type := (Nat → Bool) × (Nat → Nat → Nat) × (Nat → Nat)
def tF0 : TSf := (fun _ => false, fun _ _ => 0, fun _ => 0)
/-- a row of tag t comes -/
def tF (q : Nat) (S : TSf) (f : Nat → Nat) (t : Nat) : Nat × Nat × TSf :=
  ((ta q S.1 S.2.1 S.2.2 49 f t).1, (ta q S.1 S.2.1 S.2.2 49 f t).2.1, if (ta q S.1 S.2.1 S.2.2 49 f t).1 = 0 then S else
    (kfl S.1 ((ta q S.1 S.2.1 S.2.2 49 f t).1 - 1), krw q S.2.1 ((ta q S.1 S.2.1 S.2.2 49 f t).1 - 1) (ta q S.1 S.2.1 S.2.2 49 f t).2.2, ktg q S.2.2 ((ta q S.1 S.2.1 S.2.2 49 f t).1 - 1) (ta q S.1 S.2.1 S.2.2 49 f t).2.1 (ta q S.1 S.2.1 S.2.2 49 f t).2.2))
def tlong (f g : Nat → Nat) : Prop := 0 < rl f 25 ∧ 0 < rl g 25 ∧ 26 < rl f 25 + rl g 25
def dnl (q m d n : Nat) (u g : Nat → Nat) : Nat → Nat → (Nat → Nat) → TSf → Option Nat
  | 0, _, _, _ => none
  | r + 1, k, f, S => if (tF q S (dvd q m d n 25 f u).1 (q ^ k)).1 = 0 then some (tF q S (dvd q m d n 25 f u).1 (q ^ k)).2.1 else
      if 0 < rl f 25 ∧ 0 < rl g 25 ∧ 26 < rl f 25 + rl g 25 then none else dnl q m d n u g r (k + 1) (cv q m d f g) (tF q S (dvd q m d n 25 f u).1 (q ^ k)).2.2
/-- the number of the dual -/
def dnu (q m d n : Nat) (u g : Nat → Nat) : Option Nat := dnl q m d n u g 5 0 (r1 1) tF0
/-- t - s behind f, up to k -/
def mks (q m d : Nat) (f : Nat → Nat) (s k : Nat) : Nat → Nat := fun i => if i ≤ k then cmb q (q - 1) 13 (if i = 0 then 0 else tu q m d (f (i - 1)) 1) (mu q m s (f i)) else f i
def mkl (q m d n : Nat) (g : Nat → Nat) : Nat → Nat → Nat → (Nat → Nat) → (Nat → Nat)
  | 0, _, _, f => f
  | r + 1, k, x, f => if vl q m d f x = 0 then f else mkl q m d n g r (k + 1) (vl q m d g x) (mks q m d f (dv q m n (tu q m d (vl q m d f x) 1) (vl q m d f x)) k)
/-- the map that x makes -/
def mak (q m d n : Nat) (g : Nat → Nat) (x : Nat) : Nat → Nat := mkl q m d n g d 1 x (r1 1)
theorem ta_tag {q : Nat} (h2 : 2 ≤ q) {fl : Nat → Bool} {rw : Nat → Nat → Nat} {tg : Nat → Nat} : ∀ (p : Nat) (f : Nat → Nat) (t : Nat), t < q ^ 13 → (ta q fl rw tg p f t).2.1 < q ^ 13 := by
  intro p
  induction p with
  | zero => intro f t ht; exact ht
  | succ p ih =>
    intro f t ht
    unfold ta
    split
    · exact ih _ _ ht
    split
    · exact ih _ _ (cmb_lt _ h2 13 _ _)
    · exact ht
theorem dvd_lt {q m d n N : Nat} (wd : Wd q m d n) {f h : Nat → Nat} (hf : ∀ k, f k < n) (hh : ∀ k, h k < n) : (∀ i, (dvd q m d n N f h).1 i < n) ∧ ∀ i, (dvd q m d n N f h).2 i < n :=
  dvl_lt wd hh _ f _ hf (fun _ => by have := wd.n2; show 0 < n; omega)
theorem mks_lt {q m d n : Nat} (w : Wd q m d n) {f : Nat → Nat} (hf : ∀ k, f k < n) (s k : Nat) : ∀ i, mks q m d f s k i < n := by
  intro i
  unfold mks
  split
  · refine cmb_ltn w ?_ (mu_lt w (hf i))
    split
    · have := w.n2
      omega
    · exact tu_lt w (hf _)
  · exact hf i
section MAP
variable {G : GC} {e q m d n g : Nat} {mi : Nat → Nat → Int32} {ml : Nat → Nat → Int64} {y : Nat → Nat → Option Nat}
theorem p_copyR {a c : Nat} (ha : isR a) (hc : isR c) (hac : a ≠ c) (hn : n ≤ 128) {f : Nat → Nat} (hf : Rw n mi a f) (hz : ∀ k, an c ≤ k → f k = 0) {K : (Nat → Nat → Int32) → (Nat → Nat → Int64) → Prop} (hK : ∀ mi1 : Nat → Nat → Int32, (∀ o, o ≠ c → mi1 o = mi o) → Rw n mi1 c f → K mi1 ml) : wpV G e 154 m_X8_copy [.ref a, .ref c] (mi, ml, RX y) K := by
  refine p_copy ha hc hac (hf.row hn) (fun mi1 ho h1 => hK mi1 ho ⟨fun k hk => ?_, hz, hf.2.2⟩)
  have h2 : mi1 c k = nI (if k < an a then f k else 0) := (h1 k hk).1
  rw [h2]
  by_cases c1 : k < an a
  · rw [if_pos c1]
  · rw [if_neg c1, hf.2.1 k (by omega)]
theorem p_lead (h0 : En q m d n g mi) {c1 c2 c3 : Nat} (h1 : isR c1) (h2 : isR c2) (h3 : isR c3) (a1 : an c1 = 8) (a2 : an c2 = 4) (a3 : an c3 = 25) (h13 : c1 ≠ c3) (b1 : 72 < c1) (b2 : 72 < c2) (b3 : 72 < c3) {u v : Nat → Nat} (hu : Rw n mi c1 u) (hv : Rw n mi c2 v) (hu0 : 0 < rl u 8) {K : Int32 → (Nat → Nat → Int32) → (Nat → Nat → Int64) → Prop}
    (hK : ∀ mi1 : Nat → Nat → Int32, (∀ o, o ≠ 70 → o ≠ c3 → mi1 o = mi o) → Rw n mi1 c3 (lds q m d n u v).2 → K (nI (if rl (lds q m d n u v).1 25 = 0 then 1 else 0)) mi1 ml) :
    wpI G e 154 m_X2_lead [.ref 68, .ref c1, .ref c2, .ref c3] (mi, ml, RX y) K := by
  have w := h0.w
  have hn128 : n ≤ 128 := w.2.2.2.2.2.2
  obtain ⟨-, ⟨r70, l70⟩, -⟩ := rowK
  have hu8 : rl u 25 = rl u 8 := rl_ext (by omega) (fun k hk => hu.2.1 k (by omega))
  have hul := rl_le u 8
  have hvl := rl_le v 4
  have hN := h3.2
  unfold lds at hK
  apply e_X2_lead
  refine p_copyR h1 r70 (by omega) hn128 hu (fun k hk => hu.2.1 k (by omega)) (fun mi1 ho1 hl1 => ?_)
  have hE1 := h0.off (fun o o1 o2 => ho1 o (by omega))
  refine p_multiply hE1 r70 h2 (by omega) (by omega) (by omega) (by omega) hl1 (hv.off (ho1 c2 (by omega))) (fun d1 d2 d3 => ?_) (fun _ mi2 ho2 hl2 => ?_)
  · rw [l70] at d3
    rw [a2, hu8] at d3
    omega
  have hE2 := hE1.off (fun o o1 o2 => ho2 o (by omega))
  refine ⟨fun _ => ?_, fun z => absurd z (by decide)⟩
  have hu2 : Rw n mi2 c1 u := (hu.off (ho1 c1 (by omega))).off (ho2 c1 (by omega))
  refine p_divide hE2 r70 h1 h3 (by omega) (by omega) h13 (by omega) (by omega) (by omega) (by omega) hl2 hu2 (by rw [a1]; exact hu0) (fun mi3 ho3 hl3 hw3 => ?_)
  rw [l70] at hl3 hw3
  refine p_degreeOf r70 (hl3.row hn128) ?_
  rw [l70]
  have hrl := rl_le (dvd q m d n 25 (cv q m d u v) u).1 25
  have hK1 := hK mi3 (fun o o70 oc => by rw [ho3 o o70 oc, ho2 o o70, ho1 o o70]) hw3
  simp (disch := omega) only [s_le, s_lt, s_eq, s_eq0, s_in, s_ix, s_rm, s_div, s_pdlt, s_pdle, s_lepd, s_pdpd, s_pdlepd, s_pdadd, nI_add, pk_mul, pd_succ, Nat.not_lt_zero, Nat.zero_lt_succ, not_false_eq_true, not_true_eq_false, false_implies, true_implies, implies_true, and_true, true_and, Nat.reduceLT, Nat.reduceLeDiff, Nat.reduceAdd, Nat.reduceSub, Nat.zero_add, Nat.add_zero]
  refine ⟨fun z => ⟨Or.inl rfl, ?_⟩, fun z => ⟨Or.inr rfl, ?_⟩⟩
  · rw [if_neg (by omega)] at hK1
    exact hK1
  · rw [if_pos (by omega)] at hK1
    exact hK1
def Tf (q n : Nat) (mi : Nat → Nat → Int32) (S : TSf) : Prop := Ts q n mi S.1 S.2.1 S.2.2
theorem p_addF (h0 : En q m d n g mi) {c t : Nat} (hc : isR c) (hc67 : 66 < c) (ht : t < q ^ 13) {f : Nat → Nat} (hf : Rw n mi c f) (hc7 : 7 ≤ an c) {S : TSf} (hT : Tf q n mi S) {K : Int32 → (Nat → Nat → Int32) → (Nat → Nat → Int64) → Prop}
    (hK : ∀ mi1 : Nat → Nat → Int32, (∀ o, o ≠ c → (o < 16 ∨ 66 < o) → mi1 o = mi o) → Tf q n mi1 (tF q S f t).2.2 → K (if (tF q S f t).1 = 0 then nI (tF q S f t).2.1 else -(nI 1)) mi1 ml) :
    wpI G e 154 m_X7_add [.ref 14, .ref c, .int (nI t)] (mi, ml, RX y) K := by
  unfold tF at hK
  refine p_tadd h0 hc hc67 ht hf hT hc7 ⟨fun z mi1 ho => ?_, fun p z mi1 ho hT1 => ?_⟩
  · have := hK mi1 (fun o h _ => ho o h) (by
      show Tf q n mi1 (if _ then _ else _)
      rw [if_pos z]
      exact Ts.off hT (fun o o1 o2 => ho o (by omega)))
    rw [if_pos z] at this
    exact this
  · have := hK mi1 ho (by
      show Tf q n mi1 (if _ then _ else _)
      rw [if_neg (by omega), z, Nat.add_sub_cancel]
      exact hT1)
    rw [if_neg (by omega)] at this
    exact this
def off72 (mi mi1 : Nat → Nat → Int32) : Prop := ∀ o, (o < 7 ∨ 72 < o) → mi1 o = mi o
theorem En.off72 {mi1 : Nat → Nat → Int32} (h : En q m d n g mi) (ho : off72 mi mi1) : En q m d n g mi1 := h.off (fun o _ _ => ho o (by omega))
theorem Rw_r1 {c : Nat} (hc : 0 < an c) (hn : 2 ≤ n) {mi1 : Nat → Nat → Int32} (h : Row mi1 c (fun _ => 0)) : Rw n (u2 mi1 c 0 (nI 1)) c (r1 1) := by
  refine ⟨fun k hk => ?_, fun k hk => if_neg (by omega), fun k => ?_⟩
  · rw [u2_on]
    show (if k = 0 then _ else _) = nI (if k = 0 then 1 else 0)
    by_cases z : k = 0
    · rw [if_pos z, if_pos z]
    · rw [if_neg z, if_neg z]
      exact (h k hk).1
  · show (if k = 0 then 1 else 0) < n
    split <;> omega
theorem p_dnu_loop {c1 c2 : Nat} (h1 : isR c1) (h2 : isR c2) (a1 : an c1 = 8) (a2 : an c2 = 4) (b1 : 72 < c1) (b2 : 72 < c2) {u v : Nat → Nat} (mi0 : Nat → Nat → Int32) (h0 : En q m d n g mi0) (hu : Rw n mi0 c1 u) (hv : Rw n mi0 c2 v) (hu0 : 0 < rl u 8) {K : Int32 → (Nat → Nat → Int32) → (Nat → Nat → Int64) → Prop} :
    ∀ (r k : Nat) (f : Nat → Nat) (S : TSf) (mi : Nat → Nat → Int32), r + k = 5 → off72 mi0 mi → Rw n mi 69 f → Tf q n mi S → (∀ mi1, off72 mi0 mi1 → K (oI (dnl q m d n u v r k f S)) mi1 ml) →
      wp G e tX m_X2_dualNumber 23 [(0, .ref 68), (1, .ref c1), (2, .ref c2), (3, .int (nI k))] [] (mi, ml, RX y) (QI K) := by
  have w := h0.w
  have hq2 := w.q2
  have hn128 : n ≤ 128 := w.2.2.2.2.2.2
  have h31 := pow_lt31 (M := 13) w.1 (Nat.le_refl _)
  obtain ⟨⟨r69, l69⟩, ⟨r70, l70⟩, ⟨r71, l71⟩, -⟩ := rowK
  intro r
  induction r with
  | zero =>
    intro k f S mi hr ho hf hT hK
    apply b_X2_dualNumber_23
    simp (disch := omega) only [s_le, s_lt, s_eq, s_eq0, s_in, s_ix, s_rm, s_div, s_pdlt, s_pdle, s_lepd, s_pdpd, s_pdlepd, s_pdadd, nI_add, pk_mul, pd_succ, Nat.not_lt_zero, Nat.zero_lt_succ, not_false_eq_true, not_true_eq_false, false_implies, true_implies, implies_true, and_true, true_and, Nat.reduceLT, Nat.reduceLeDiff, Nat.reduceAdd, Nat.reduceSub, Nat.zero_add, Nat.add_zero]
    exact ⟨fun _ => hK mi ho, fun z => absurd (show 4 < k by omega) z⟩
  | succ r ih =>
    intro k f S mi hr ho hf hT hK
    have hE := h0.off72 ho
    have hk13 : q ^ k < q ^ 13 := Nat.pow_lt_pow_right (by omega) (by omega)
    unfold dnl at hK
    apply b_X2_dualNumber_23
    simp (disch := omega) only [s_le, s_lt, s_eq, s_eq0, s_in, s_ix, s_rm, s_div, s_pdlt, s_pdle, s_lepd, s_pdpd, s_pdlepd, s_pdadd, nI_add, pk_mul, pd_succ, Nat.not_lt_zero, Nat.zero_lt_succ, not_false_eq_true, not_true_eq_false, false_implies, true_implies, implies_true, and_true, true_and, Nat.reduceLT, Nat.reduceLeDiff, Nat.reduceAdd, Nat.reduceSub, Nat.zero_add, Nat.add_zero]
    refine ⟨fun z => absurd z (by omega), fun _ => ?_⟩
    refine p_copyR r69 r70 (by omega) hn128 hf (fun j hj => hf.2.1 j (by omega)) (fun mi1 ho1 hl1 => ?_)
    have hE1 := hE.off (fun o o1 o2 => ho1 o (by omega))
    have hu1 : Rw n mi1 c1 u := (hu.off (ho c1 (by omega))).off (ho1 c1 (by omega))
    refine p_divide hE1 r70 h1 r71 (by omega) (by omega) (by omega) (by omega) (by omega) (by omega) (by omega) hl1 hu1 (by rw [a1]; exact hu0) (fun mi2 ho2 hl2 hw2 => ?_)
    rw [l70] at hl2 hw2
    have hE2 := hE1.off (fun o o1 o2 => ho2 o (by omega) (by omega))
    have hT2 : Tf q n mi2 S := Ts.off hT (fun o o1 o2 => by rw [ho2 o (by omega) (by omega), ho1 o (by omega)])
    refine p_power hE2.1 (by omega) (p_addF hE2 r70 (by omega) hk13 hl2 (by omega) hT2 (fun mi3 ho3 hT3 => ?_))
    have ho4 : off72 mi0 mi3 := fun o oo => by rw [ho3 o (by omega) (by omega), ho2 o (by omega) (by omega), ho1 o (by omega)]; exact ho o oo
    have htag := ta_tag hq2 (fl := S.1) (rw := S.2.1) (tg := S.2.2) 49 (dvd q m d n 25 f u).1 _ hk13
    have htag2 : (tF q S (dvd q m d n 25 f u).1 (q ^ k)).2.1 < 2 ^ 31 := by
      show (ta q S.1 S.2.1 S.2.2 49 (dvd q m d n 25 f u).1 (q ^ k)).2.1 < _
      omega
    by_cases e1 : (tF q S (dvd q m d n 25 f u).1 (q ^ k)).1 = 0
    · rw [if_pos e1] at hK ⊢
      exact ⟨fun z => absurd z (nI_neg1 htag2), fun _ => hK mi3 ho4⟩
    · rw [if_neg e1] at hK ⊢
      refine ⟨fun _ => ?_, fun z => absurd rfl z⟩
      have hE3 := h0.off72 ho4
      have hf3 : Rw n mi3 69 f := ((hf.off (ho1 69 (by omega))).off (ho2 69 (by omega) (by omega))).off (ho3 69 (by omega) (by omega))
      have hv4 : rl v 25 = rl v 4 := rl_ext (by omega) (fun j hj => hv.2.1 j (by omega))
      rw [hv4] at hK
      refine p_multiply hE3 r69 h2 (by omega) (by omega) (by omega) (by omega) hf3 (hv.off (ho4 c2 (by omega))) (fun d1 d2 d3 => ?_) (fun dd mi4 ho5 hf5 => ?_)
      · rw [l69] at d1 d3
        rw [a2] at d2 d3
        rw [if_pos ⟨d1, d2, by omega⟩] at hK
        exact ⟨fun z => absurd rfl z, fun _ => hK mi3 ho4⟩
      · rw [l69, a2] at dd
        rw [if_neg (by omega)] at hK
        refine ⟨fun _ => ?_, fun z => absurd z (by decide)⟩
        exact ih (k + 1) _ _ mi4 (by omega) (fun o oo => by rw [ho5 o (by omega)]; exact ho4 o oo) hf5 (Ts.off hT3 (fun o o1 o2 => ho5 o (by omega))) hK
theorem p_dualNumber (h0 : En q m d n g mi) {c1 c2 : Nat} (h1 : isR c1) (h2 : isR c2) (a1 : an c1 = 8) (a2 : an c2 = 4) (b1 : 72 < c1) (b2 : 72 < c2) {u v : Nat → Nat} (hu : Rw n mi c1 u) (hv : Rw n mi c2 v) (hu0 : 0 < rl u 8) {K : Int32 → (Nat → Nat → Int32) → (Nat → Nat → Int64) → Prop}
    (hK : ∀ mi1, off72 mi mi1 → K (oI (dnu q m d n u v)) mi1 ml) : wpI G e 154 m_X2_dualNumber [.ref 68, .ref c1, .ref c2] (mi, ml, RX y) K := by
  obtain ⟨⟨r69, l69⟩, -⟩ := rowK
  apply e_X2_dualNumber
  refine p_tclear (q := q) (n := n) (fun mi1 ho1 hT1 => ?_)
  refine p_clear r69 (fun mi2 ho2 hr2 => ?_)
  simp (disch := omega) only [s_le, s_lt, s_eq, s_eq0, s_in, s_ix, s_rm, s_div, s_pdlt, s_pdle, s_lepd, s_pdpd, s_pdlepd, s_pdadd, nI_add, pk_mul, pd_succ, Nat.not_lt_zero, Nat.zero_lt_succ, not_false_eq_true, not_true_eq_false, false_implies, true_implies, implies_true, and_true, true_and, Nat.reduceLT, Nat.reduceLeDiff, Nat.reduceAdd, Nat.reduceSub, Nat.zero_add, Nat.add_zero]
  refine p_dnu_loop h1 h2 a1 a2 b1 b2 mi h0 hu hv hu0 5 0 (r1 1) tF0 _ rfl (fun o oo => by rw [u2_off (by omega), ho2 o (by omega), ho1 o (by omega)]) (Rw_r1 (by omega) h0.w.n2 hr2) (Ts.off (show Tf q n mi1 tF0 from hT1) (fun o o1 o2 => by rw [u2_off (by omega), ho2 o (by omega)])) hK
theorem p_dualRow (h0 : En q m d n g mi) {c1 c2 c4 a : Nat} (h1 : isR c1) (h2 : isR c2) (h4 : isR c4) (a1 : an c1 = 8) (a2 : an c2 = 4) (a4 : an c4 = 25) (h14 : c1 ≠ c4) (b1 : 72 < c1) (b2 : 72 < c2) (b4 : 72 < c4) (ha : a < q ^ 13) {u v : Nat → Nat} (hu : Rw n mi c1 u) (hv : Rw n mi c2 v) (hu0 : 0 < rl u 8) {K : Int32 → (Nat → Nat → Int32) → (Nat → Nat → Int64) → Prop}
    (hK0 : ¬ (trn q m d v a).1 = true → ∀ mi1, (∀ o, o ≠ 70 → mi1 o = mi o) → K (nI 0) mi1 ml)
    (hK1 : (trn q m d v a).1 = true → ∀ mi1, (∀ o, o ≠ 70 → o ≠ c4 → mi1 o = mi o) → Rw n mi1 c4 (dvd q m d n 25 (trn q m d v a).2 u).2 → K (nI 1) mi1 ml) :
    wpI G e 154 m_X2_dualRow [.ref 68, .ref c1, .ref c2, .int (nI a), .ref c4] (mi, ml, RX y) K := by
  obtain ⟨-, ⟨r70, l70⟩, -⟩ := rowK
  apply e_X2_dualRow
  refine p_turn h0 r70 l70 h2 (by omega) (by omega) (by omega) ha hv (fun mi1 ho1 hl1 => ?_)
  by_cases c : (trn q m d v a).1 = true
  · rw [if_pos c]
    refine ⟨fun _ => ?_, fun z => absurd z (by decide)⟩
    refine p_divide (h0.off (fun o o1 o2 => ho1 o (by omega))) r70 h1 h4 (by omega) (by omega) h14 (by omega) (by omega) (by omega) (by omega) hl1 (hu.off (ho1 c1 (by omega))) (by rw [a1]; exact hu0) (fun mi2 ho2 hl2 hw2 => ?_)
    rw [l70] at hw2
    exact ⟨Or.inr rfl, hK1 c mi2 (fun o o70 oc => by rw [ho2 o o70 oc, ho1 o o70]) hw2⟩
  · rw [if_neg c]
    exact ⟨fun z => absurd rfl z, fun _ => ⟨Or.inl rfl, hK0 c mi1 ho1⟩⟩
end MAP
