/-! class Ties: rows that are one rest -/
/-- x reduced: (0, tag, _) tied; (p + 1, tag, x') to be kept at p -/
def ta1 (q : Nat) (fl : Nat → Bool) (v tg : Nat → Nat) : Nat → Nat → Nat → Nat × Nat × Nat
  | 0, x, t => (0, t, x)
  | p + 1, x, t => if dg q x p = 0 then ta1 q fl v tg p x t else if fl p = true then ta1 q fl v tg p (cmb q ((q - dg q x p) % q) 13 x (v p)) (cmb q ((q - dg q x p) % q) 13 t (tg p)) else (p + 1, t, x)
theorem r1_0 (x : Nat) : r1 x 0 = x := if_pos rfl
theorem r1_s (x j : Nat) : r1 x (j + 1) = 0 := if_neg (by omega)
theorem tal_one {q : Nat} {rw : Nat → Nat → Nat} {p x : Nat} (h : p < 7) : tal q rw p (r1 x) = r1 (cmb q ((q - dg q x p) % q) 13 x (rw p 0)) := by
  have e1 : p / 7 = 0 := by omega
  have e2 : p % 7 = p := by omega
  funext j
  unfold tal
  rw [e1, e2, r1_0]
  cases j with
  | zero => rw [if_pos (Nat.le_refl 0), r1_0, r1_0]
  | succ j => rw [if_neg (by omega), r1_s, r1_s]
theorem ta_one {q : Nat} {fl : Nat → Bool} {rw : Nat → Nat → Nat} {tg : Nat → Nat} : ∀ (p : Nat) (x t : Nat), p ≤ 7 →
    ta q fl rw tg p (r1 x) t = ((ta1 q fl (fun a => rw a 0) tg p x t).1, (ta1 q fl (fun a => rw a 0) tg p x t).2.1, r1 (ta1 q fl (fun a => rw a 0) tg p x t).2.2) := by
  intro p
  induction p with
  | zero =>
    intro x t h
    rfl
  | succ p ih =>
    intro x t h
    have e1 : p / 7 = 0 := by omega
    have e2 : p % 7 = p := by omega
    unfold ta ta1
    rw [e1, e2, r1_0]
    by_cases c1 : dg q x p = 0
    · rw [if_pos c1, if_pos c1]
      exact ih x t (by omega)
    · rw [if_neg c1, if_neg c1]
      by_cases c2 : fl p = true
      · rw [if_pos c2, if_pos c2, tal_one (by omega)]
        exact ih _ _ (by omega)
      · rw [if_neg c2, if_neg c2]
theorem ta_49 {q : Nat} {fl : Nat → Bool} {rw : Nat → Nat → Nat} {tg : Nat → Nat} {x t : Nat} : ta q fl rw tg 49 (r1 x) t = ta q fl rw tg 7 (r1 x) t := by
  have : ∀ r, ta q fl rw tg (7 + r) (r1 x) t = ta q fl rw tg 7 (r1 x) t := by
    intro r
    induction r with
    | zero => rfl
    | succ r ih =>
      show ta q fl rw tg (7 + r + 1) (r1 x) t = _
      unfold ta
      have e1 : r1 x ((7 + r) / 7) = 0 := if_neg (by omega)
      rw [e1, dg_zero, if_pos rfl]
      exact ih
  exact this 42
theorem ta1_tag {q : Nat} (h2 : 2 ≤ q) {fl : Nat → Bool} {v tg : Nat → Nat} : ∀ (p x t : Nat), t < q ^ 13 → (ta1 q fl v tg p x t).2.1 < q ^ 13
  | 0, _, _, ht => ht
  | p + 1, x, t, ht => by
    unfold ta1
    split
    · exact ta1_tag h2 p _ _ ht
    split
    · exact ta1_tag h2 p _ _ (cmb_lt _ h2 13 _ _)
    · exact ht
theorem ta1_le {q : Nat} {fl : Nat → Bool} {v tg : Nat → Nat} : ∀ (p x t : Nat), (ta1 q fl v tg p x t).1 ≤ p
  | 0, _, _ => Nat.le_refl 0
  | p + 1, x, t => by
    unfold ta1
    split
    · exact Nat.le_succ_of_le (ta1_le p _ _)
    split
    · exact Nat.le_succ_of_le (ta1_le p _ _)
    · exact Nat.le_refl _
/-- what is there: which, the rests, the tags -/
abbrev TSt : Type := (Nat → Bool) × (Nat → Nat) × (Nat → Nat)
def tS0 : TSt := (fun _ => false, fun _ => 0, fun _ => 0)
def kv1 (q : Nat) (v : Nat → Nat) (p x y : Nat) : Nat → Nat := fun a => if a = p then cmb q (iv q (dg q x p)) 13 0 y else v a
/-- what is there with x at p, its tag t -/
def tSk (q : Nat) (S : TSt) (p x t : Nat) : TSt := (kfl S.1 p, kv1 q S.2.1 p x x, kv1 q S.2.2 p x t)
/-- x of tag t comes: (0, tag, ..) or (p + 1, tag, ..), and what is there then -/
def tS (q : Nat) (S : TSt) (x t : Nat) : Nat × Nat × TSt :=
  ((ta1 q S.1 S.2.1 S.2.2 7 x t).1, (ta1 q S.1 S.2.1 S.2.2 7 x t).2.1, if (ta1 q S.1 S.2.1 S.2.2 7 x t).1 = 0 then S else tSk q S ((ta1 q S.1 S.2.1 S.2.2 7 x t).1 - 1) (ta1 q S.1 S.2.1 S.2.2 7 x t).2.2 (ta1 q S.1 S.2.1 S.2.2 7 x t).2.1)
def T1 (q n : Nat) (mi : Nat → Nat → Int32) (S : TSt) : Prop := ∃ rw, Ts q n mi S.1 rw S.2.2 ∧ S.2.1 = fun a => rw a 0
theorem nI_neg1 {a : Nat} (h : a < 2 ^ 31) : ¬ nI a = -(nI 1) := by
  intro z
  have e1 := nI_toInt h
  rw [z] at e1
  have e2 : (-(nI 1)).toInt = -1 := by decide
  rw [e2] at e1
  omega
section TIE3
variable {G : GC} {e q m d n g : Nat} {mi : Nat → Nat → Int32} {ml : Nat → Nat → Int64} {y : Nat → Nat → Option Nat}
theorem T1.off {mi1 : Nat → Nat → Int32} {S : TSt} (h : T1 q n mi S) (ho : ∀ o, 16 ≤ o → o ≤ 66 → mi1 o = mi o) : T1 q n mi1 S := by
  obtain ⟨rw, h1, h2⟩ := h
  exact ⟨rw, h1.off ho, h2⟩
theorem p_clear1 {K : (Nat → Nat → Int32) → (Nat → Nat → Int64) → Prop} (hK : ∀ mi1 : Nat → Nat → Int32, (∀ o, o ≠ 66 → mi1 o = mi o) → T1 q n mi1 tS0 → K mi1 ml) : wpV G e 154 m_X7_clear [.ref 14] (mi, ml, RX y) K :=
  p_tclear (q := q) (n := n) (fun mi1 ho hT => hK mi1 ho ⟨_, hT, rfl⟩)
theorem p_drop1 (hq0 : 0 < q) {S : TSt} (h : T1 q n mi S) {K : (Nat → Nat → Int32) → (Nat → Nat → Int64) → Prop} (hK : ∀ mi1 : Nat → Nat → Int32, (∀ o, o ≠ 65 → mi1 o = mi o) → T1 q n mi1 (S.1, S.2.1, fun _ => 0) → K mi1 ml) : wpV G e 154 m_X7_dropTags [.ref 14] (mi, ml, RX y) K := by
  obtain ⟨rw, h1, h2⟩ := h
  exact p_dropTags hq0 h1 (fun mi1 ho hT => hK mi1 ho ⟨rw, hT, h2⟩)
theorem p_add1 (h0 : En q m d n g mi) {x t : Nat} (hx : x < n) (ht : t < q ^ 13) {S : TSt} (hT : T1 q n mi S) {K : Int32 → (Nat → Nat → Int32) → (Nat → Nat → Int64) → Prop}
    (hK : ∀ mi1 : Nat → Nat → Int32, (∀ o, (o < 16 ∨ 67 < o) → mi1 o = mi o) → T1 q n mi1 (tS q S x t).2.2 → K (if (tS q S x t).1 = 0 then nI (tS q S x t).2.1 else -(nI 1)) mi1 ml) :
    wpI G e 154 m_X7_addRest [.ref 14, .int (nI x), .int (nI t)] (mi, ml, RX y) K := by
  obtain ⟨rw, h1, h2⟩ := hT
  unfold tS at hK
  rw [h2] at hK
  refine p_addRest h0 hx ht h1 ?_
  rw [ta_49, ta_one 7 x t (Nat.le_refl 7)]
  refine ⟨fun z mi1 ho => ?_, fun p z mi1 ho hT => ?_⟩
  · have z1 : (ta1 q S.1 (fun a => rw a 0) S.2.2 7 x t).1 = 0 := z
    have := hK mi1 (fun o h => ho o (by omega)) (by
      show T1 q n mi1 (if _ then _ else _)
      rw [if_pos z1]
      exact ⟨rw, h1.off (fun o o1 o2 => ho o (by omega)), h2⟩)
    rw [if_pos z1] at this
    exact this
  · have z1 : (ta1 q S.1 (fun a => rw a 0) S.2.2 7 x t).1 = p + 1 := z
    have hp7 : p < 7 := by
      have := ta1_le (q := q) (fl := S.1) (v := fun a => rw a 0) (tg := S.2.2) 7 x t
      omega
    have e1 : p / 7 = 0 := by omega
    have e2 : p % 7 = p := by omega
    have hT2 : T1 q n mi1 (tSk q S p (ta1 q S.1 (fun a => rw a 0) S.2.2 7 x t).2.2 (ta1 q S.1 (fun a => rw a 0) S.2.2 7 x t).2.1) := by
      refine ⟨krw q rw p (r1 (ta1 q S.1 (fun a => rw a 0) S.2.2 7 x t).2.2), ?_, ?_⟩
      · have e3 : (tSk q S p (ta1 q S.1 (fun a => rw a 0) S.2.2 7 x t).2.2 (ta1 q S.1 (fun a => rw a 0) S.2.2 7 x t).2.1).2.2 = ktg q S.2.2 p (ta1 q S.1 (fun a => rw a 0) S.2.2 7 x t).2.1 (r1 (ta1 q S.1 (fun a => rw a 0) S.2.2 7 x t).2.2) := by
          funext a
          unfold tSk kv1 ktg ksc
          rw [e1, e2, r1_0]
        rw [e3]
        exact hT
      · funext a
        unfold tSk kv1 krw ksc
        rw [e1, e2, r1_0, h2]
    have := hK mi1 (fun o h => ho o (by omega) (by omega)) (by
      show T1 q n mi1 (if _ then _ else _)
      rw [if_neg (by omega), z1, Nat.add_sub_cancel]
      exact hT2)
    rw [if_neg (by omega)] at this
    exact this
end TIE3
