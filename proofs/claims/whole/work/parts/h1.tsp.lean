/-! the ties stand for a space -/
section TSP
variable {q m d n : Nat}
def TSp (q n : Nat) (S : TSt) (W : Nat → Prop) : Prop := ∃ (u : Nat → Nat → Nat) (N : Nat) (rw : Nat → Nat → Nat), (∀ i j, j < 7 → u i j < n) ∧ (fun a => rw a 0) = S.2.1 ∧ Tst q n u N S.1 rw ∧ ∀ x, x < n → (W x ↔ Spn q u N (r1 x))
theorem spn_cg {u u1 : Nat → Nat → Nat} {N : Nat} {c : Nat → Nat} (h : ∀ i j, i < N → u i j = u1 i j) (hc : Spn q u N c) : Spn q u1 N c := by
  obtain ⟨x, x1, x2⟩ := hc
  exact ⟨x, x1, fun j hj => by rw [x2 j hj]; exact lsm_ext (fun _ _ => rfl) (fun i hi => h i j hi)⟩
theorem tst_cg {u u1 : Nat → Nat → Nat} {N : Nat} {fl : Nat → Bool} {rw : Nat → Nat → Nat} (h : ∀ i j, i < N → u i j = u1 i j) (hT : Tst q n u N fl rw) : Tst q n u1 N fl rw := by
  refine ⟨fun p hp hf => ?_, fun c hc hs => hT.2 c hc (spn_cg (fun i j hi => (h i j hi).symm) hs)⟩
  obtain ⟨a, b, c, e⟩ := hT.1 p hp hf
  exact ⟨a, spn_cg h b, c, e⟩
theorem TSp_0 (w : Wd q m d n) : TSp q n tS0 (fun x => x = 0) := by
  refine ⟨fun _ _ => 0, 0, fun _ _ => 0, fun _ _ _ => w.pos, rfl, Tst_0 w, fun x hx => ⟨fun z => ?_, fun h => ?_⟩⟩
  · subst z
    refine ⟨fun _ => 0, fun _ => (show 0 < q by have := w.q2; omega), fun j _ => ?_⟩
    show (if j = 0 then 0 else 0) = 0
    split <;> rfl
  · obtain ⟨y, y1, y2⟩ := h
    exact y2 0 (by omega)
theorem TSp.drop {S : TSt} {W : Nat → Prop} {g : Nat → Nat} (h : TSp q n S W) : TSp q n (S.1, S.2.1, g) W := h
theorem TSp.cg {S : TSt} {W V : Nat → Prop} (h : TSp q n S W) (hW : ∀ x, x < n → (V x ↔ W x)) : TSp q n S V := by
  obtain ⟨u, N, rw, h1, h2, h3, h4⟩ := h
  exact ⟨u, N, rw, h1, h2, h3, fun x hx => (hW x hx).trans (h4 x hx)⟩
theorem r1_rq {x : Nat} {c : Nat → Nat} (h : ∀ j, 1 ≤ j → j < 7 → c j = 0) (h0 : c 0 = x) : Rq c (r1 x) := fun j hj => by
  by_cases z : j = 0
  · rw [z, h0]
    rfl
  · rw [h j (by omega) hj]
    exact (if_neg z).symm
theorem tie_feed (w : Wd q m d n) {S : TSt} {W : Nat → Prop} {x t : Nat} (h : TSp q n S W) (hx : x < n) : ((tS q S x t).1 = 0 ↔ W x) ∧ ((tS q S x t).1 = 0 → (tS q S x t).2.2 = S ∧ (ta1 q S.1 S.2.1 S.2.2 7 x t).2.2 = 0) ∧ (¬ (tS q S x t).1 = 0 → TSp q n (tS q S x t).2.2 (fun y => ∃ s z, s < q ∧ z < n ∧ W z ∧ y = cmb q s 13 z x)) := by
  have h2 := w.q2
  obtain ⟨u0, N, rw, h1, hS, hT0, h4⟩ := h
  obtain ⟨u, hu⟩ : ∃ u : Nat → Nat → Nat, u = fun i => if i = N then r1 x else u0 i := ⟨_, rfl⟩
  have huN : u N = r1 x := by
    rw [hu]
    exact if_pos rfl
  have hag : ∀ i j, i < N → u0 i j = u i j := fun i j hi => by
    rw [hu]
    show _ = (if i = N then r1 x else u0 i) j
    rw [if_neg (by omega)]
  have hag1 : ∀ i j, i < N → u i j = u0 i j := fun i j hi => (hag i j hi).symm
  have hT := tst_cg hag hT0
  have hU : ∀ i j, j < 7 → u i j < n := fun i j hj => by
    rw [hu]
    show (if i = N then r1 x else u0 i) j < n
    split
    · show (if j = 0 then x else 0) < n
      split
      · exact hx
      · exact w.pos
    · exact h1 i j hj
  obtain ⟨s1, s2, s3⟩ := ties_step w (N := N) (tg := S.2.2) (t := t) hU hT
  obtain ⟨a1, -, a5, -⟩ := ta_run w hT.1 (tg := S.2.2) 49 (u N) t (Nat.le_refl _) (hU N) (fun k h1 h3 => by omega)
  rw [huN, ta_49, ta_one 7 _ _ (Nat.le_refl _), hS] at s1 s2 s3 a1 a5
  dsimp only at s1 s2 s3 a1 a5
  have e0 : (tS q S x t).1 = (ta1 q S.1 S.2.1 S.2.2 7 x t).1 := rfl
  refine ⟨?_, fun c => ⟨?_, ?_⟩, fun c => ?_⟩
  · rw [e0, h4 x hx, s1]
    exact ⟨fun z => spn_cg hag1 z, fun z => spn_cg hag z⟩
  · show (if (ta1 q S.1 S.2.1 S.2.2 7 x t).1 = 0 then S else _) = _
    exact if_pos c
  · have hz0 : Rq (r1 (ta1 q S.1 S.2.1 S.2.2 7 x t).2.2) (fun _ => 0) := co_ext w a1 (fun _ _ => w.pos) (fun p hp1 => by
      rw [a5 c p hp1]
      exact (dg_zero ..).symm)
    exact hz0 0 (by omega)
  · rw [e0] at c
    obtain ⟨p, hpp⟩ : ∃ p, (ta1 q S.1 S.2.1 S.2.2 7 x t).1 = p + 1 := ⟨(ta1 q S.1 S.2.1 S.2.2 7 x t).1 - 1, by omega⟩
    have hp7 : p < 7 := by
      have := ta1_le (q := q) (fl := S.1) (v := S.2.1) (tg := S.2.2) 7 x t
      omega
    have hks : ksc q p (r1 (ta1 q S.1 S.2.1 S.2.2 7 x t).2.2) = iv q (dg q (ta1 q S.1 S.2.1 S.2.2 7 x t).2.2 p) := by
      unfold ksc
      rw [show p / 7 = 0 by omega, show p % 7 = p by omega]
      rfl
    have e5 : (tS q S x t).2.2 = tSk q S p (ta1 q S.1 S.2.1 S.2.2 7 x t).2.2 (ta1 q S.1 S.2.1 S.2.2 7 x t).2.1 := by
      show (if (ta1 q S.1 S.2.1 S.2.2 7 x t).1 = 0 then S else _) = _
      rw [if_neg c, hpp, Nat.add_sub_cancel]
    rw [e5]
    refine ⟨u, N + 1, krw q rw p (r1 (ta1 q S.1 S.2.1 S.2.2 7 x t).2.2), hU, ?_, s3 p hpp, fun y hy => ⟨fun ⟨s, z, z1, z2, z3, z4⟩ => ?_, fun hy1 => ?_⟩⟩
    · funext a
      show (if a = p then cmb q (ksc q p (r1 (ta1 q S.1 S.2.1 S.2.2 7 x t).2.2)) 13 0 (ta1 q S.1 S.2.1 S.2.2 7 x t).2.2 else rw a 0) = (if a = p then cmb q (iv q (dg q (ta1 q S.1 S.2.1 S.2.2 7 x t).2.2 p)) 13 0 (ta1 q S.1 S.2.1 S.2.2 7 x t).2.2 else S.2.1 a)
      rw [hks, ← hS]
    · have hz := spn_cg hag ((h4 z z2).mp z3)
      have hx1 : Spn q u (N + 1) (r1 x) := by
        have := Spn.self w hU (N := N)
        rw [huN] at this
        exact this
      refine ((hz.up h2).add h2 (s := s) hx1).rq (r1_rq (fun j j1 j2 => ?_) ?_)
      · show cmb q s 13 (r1 z j) (r1 x j) = 0
        rw [show r1 z j = 0 from if_neg (by omega), show r1 x j = 0 from if_neg (by omega), cmb_zero s h2]
      · rw [z4]
        rfl
    · obtain ⟨b, s, s4, s5, s6⟩ := Spn.last w hy1
      have hb := s5.rn w hU
      rw [huN] at s6
      have hbz : ∀ j, 1 ≤ j → j < 7 → b j = 0 := fun j j1 j2 => by
        have := s6 j j2
        have e1 : rad q s b (r1 x) j = cmb q s 13 (b j) (r1 x j) := rfl
        rw [e1, show r1 x j = 0 from if_neg (by omega), show r1 y j = 0 from if_neg (by omega), cmb_0r h2 (w.lt13 (hb j j2))] at this
        exact this.symm
      exact ⟨s, b 0, s4, hb 0 (by omega), (h4 _ (hb 0 (by omega))).mpr (spn_cg hag1 (s5.rq (r1_rq hbz rfl))), s6 0 (by omega)⟩
/-- what holds of each rest and its tag -/
theorem ta1_rel {A : Nat → Nat → Prop} (hA : ∀ s t x t1 x1, A t x → A t1 x1 → A (cmb q s 13 t t1) (cmb q s 13 x x1)) {fl : Nat → Bool} {v tg : Nat → Nat} (hk : ∀ p, p < 7 → fl p = true → A (tg p) (v p)) (p : Nat) : ∀ x t, p ≤ 7 → A t x → A (ta1 q fl v tg p x t).2.1 (ta1 q fl v tg p x t).2.2 := by
  induction p with
  | zero => exact fun x t _ h => h
  | succ p ih =>
    intro x t hp h
    have e : ta1 q fl v tg (p + 1) x t = if dg q x p = 0 then ta1 q fl v tg p x t else if fl p = true then ta1 q fl v tg p (cmb q ((q - dg q x p) % q) 13 x (v p)) (cmb q ((q - dg q x p) % q) 13 t (tg p)) else (p + 1, t, x) := rfl
    rw [e]
    split
    · exact ih x t (by omega) h
    split
    · next c => exact ih _ _ (by omega) (hA _ _ _ _ _ h (hk p (by omega) c))
    · exact h
theorem tSk_rel {A : Nat → Nat → Prop} (h0 : A 0 0) (hA : ∀ s t x t1 x1, A t x → A t1 x1 → A (cmb q s 13 t t1) (cmb q s 13 x x1)) {S : TSt} {p0 x1 t1 : Nat} (hk : ∀ p, p < 7 → S.1 p = true → A (S.2.2 p) (S.2.1 p)) (h : A t1 x1) : ∀ p, p < 7 → (tSk q S p0 x1 t1).1 p = true → A ((tSk q S p0 x1 t1).2.2 p) ((tSk q S p0 x1 t1).2.1 p) := by
  intro p hp hf
  have hf1 : (if p = p0 then true else S.1 p) = true := hf
  have e1 : (tSk q S p0 x1 t1).2.2 p = if p = p0 then cmb q (iv q (dg q x1 p0)) 13 0 t1 else S.2.2 p := rfl
  have e2 : (tSk q S p0 x1 t1).2.1 p = if p = p0 then cmb q (iv q (dg q x1 p0)) 13 0 x1 else S.2.1 p := rfl
  rw [e1, e2]
  by_cases c : p = p0
  · rw [if_pos c, if_pos c]
    exact hA (iv q (dg q x1 p0)) 0 0 t1 x1 h0 h
  · rw [if_neg c] at hf1
    rw [if_neg c, if_neg c]
    exact hk p hp hf1
theorem tS_rel {A : Nat → Nat → Prop} (h0 : A 0 0) (hA : ∀ s t x t1 x1, A t x → A t1 x1 → A (cmb q s 13 t t1) (cmb q s 13 x x1)) {S : TSt} {x t : Nat} (hk : ∀ p, p < 7 → S.1 p = true → A (S.2.2 p) (S.2.1 p)) (h : A t x) : ∀ p, p < 7 → (tS q S x t).2.2.1 p = true → A ((tS q S x t).2.2.2.2 p) ((tS q S x t).2.2.2.1 p) := by
  have h1 := ta1_rel hA hk 7 x t (Nat.le_refl _) h
  have e : (tS q S x t).2.2 = if (ta1 q S.1 S.2.1 S.2.2 7 x t).1 = 0 then S else tSk q S ((ta1 q S.1 S.2.1 S.2.2 7 x t).1 - 1) (ta1 q S.1 S.2.1 S.2.2 7 x t).2.2 (ta1 q S.1 S.2.1 S.2.2 7 x t).2.1 := rfl
  rw [e]
  by_cases c : (ta1 q S.1 S.2.1 S.2.2 7 x t).1 = 0
  · rw [if_pos c]
    exact hk
  · rw [if_neg c]
    exact tSk_rel h0 hA hk h1
end TSP
