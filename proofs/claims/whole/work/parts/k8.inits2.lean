/-! the constructors: both objects stand for the first world -/
section KIN
variable {G : GC} {e : Nat} {mi : Nat → Nat → Int32} {ml : Nat → Nat → Int64}
abbrev A0 : Ast := (2, 2, 0, 0, 0, fun _ _ => 0, fun _ _ => 0, fun _ => 0)
abbrev s00 : Cst := (A0, A0, (0, fun _ => 0), (fun _ => 0, fun _ _ => 0), (NONE, NONE))
abbrev z0 : Nat → Nat → Int32 := fun _ _ => 0
theorem pw0 : Pw 2 2 (dO A0) (nO A0) := modOK_is 2 2 (Or.inl rfl) (by decide +kernel)
theorem rw0 {c : Nat} (h : mi c = fun _ => 0) : Rw 128 mi c (fun _ => 0) := ⟨fun k _ => by rw [h]; exact nI_0.symm, fun _ _ => rfl, fun _ => by show 0 < 128; omega⟩
theorem si0 : SI A0 (dO A0) (nO A0) := ⟨pw0, Nat.zero_le _, Nat.le_refl _, Nat.zero_le _, Nat.zero_le _, Nat.zero_le _, fun _ => Nat.zero_le _, fun i hi => absurd hi (by show ¬ i < 0; omega), fun i hi => absurd hi (by show ¬ i < 0; omega)⟩
def fz (mi : Nat → Nat → Int32) : Prop := ∀ o, o ≠ 0 → o ≠ 1 → o ≠ 2 → o ≠ 3 → o ≠ 7 → o ≠ 73 → o ≠ 96 → o ≠ 121 → mi o = fun _ => 0
theorem sm0 {B : Nat} (hB : B = 96 ∨ B = 121) (h0 : mi B 0 = nI 2) (h1 : mi B 1 = nI 2) (h2 : mi B 2 = nI 0) (h3 : mi B 3 = nI 0) (h4 : mi B 4 = nI 0) (hz : fz mi) : SM B A0 mi := by
  have z : ∀ o, B < o → o ≤ B + 24 → mi o = fun _ => 0 := fun o a b => hz o (by omega) (by omega) (by omega) (by omega) (by omega) (by omega) (by omega) (by omega)
  refine ⟨h0, h1, h2, h3, h4, fun i hi => ⟨rw0 (z _ (by omega) (by omega)), rw0 (z _ (by omega) (by omega))⟩, ?_, ?_, fun i hi => ?_⟩
  · rw [z _ (by omega) (by omega)]
    exact nI_0.symm
  · rw [z _ (by omega) (by omega)]
    exact nI_0.symm
  · rw [z _ (by omega) (by omega)]
    exact nI_0.symm
theorem x_tail {K : Option Value → Mem → Prop} (f1 : Fg 2 mi) (f2 : mi 73 8 = nI 0 ∧ mi 73 9 = nI 0 ∧ mi 73 10 = nI 0) (f3 : SM 96 A0 mi) (f4 : fz mi) (hK : ∀ mi1, CI mi1 s00 mi1 → (∀ o, 154 ≤ o → mi1 o = fun _ => 0) → K none (mi1, ml, rfs [(0, 12, 153), (0, 11, 152), (0, 10, 151), (0, 9, 146), (0, 8, 121), (121, 8, 145), (121, 7, 144), (121, 6, 133), (121, 5, 122), (0, 7, 96), (96, 8, 120), (96, 7, 119), (96, 6, 108), (96, 5, 97), (0, 6, 73), (73, 1, 3), (73, 0, 10), (73, 2, 74), (0, 5, 68), (68, 4, 14), (68, 3, 1), (68, 2, 3), (68, 1, 10), (68, 0, 11), (68, 8, 72), (68, 7, 71), (68, 6, 70), (68, 5, 69), (0, 4, 11), (11, 4, 7), (11, 3, 14), (14, 0, 1), (14, 4, 67), (14, 3, 66), (14, 2, 65), (14, 1, 15), (11, 2, 1), (11, 1, 3), (11, 0, 10), (11, 6, 13), (11, 5, 12), (0, 3, 10), (10, 1, 1), (10, 0, 3), (0, 2, 7), (7, 0, 1), (7, 2, 9), (7, 1, 8), (0, 1, 3), (3, 0, 1), (3, 6, 6), (3, 5, 5), (3, 4, 4), (0, 0, 1), (1, 1, 2)])) : wp G e (146, 8, 1533) 127 128 [(0, .ref 0)] [.ref 121, .ref 0] (mi, ml, rfs [(121, 8, 145), (121, 7, 144), (121, 6, 133), (121, 5, 122), (0, 7, 96), (96, 8, 120), (96, 7, 119), (96, 6, 108), (96, 5, 97), (0, 6, 73), (73, 1, 3), (73, 0, 10), (73, 2, 74), (0, 5, 68), (68, 4, 14), (68, 3, 1), (68, 2, 3), (68, 1, 10), (68, 0, 11), (68, 8, 72), (68, 7, 71), (68, 6, 70), (68, 5, 69), (0, 4, 11), (11, 4, 7), (11, 3, 14), (14, 0, 1), (14, 4, 67), (14, 3, 66), (14, 2, 65), (14, 1, 15), (11, 2, 1), (11, 1, 3), (11, 0, 10), (11, 6, 13), (11, 5, 12), (0, 3, 10), (10, 1, 1), (10, 0, 3), (0, 2, 7), (7, 0, 1), (7, 2, 9), (7, 1, 8), (0, 1, 3), (3, 0, 1), (3, 6, 6), (3, 5, 5), (3, 4, 4), (0, 0, 1), (1, 1, 2)]) K := by
  rw [rx_eq1] at hK
  refine i_X9_init_128 ⟨⟨rfl, rfl⟩, rfl, rfl, rfl, ?_⟩
  rw [rx_eq1]
  have o0 : ∀ o, o ≠ 0 → u2 (u2 (u2 mi 0 13 (nI 0)) 0 14 (-(nI 1))) 0 15 (-(nI 1)) o = mi o := fun o h => by rw [u2_off h, u2_off h, u2_off h]
  have a13 : u2 (u2 (u2 mi 0 13 (nI 0)) 0 14 (-(nI 1))) 0 15 (-(nI 1)) 0 13 = nI 0 := by rw [u2_ne (by omega), u2_ne (by omega), u2_at]
  have a14 : u2 (u2 (u2 mi 0 13 (nI 0)) 0 14 (-(nI 1))) 0 15 (-(nI 1)) 0 14 = NONE := by rw [u2_ne (by omega), u2_at]
  have a15 : u2 (u2 (u2 mi 0 13 (nI 0)) 0 14 (-(nI 1))) 0 15 (-(nI 1)) 0 15 = NONE := by rw [u2_at]
  generalize u2 (u2 (u2 mi 0 13 (nI 0)) 0 14 (-(nI 1))) 0 15 (-(nI 1)) = M at o0 a13 a14 a15 ⊢
  refine p_start (A := A0) (f3.off (fun o o1 o2 => o0 o (by omega))) (fun mi2 ho2 hN2 => ?_)
  refine p_copyOf_k (A := A0) hN2 (fun _ => Nat.zero_le _) (Nat.zero_le _) (Nat.zero_le _) (fun mi3 ho3 hK3 => ?_)
  have hall3 : ∀ o, o ≠ 0 → (o < 96 ∨ 145 < o) → mi3 o = mi o := fun o a b => by rw [ho3 o (by omega), ho2 o (by omega), o0 o a]
  have hF3 : Fg 2 mi3 := f1.off (hall3 1 (by omega) (by omega)) (hall3 2 (by omega) (by omega))
  refine p_setWorld pw0 hF3 (fun g mi4 ho4 hE4 => ?_)
  have hall : ∀ o, o ≠ 0 → o ≠ 3 → o ≠ 4 → o ≠ 5 → o ≠ 6 → (o < 96 ∨ 145 < o) → mi4 o = mi o := fun o a b c d f x => by rw [ho4 o b c d f, hall3 o a x]
  have hz : ∀ o, (74 ≤ o ∧ o < 96) ∨ 145 < o → mi4 o = fun _ => 0 := fun o a => by
    rw [hall o (by omega) (by omega) (by omega) (by omega) (by omega) (by omega)]
    exact f4 o (by omega) (by omega) (by omega) (by omega) (by omega) (by omega) (by omega) (by omega)
  have h0 : mi4 0 = M 0 := by rw [ho4 0 (by omega) (by omega) (by omega) (by omega), ho3 0 (by omega), ho2 0 (by omega)]
  have h73 : mi4 73 = mi 73 := hall 73 (by omega) (by omega) (by omega) (by omega) (by omega) (by omega)
  refine hK mi4 ⟨⟨g, 0, fun _ _ => 0, hE4, ⟨0, 0, ?_, ?_⟩, ?_, by omega, fun i hi => rw0 (hz _ (by omega))⟩, hN2.off (fun o o1 o2 => by rw [ho4 o (by omega) (by omega) (by omega) (by omega), ho3 o (by omega)]), hK3.off (fun o o1 o2 => ho4 o (by omega) (by omega) (by omega) (by omega)), si0, si0, ?_⟩ (fun o ho => hz o (by omega))
  · rw [h73]; exact f2.1
  · rw [h73]; exact f2.2.1
  · rw [h73]; exact f2.2.2
  · refine ⟨by rw [h0]; exact a13, Nat.zero_le _, by rw [h0]; exact a14, by rw [h0]; exact a15, fun i hi => ?_, fun _ => by show 0 < 256; omega, fun j hj => ⟨?_, Nat.zero_le _, fun i hi => ?_⟩, fun _ _ => by show 0 < 256; omega, fun _ _ => rfl⟩
    · rw [hz 152 (by omega)]
      exact nI_0.symm
    · rw [hz 151 (by omega)]
      exact nI_0.symm
    · rw [hz (147 + j) (by omega)]
      exact nI_0.symm
theorem x_init {K : Option Value → Mem → Prop} (hK : ∀ mi1, CI mi1 s00 mi1 → (∀ o, 154 ≤ o → mi1 o = fun _ => 0) → K none (mi1, ml, rfs [(0, 12, 153), (0, 11, 152), (0, 10, 151), (0, 9, 146), (0, 8, 121), (121, 8, 145), (121, 7, 144), (121, 6, 133), (121, 5, 122), (0, 7, 96), (96, 8, 120), (96, 7, 119), (96, 6, 108), (96, 5, 97), (0, 6, 73), (73, 1, 3), (73, 0, 10), (73, 2, 74), (0, 5, 68), (68, 4, 14), (68, 3, 1), (68, 2, 3), (68, 1, 10), (68, 0, 11), (68, 8, 72), (68, 7, 71), (68, 6, 70), (68, 5, 69), (0, 4, 11), (11, 4, 7), (11, 3, 14), (14, 0, 1), (14, 4, 67), (14, 3, 66), (14, 2, 65), (14, 1, 15), (11, 2, 1), (11, 1, 3), (11, 0, 10), (11, 6, 13), (11, 5, 12), (0, 3, 10), (10, 1, 1), (10, 0, 3), (0, 2, 7), (7, 0, 1), (7, 2, 9), (7, 1, 8), (0, 1, 3), (3, 0, 1), (3, 6, 6), (3, 5, 5), (3, 4, 4), (0, 0, 1), (1, 1, 2)])) : wpc G e 1 127 [.ref 0] (z0, ml, rfs []) K := by
  refine i_X9_init_0 ⟨by decide, i_X1_init_0 ⟨rfl, p3_setBase (Or.inl rfl) (fun mi1 ho1 hF1 => ⟨rfl, ?_⟩)⟩⟩
  have hz1 : ∀ o, o ≠ 1 → o ≠ 2 → mi1 o = fun _ => 0 := fun o a b => by rw [ho1 o a b, u2_off a]
  refine i_X9_init_12 ⟨by decide, i_X5_init_0 ⟨rfl, rfl, rfl, rfl, ?_⟩⟩
  refine i_X9_init_27 ⟨by decide, i_X3_init_0 ⟨rfl, rfl, rfl, ?_⟩⟩
  refine i_X9_init_42 ⟨by decide, i_X8_init_0 ⟨rfl, ?_⟩⟩
  refine i_X9_init_57 ⟨by decide, i_X0_init_0 ⟨rfl, rfl, by decide, i_X7_init_0 ⟨⟨rfl, rfl⟩, rfl, rfl, rfl, rfl, i_X0_init_53 ⟨rfl, ?_⟩⟩⟩⟩
  refine i_X9_init_76 ⟨by decide, i_X2_init_0 ⟨rfl, rfl, rfl, rfl, rfl, ?_⟩⟩
  refine i_X9_init_91 ⟨by decide, i_X4_init_0 ⟨⟨rfl, rfl⟩, rfl, by decide, Or.inl rfl, Or.inl rfl, rfl, ?_⟩⟩
  refine i_X9_init_106 ⟨by decide, i_X6_init_0 ⟨⟨rfl, rfl⟩, ⟨rfl, rfl⟩, rfl, rfl, rfl, ?_⟩⟩
  refine i_X9_init_117 ⟨by decide, i_X6_init_1_0 ⟨⟨rfl, rfl⟩, ⟨rfl, rfl⟩, rfl, rfl, rfl, ?_⟩⟩
  refine x_tail ?_ ?_ ?_ ?_ hK
  · refine hF1.off ?_ ?_ <;> simp (disch := omega) only [u2_off]
  · refine ⟨?_, ?_, ?_⟩ <;> simp (disch := omega) only [u2_off, u2_ne, u2_at]
  · refine sm0 (Or.inl rfl) ?_ ?_ ?_ ?_ ?_ ?_
    · simp (disch := omega) only [u2_off, u2_ne, u2_at]
    · simp (disch := omega) only [u2_off, u2_ne, u2_at]
    · simp (disch := omega) only [u2_off, u2_ne, u2_at]
    · simp (disch := omega) only [u2_off, u2_ne, u2_at]
    · simp (disch := omega) only [u2_off, u2_ne, u2_at]
    · intro o a b c d f g i j
      simp (disch := omega) only [u2_off]
      exact hz1 o b c
  · intro o a b c d f g i j
    simp (disch := omega) only [u2_off]
    exact hz1 o b c
theorem m_init {K : Option Value → Mem → Prop} (h : CI mi s00 mi) (hz : ∀ o, 154 ≤ o → mi o = fun _ => 0) (hK : ∀ mi1, CM s00 mi1 → K none (mi1, ml, RX RM)) : wpc G e 155 166 [.ref 154] (mi, ml, rfs [(0, 12, 153), (0, 11, 152), (0, 10, 151), (0, 9, 146), (0, 8, 121), (121, 8, 145), (121, 7, 144), (121, 6, 133), (121, 5, 122), (0, 7, 96), (96, 8, 120), (96, 7, 119), (96, 6, 108), (96, 5, 97), (0, 6, 73), (73, 1, 3), (73, 0, 10), (73, 2, 74), (0, 5, 68), (68, 4, 14), (68, 3, 1), (68, 2, 3), (68, 1, 10), (68, 0, 11), (68, 8, 72), (68, 7, 71), (68, 6, 70), (68, 5, 69), (0, 4, 11), (11, 4, 7), (11, 3, 14), (14, 0, 1), (14, 4, 67), (14, 3, 66), (14, 2, 65), (14, 1, 15), (11, 2, 1), (11, 1, 3), (11, 0, 10), (11, 6, 13), (11, 5, 12), (0, 3, 10), (10, 1, 1), (10, 0, 3), (0, 2, 7), (7, 0, 1), (7, 2, 9), (7, 1, 8), (0, 1, 3), (3, 0, 1), (3, 6, 6), (3, 5, 5), (3, 4, 4), (0, 0, 1), (1, 1, 2)]) K := by
  refine i_X10_init_0 ⟨rfl, rfl, rfl, rfl, rfl, rfl, rfl, rfl, rfl, rfl, rfl, rfl, rfl, by rw [s_in (by omega)]; omega, by rw [s_in (by omega)]; omega, ?_⟩
  rw [rx_eq2, s_ix (by omega), s_ix (by omega)]
  have o0 : ∀ o, o ≠ 154 → o ≠ 155 → u2 (u2 (u2 (u2 mi 154 13 (-(nI 1))) 154 14 (-(nI 1))) 155 0 (nI 2)) 155 1 (nI 2) o = mi o := fun o a b => by rw [u2_off b, u2_off b, u2_off a, u2_off a]
  have b0 : u2 (u2 (u2 (u2 mi 154 13 (-(nI 1))) 154 14 (-(nI 1))) 155 0 (nI 2)) 155 1 (nI 2) 155 0 = nI 2 := by rw [u2_ne (by omega), u2_at]
  have b1 : u2 (u2 (u2 (u2 mi 154 13 (-(nI 1))) 154 14 (-(nI 1))) 155 0 (nI 2)) 155 1 (nI 2) 155 1 = nI 2 := by rw [u2_at]
  have b2 : ∀ k, k ≠ 0 → k ≠ 1 → u2 (u2 (u2 (u2 mi 154 13 (-(nI 1))) 154 14 (-(nI 1))) 155 0 (nI 2)) 155 1 (nI 2) 155 k = nI 0 := fun k a b => by rw [u2_ne b, u2_ne a, u2_off (by omega), u2_off (by omega), hz 155 (by omega)]; exact nI_0.symm
  have c3 : u2 (u2 (u2 (u2 mi 154 13 (-(nI 1))) 154 14 (-(nI 1))) 155 0 (nI 2)) 155 1 (nI 2) 154 13 = NONE := by rw [u2_off (by omega), u2_off (by omega), u2_ne (by omega), u2_at]
  have c4 : u2 (u2 (u2 (u2 mi 154 13 (-(nI 1))) 154 14 (-(nI 1))) 155 0 (nI 2)) 155 1 (nI 2) 154 14 = NONE := by rw [u2_off (by omega), u2_off (by omega), u2_at]
  have c5 : ∀ k, k ≠ 13 → k ≠ 14 → u2 (u2 (u2 (u2 mi 154 13 (-(nI 1))) 154 14 (-(nI 1))) 155 0 (nI 2)) 155 1 (nI 2) 154 k = nI 0 := fun k a b => by rw [u2_off (by omega), u2_off (by omega), u2_ne b, u2_ne a, hz 154 (by omega)]; exact nI_0.symm
  generalize u2 (u2 (u2 (u2 mi 154 13 (-(nI 1))) 154 14 (-(nI 1))) 155 0 (nI 2)) 155 1 (nI 2) = M at o0 b0 b1 b2 c3 c4 c5 ⊢
  refine m_makeWorld (pw0) ⟨Or.inl rfl, b0⟩ b1 (fun mi1 ho1 hM1 => ?_)
  refine m_copy (a := 155) (b := 156) (Or.inl rfl) (Or.inr rfl) (by omega) (fun mi2 ho2 hc2 => ?_)
  have e155 : mi2 155 = M 155 := by rw [ho2 155 (by omega), ho1.1 155 (by omega) (by omega) (by omega) (by omega)]
  have e154 : ∀ k, k ≠ 3 → k ≠ 4 → k ≠ 9 → k ≠ 10 → mi2 154 k = M 154 k := fun k a b c d => by rw [ho2 154 (by omega), ho1.2 k a b c d]
  have eo : ∀ o, o ≠ 154 → o ≠ 155 → o ≠ 156 → o ≠ 158 → o ≠ 159 → o ≠ 160 → mi2 o = mi o := fun o a b c d f g => by rw [ho2 o c, ho1.1 o a d f g, o0 o a b]
  have e156 : ∀ k, k < 150 → mi2 156 k = M 155 k := fun k hk => by rw [hc2 k hk, ho1.1 155 (by omega) (by omega) (by omega) (by omega)]
  refine hK mi2 ⟨h.lo (fun o o1 => eo o (by omega) (by omega) (by omega) (by omega) (by omega) (by omega)), ?_⟩
  refine ⟨hM1.off (by rw [ho2 155 (by omega)]; exact ⟨rfl, rfl⟩) (by rw [ho2 154 (by omega)]; exact ⟨rfl, rfl⟩) (ho2 158 (by omega)) (ho2 159 (by omega)) (ho2 160 (by omega)), ?_, ?_, ⟨?_, Nat.zero_le _, fun i hi => ?_, fun _ => by show 0 < 256; omega⟩, ?_, ?_, fun j hj => ?_, ⟨[], false, false, ?_, ?_, ?_, trivial⟩⟩
  · unfold Ma
    rw [e155]
    exact ⟨b0, b1, b2 2 (by omega) (by omega), b2 3 (by omega) (by omega), b2 4 (by omega) (by omega), b2 5 (by omega) (by omega), b2 6 (by omega) (by omega), fun i hi k hk => b2 _ (by omega) (by omega), fun i hi k hk => b2 _ (by omega) (by omega), fun i hi => b2 _ (by omega) (by omega)⟩
  · unfold Ma
    rw [e156 0 (by omega), e156 1 (by omega), e156 2 (by omega), e156 3 (by omega), e156 4 (by omega), e156 5 (by omega), e156 6 (by omega)]
    exact ⟨b0, b1, b2 2 (by omega) (by omega), b2 3 (by omega) (by omega), b2 4 (by omega) (by omega), b2 5 (by omega) (by omega), b2 6 (by omega) (by omega), fun i hi k hk => by rw [e156 _ (by omega)]; exact b2 _ (by omega) (by omega), fun i hi k hk => by rw [e156 _ (by omega)]; exact b2 _ (by omega) (by omega), fun i hi => by rw [e156 _ (by omega)]; exact b2 _ (by omega) (by omega)⟩
  · rw [e154 12 (by omega) (by omega) (by omega) (by omega)]
    exact c5 12 (by omega) (by omega)
  · rw [eo 162 (by omega) (by omega) (by omega) (by omega) (by omega) (by omega), hz 162 (by omega)]
    exact nI_0.symm
  · rw [e154 13 (by omega) (by omega) (by omega) (by omega)]
    exact c3
  · rw [e154 14 (by omega) (by omega) (by omega) (by omega)]
    exact c4
  · exact absurd (show j < 0 from hj.elim id id) (by omega)
  · rw [e154 22 (by omega) (by omega) (by omega) (by omega)]
    exact c5 22 (by omega) (by omega)
  · rw [e154 25 (by omega) (by omega) (by omega) (by omega)]
    exact c5 25 (by omega) (by omega)
  · rw [e154 26 (by omega) (by omega) (by omega) (by omega)]
    exact c5 26 (by omega) (by omega)
/-- the law from its entry -/
theorem law_in (he : 32 ≤ e) (hL : gLn G ≤ 3072) {K : Int32 → (Nat → Nat → Int32) → (Nat → Nat → Int64) → Prop} (hK : ∀ mi1 ml1, K (nI 1) mi1 ml1) : wp G e (0, 168, 25790) 271 0 [(0, .ref SP)] [] (z0, ml, rfs []) (QI K) := by
  refine i_L_law_0 ⟨by decide, x_init (fun mi1 h1 hz1 => ⟨rfl, ?_⟩)⟩
  refine i_L_law_7 ⟨by decide, m_init h1 hz1 (fun mi2 h2 => ⟨rfl, ?_⟩)⟩
  rw [← rx_eq2]
  refine i_L_law_15 ?_
  rw [rx_eq2]
  exact law_loop he hL hK 4000 0 mi2 ml s00 rfl (by omega) h2
end KIN
