/-! sums with a period; how many are stays -/
def Per (F : Nat → Nat) (P : Nat) : Prop := ∀ j, F (j + P) = F j
theorem Per.mul {F : Nat → Nat} {P : Nat} (h : Per F P) : ∀ k j, F (j + P * k) = F j
  | 0, j => rfl
  | k + 1, j => by
    rw [Nat.mul_succ, ← Nat.add_assoc, h, Per.mul h k]
theorem sg_split (F : Nat → Nat) (A : Nat) : ∀ B, sg F (A + B) = sg F A + sg (fun i => F (A + i)) B
  | 0 => rfl
  | B + 1 => by
    show sg F (A + B) + F (A + B) = sg F A + (sg (fun i => F (A + i)) B + F (A + B))
    rw [sg_split F A B, Nat.add_assoc]
theorem sg_per {F : Nat → Nat} {P : Nat} (h : Per F P) : ∀ k, sg F (P * k) = k * sg F P
  | 0 => by rw [Nat.mul_zero, Nat.zero_mul]; rfl
  | k + 1 => by
    rw [Nat.mul_succ, sg_split, sg_per h k, Nat.add_mul, Nat.one_mul]
    congr 1
    refine sg_ext (fun i _ => ?_)
    rw [Nat.add_comm, Per.mul h k]
/-- shifted by anything, over a whole period -/
theorem sg_shift {F : Nat → Nat} {P : Nat} (h : Per F P) : ∀ a, sg (fun i => F (i + a)) P = sg F P
  | 0 => rfl
  | a + 1 => by
    rw [← sg_shift h a]
    cases P with
    | zero => rfl
    | succ P =>
      have h1 : sg (fun i => F (i + (a + 1))) (P + 1) = sg (fun i => F (i + 1 + a)) P + F (P + (a + 1)) := by
        show sg (fun i => F (i + (a + 1))) P + F (P + (a + 1)) = _
        rw [sg_ext (f := fun i => F (i + (a + 1))) (g := fun i => F (i + 1 + a)) (fun i _ => by rw [show i + (a + 1) = i + 1 + a by omega])]
      rw [h1, sg_head (fun i => F (i + a)) P]
      have h3 : F (P + (a + 1)) = F (0 + a) := by
        rw [show P + (a + 1) = 0 + a + (P + 1) by omega, h]
      rw [h3]
      show sg (fun i => F (i + 1 + a)) P + F (0 + a) = F (0 + a) + sg (fun i => F (i + 1 + a)) P
      exact Nat.add_comm _ _
/-- periods a and b make the period of what divides both -/
theorem Per.gcd {F : Nat → Nat} {a b : Nat} (ha : Per F a) (hb : Per F b) (h0 : 0 < b) : Per F (Nat.gcd a b) := by
  have key : ∀ b a : Nat, Per F a → Per F b → Per F (Nat.gcd a b) := fun b => by
    induction b using Nat.strongRecOn with
    | _ b ih =>
      intro a ha hb
      by_cases c : b = 0
      · rw [c, Nat.gcd_zero_right]
        exact ha
      · have hm : Per F (a % b) := fun j => by
          have h1 := Per.mul hb (a / b) (j + a % b)
          rw [show j + a % b + b * (a / b) = j + a by have := Nat.div_add_mod a b; omega, ha] at h1
          exact h1.symm
        have := ih (a % b) (Nat.mod_lt _ (by omega)) b hb hm
        rw [Nat.gcd_comm b (a % b), ← Nat.gcd_rec, Nat.gcd_comm] at this
        exact this
  exact key b a ha hb
/-- how many j below M have M | j a -/
theorem cnt_gcd {M a : Nat} (hM : 0 < M) : sg (fun j => if j * a % M = 0 then 1 else 0) M = Nat.gcd a M := by
  have hg : 0 < Nat.gcd a M := Nat.gcd_pos_of_pos_right a hM
  obtain ⟨a1, ha1⟩ := Nat.gcd_dvd_left a M
  obtain ⟨M1, hM1⟩ := Nat.gcd_dvd_right a M
  generalize hG : Nat.gcd a M = G at *
  have hM1p : 0 < M1 := by
    apply Decidable.byContradiction
    intro z
    have : M1 = 0 := by omega
    rw [this, Nat.mul_zero] at hM1
    omega
  have hco : Nat.Coprime a1 M1 := by
    have h1 := Nat.coprime_div_gcd_div_gcd (m := a) (n := M) (by omega)
    rw [hG, ha1, Nat.mul_div_cancel_left _ hg] at h1
    have h3 : M / G = M1 := by rw [hM1, Nat.mul_div_cancel_left _ hg]
    rw [h3] at h1
    exact h1
  have hiff : ∀ j, (j * a % M = 0) ↔ j % M1 = 0 := fun j => by
    rw [ha1, hM1, show j * (G * a1) = G * (j * a1) by rw [Nat.mul_left_comm], Nat.mul_mod_mul_left]
    refine ⟨fun h => ?_, fun h => ?_⟩
    · have h1 : (j * a1) % M1 = 0 := by
        rcases Nat.mul_eq_zero.mp h with z | z
        · omega
        · exact z
      have h3 : M1 ∣ j * a1 := Nat.dvd_of_mod_eq_zero h1
      exact Nat.mod_eq_zero_of_dvd ((hco.symm).dvd_of_dvd_mul_right h3)
    · have h3 : M1 ∣ j * a1 := Nat.dvd_trans (Nat.dvd_of_mod_eq_zero h) (Nat.dvd_mul_right _ _)
      rw [Nat.mod_eq_zero_of_dvd h3, Nat.mul_zero]
  have e : sg (fun j => if j * a % M = 0 then 1 else 0) M = sg (fun j => if j % M1 = 0 then 1 else 0) M := sg_ext (fun j _ => by
    by_cases c : j % M1 = 0
    · rw [if_pos c, if_pos ((hiff j).mpr c)]
    · rw [if_neg c, if_neg (fun z => c ((hiff j).mp z))])
  rw [e]
  have hp : Per (fun j => if j % M1 = 0 then 1 else 0) M1 := fun j => by
    show (if (j + M1) % M1 = 0 then 1 else 0) = if j % M1 = 0 then 1 else 0
    rw [Nat.add_mod_right]
  have h5 := sg_per hp G
  rw [show M = M1 * G by rw [hM1, Nat.mul_comm], h5]
  have h6 : sg (fun j => if j % M1 = 0 then 1 else 0) M1 = 1 := by
    rw [sg_only (a := 0) M1 hM1p (fun k hk hne => by rw [if_neg (by rw [Nat.mod_eq_of_lt hk]; exact hne)])]
    rw [Nat.zero_mod]
    rfl
  rw [h6, Nat.mul_one]
