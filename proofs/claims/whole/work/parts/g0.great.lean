/-! the count of those of greatest height -/
section GRE
variable {q m d n : Nat}
theorem cdv_all : (List.range 6).all (fun q => (List.range 8).all (fun d => Nat.beq (cdv (q ^ 2 - 1) (q ^ d - 1)) (Nat.gcd (q ^ 2 - 1) (q ^ d - 1)))) = true := by decide +kernel
theorem cdv_gcd (w : Wd q m d n) : cdv (q ^ 2 - 1) (n - 1) = Nat.gcd (q ^ 2 - 1) (n - 1) := by
  have hd := w.d7
  have hq : q < 6 := by rcases w.hq with z | z | z <;> omega
  have h1 := List.all_eq_true.mp (List.all_eq_true.mp cdv_all q (List.mem_range.mpr hq)) d (List.mem_range.mpr (by omega))
  rw [nbq] at h1
  rw [w.nq]
  exact h1
def Hi2 (q m d g0 g1 g2 : Nat) : Nat := if hgt q m d (r3 g0 g1 g2) (mch q m d g0) = some 2 then 1 else 0
theorem r3_sca (w : Wd q m d n) {g0 g1 g2 s : Nat} (h0 : g0 < n) (hs : s < n) : sca q m s (r3 g0 g1 g2) = r3 g0 (mu q m g1 (gp q m s (q - 1))) (mu q m g2 (gp q m s (q ^ 2 - 1))) := funext fun k => by
  have h2 := w.q2
  match k with
  | 0 =>
    show mu q m g0 (gp q m s (q ^ 0 - 1)) = g0
    rw [Nat.pow_zero, Nat.sub_self]
    exact mu_1r w h0
  | 1 =>
    show mu q m g1 (gp q m s (q ^ 1 - 1)) = mu q m g1 (gp q m s (q - 1))
    rw [Nat.pow_one]
  | 2 => rfl
  | k + 3 =>
    show mu q m 0 (gp q m s (q ^ (k + 3) - 1)) = 0
    exact mu_0l h2 m _
theorem hi2_sca (hp : Pw q m d n) {g0 g1 g2 s : Nat} (h0 : g0 < n) (h1 : g1 < n) (h2 : g2 < n) (hs : s < n) (hs1 : 1 ≤ s) : Hi2 q m d g0 (mu q m g1 (gp q m s (q - 1))) (mu q m g2 (gp q m s (q ^ 2 - 1))) = Hi2 q m d g0 g1 g2 := by
  have w := hp.1
  unfold Hi2
  rw [← r3_sca w h0 hs, hgt_sca hp hs hs1 (fun k => by
    show (if k = 0 then g0 else if k = 1 then g1 else if k = 2 then g2 else 0) < n
    have := w.pos
    split
    · exact h0
    · split
      · exact h1
      · split
        · exact h2
        · exact this)]
/-- both by powers of a maker -/
theorem hi2_per (hp : Pw q m d n) {x g0 : Nat} (hx : x < n) (hx1 : 1 ≤ x) (h0 : g0 < n) (i j : Nat) : Hi2 q m d g0 (gp q m x (i + (q - 1))) (gp q m x (j + (q ^ 2 - 1))) = Hi2 q m d g0 (gp q m x i) (gp q m x j) := by
  have w := hp.1
  rw [gp_add w hx, gp_add w hx, hi2_sca hp h0 (gp_lt2 w hx i) (gp_lt2 w hx j) hx hx1]
theorem hi2_per0 (hp : Pw q m d n) {x g0 : Nat} (hx : x < n) (hx1 : 1 ≤ x) (h0 : g0 < n) : Per (fun j => Hi2 q m d g0 0 (gp q m x j)) (q ^ 2 - 1) := fun j => by
  have w := hp.1
  show Hi2 q m d g0 0 (gp q m x (j + (q ^ 2 - 1))) = Hi2 q m d g0 0 (gp q m x j)
  have h := hi2_sca hp h0 w.pos (gp_lt2 w hx j) hx hx1
  rw [mu_0l w.q2] at h
  rw [gp_add w hx, h]
theorem gp_per (w : Wd q m d n) {x : Nat} (hx : x < n) (hf : full q m n x) (j : Nat) : gp q m x (j + (n - 1)) = gp q m x j := by
  rw [gp_add w hx, hf.1, mu_1r w (gp_lt2 w hx j)]
theorem q1_dvd (w : Wd q m d n) : Nat.gcd (q - 1) (n - 1) = q - 1 := by
  have h2 := w.q2
  refine Nat.gcd_eq_left ?_
  rw [w.nq]
  have : ∀ d, (q - 1) ∣ q ^ d - 1 := fun d => by
    induction d with
    | zero => rw [Nat.pow_zero, Nat.sub_self]; exact Nat.dvd_zero _
    | succ d ih =>
      have p : 0 < q ^ d := Nat.pow_pos (by omega)
      have e : q ^ (d + 1) - 1 = q ^ d * (q - 1) + (q ^ d - 1) := by
        rw [Nat.pow_succ, Nat.mul_sub, Nat.mul_one]
        have : q ^ d * 1 ≤ q ^ d * q := Nat.mul_le_mul_left _ (by omega)
        omega
      rw [e]
      exact Nat.dvd_add (Nat.dvd_mul_left _ _) ih
  exact this d
/-- how many stays -/
theorem stay_cnt (hp : Pw q m d n) {x : Nat} (hx : x < n) (hf : full q m n x) (k : Nat) : sg (fun c => if tu q m d (c + 1) k = c + 1 then 1 else 0) (n - 1) = Nat.gcd (q ^ k - 1) (n - 1) := by
  have w := hp.1
  have hn := w.n2
  have h1 := sg_gp hp hx hf (fun c => if tu q m d c k = c then 1 else 0)
  have h3 : sg (fun c => if tu q m d (c + 1) k = c + 1 then 1 else 0) (n - 1) = sg (fun j => if tu q m d (gp q m x j) k = gp q m x j then 1 else 0) (n - 1) := h1.symm
  rw [h3, ← cnt_gcd (by omega)]
  refine sg_ext (fun j _ => ?_)
  have h4 := stays_gp hp hx hf j k
  by_cases c : tu q m d (gp q m x j) k = gp q m x j
  · rw [if_pos c, if_pos (h4.mp c)]
  · rw [if_neg c, if_neg (fun z => c (h4.mpr z))]
theorem gst_0 (hp : Pw q m d n) {x : Nat} (hx : x < n) (hf : full q m n x) {g2 : Nat} (h : g2 ≠ 0) : gst q m d n 0 g2 = Nat.gcd (q ^ 2 - 1) (n - 1) := by
  rw [← stay_cnt hp hx hf 2]
  refine sg_ext (fun c _ => ?_)
  by_cases z : tu q m d (c + 1) 2 = c + 1
  · rw [if_pos z, if_pos ⟨Or.inl rfl, Or.inr z⟩]
  · rw [if_neg z, if_neg (fun y => by rcases y.2 with y | y; exact h y; exact z y)]
theorem gst_1 (hp : Pw q m d n) {x : Nat} (hx : x < n) (hf : full q m n x) {g1 g2 : Nat} (h1 : g1 ≠ 0) : gst q m d n g1 g2 = q - 1 := by
  have w := hp.1
  have h3 := stay_cnt hp hx hf 1
  rw [Nat.pow_one, q1_dvd w] at h3
  rw [← h3]
  refine sg_ext (fun c hc => ?_)
  by_cases z : tu q m d (c + 1) 1 = c + 1
  · rw [if_pos z, if_pos ⟨Or.inr z, Or.inr (by
      have h5 := tu_add hp (a := c + 1) (by omega) 1 1
      rw [z, z] at h5
      exact h5.symm)⟩]
  · rw [if_neg z, if_neg (fun y => by rcases y.1 with y | y; exact h1 y; exact z y)]
end GRE
