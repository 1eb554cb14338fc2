/-! the count of those of greatest height: both ways -/
section GR2
variable {q m d n : Nat}
theorem isg_hi {g0 g1 g2 : Nat} : (if isg q m d g0 g1 g2 (mch q m d g0) = true then 1 else 0) = Hi2 q m d g0 g1 g2 := by
  unfold isg Hi2
  by_cases c : hgt q m d (r3 g0 g1 g2) (mch q m d g0) = some 2
  · rw [if_pos c, if_pos (decide_eq_true c)]
  · rw [if_neg c, if_neg (by rw [decide_eq_true_eq]; exact c)]
theorem cga_sg {x g0 : Nat} (hm : ∀ j, gp q m x (j % (n - 1)) = gp q m x j) : ∀ r j s, cga q m d n x g0 (mch q m d g0) r j s = s + sg (fun i => Hi2 q m d g0 0 (gp q m x (j + i))) r := by
  intro r
  induction r with
  | zero => exact fun j s => rfl
  | succ r ih =>
    intro j s
    have e : cga q m d n x g0 (mch q m d g0) (r + 1) j s = cga q m d n x g0 (mch q m d g0) r (j + 1) (if isg q m d g0 0 (gp q m x (j % (n - 1))) (mch q m d g0) = true then s + 1 else s) := rfl
    have e1 : (if isg q m d g0 0 (gp q m x (j % (n - 1))) (mch q m d g0) = true then s + 1 else s) = s + Hi2 q m d g0 0 (gp q m x j) := by
      rw [← isg_hi, hm]
      split <;> omega
    rw [e, ih, e1, sg_head (fun i => Hi2 q m d g0 0 (gp q m x (j + i))) r, Nat.add_assoc]
    congr 2
    exact sg_ext (fun i _ => by rw [show j + 1 + i = j + (i + 1) by omega])
theorem cgi_sg {x g0 i : Nat} (hm : ∀ j, gp q m x (j % (n - 1)) = gp q m x j) : ∀ r j s, cgi q m d n x g0 (mch q m d g0) i r j s = s + sg (fun k => Hi2 q m d g0 (gp q m x i) (gp q m x (j + k))) r := by
  intro r
  induction r with
  | zero => exact fun j s => rfl
  | succ r ih =>
    intro j s
    have e : cgi q m d n x g0 (mch q m d g0) i (r + 1) j s = cgi q m d n x g0 (mch q m d g0) i r (j + 1) (if isg q m d g0 (gp q m x (i % (n - 1))) (gp q m x (j % (n - 1))) (mch q m d g0) = true then s + 1 else s) := rfl
    have e1 : (if isg q m d g0 (gp q m x (i % (n - 1))) (gp q m x (j % (n - 1))) (mch q m d g0) = true then s + 1 else s) = s + Hi2 q m d g0 (gp q m x i) (gp q m x j) := by
      rw [← isg_hi, hm, hm]
      split <;> omega
    rw [e, ih, e1, sg_head (fun k => Hi2 q m d g0 (gp q m x i) (gp q m x (j + k))) r, Nat.add_assoc]
    congr 2
    exact sg_ext (fun k _ => by rw [show j + 1 + k = j + (k + 1) by omega])
theorem cgo_sg {x g0 : Nat} (hm : ∀ j, gp q m x (j % (n - 1)) = gp q m x j) : ∀ r i s, cgo q m d n x g0 (mch q m d g0) r i s = s + sg (fun k => sg (fun j => Hi2 q m d g0 (gp q m x (i + k)) (gp q m x j)) (n - 1)) r := by
  intro r
  induction r with
  | zero => exact fun i s => rfl
  | succ r ih =>
    intro i s
    have e : cgo q m d n x g0 (mch q m d g0) (r + 1) i s = cgo q m d n x g0 (mch q m d g0) r (i + 1) (cgi q m d n x g0 (mch q m d g0) i (n - 1) 0 s) := rfl
    rw [e, ih, cgi_sg hm, sg_head (fun k => sg (fun j => Hi2 q m d g0 (gp q m x (i + k)) (gp q m x j)) (n - 1)) r, Nat.add_assoc]
    have h1 : sg (fun k => Hi2 q m d g0 (gp q m x i) (gp q m x (0 + k))) (n - 1) = sg (fun j => Hi2 q m d g0 (gp q m x (i + 0)) (gp q m x j)) (n - 1) := sg_ext (fun k _ => by rw [Nat.zero_add, Nat.add_zero])
    have h3 : sg (fun k => sg (fun j => Hi2 q m d g0 (gp q m x (i + 1 + k)) (gp q m x j)) (n - 1)) r = sg (fun k => sg (fun j => Hi2 q m d g0 (gp q m x (i + (k + 1))) (gp q m x j)) (n - 1)) r := sg_ext (fun k _ => by rw [show i + 1 + k = i + (k + 1) by omega])
    rw [h1, h3]
theorem greOK : GreOK := fun q m d n x g0 hp hx1 hx hf h0 => by
  have w := hp.1
  have h2 := w.q2
  have hn := w.n2
  have hM : 0 < n - 1 := by omega
  have hgm : ∀ j, gp q m x (j % (n - 1)) = gp q m x j := gp_mod w hx hf.1
  have hper := gp_per w hx hf
  have nz : ∀ j, gp q m x j ≠ 0 := fun j => by
    have := gp_nz hp hx hx1 j
    omega
  -- what one g2 adds, as Hi2 and stays
  have hterm : ∀ g1 j, mgt1 q m d n g0 g1 j = Hi2 q m d g0 g1 (j + 1) * gst q m d n g1 (j + 1) := fun g1 j => by
    unfold mgt1 Hi2
    by_cases c : hgt q m d (r3 g0 g1 (j + 1)) (mch q m d g0) = some 2
    · rw [if_pos c, if_pos c, Nat.one_mul]
    · rw [if_neg c, if_neg c, Nat.zero_mul]
  -- g1 = 0
  have hA : sg (fun j => mgt1 q m d n g0 0 j) (n - 1) = (n - 1) * sg (fun j => Hi2 q m d g0 0 (gp q m x j)) (Nat.gcd (q ^ 2 - 1) (n - 1)) := by
    have e1 : sg (fun j => mgt1 q m d n g0 0 j) (n - 1) = Nat.gcd (q ^ 2 - 1) (n - 1) * sg (fun j => Hi2 q m d g0 0 (j + 1)) (n - 1) := by
      rw [← sg_mulc]
      exact sg_ext (fun j _ => by rw [hterm, gst_0 hp hx hf (by omega), Nat.mul_comm])
    have e3 : sg (fun j => Hi2 q m d g0 0 (j + 1)) (n - 1) = sg (fun j => Hi2 q m d g0 0 (gp q m x j)) (n - 1) := (sg_gp hp hx hf (fun c => Hi2 q m d g0 0 c)).symm
    have hP := Per.gcd (hi2_per0 hp hx hx1 h0) (fun j => by
      show Hi2 q m d g0 0 (gp q m x (j + (n - 1))) = _
      rw [hper]) hM
    obtain ⟨K, hK⟩ := Nat.gcd_dvd_right (q ^ 2 - 1) (n - 1)
    have e4 := sg_per hP K
    rw [← hK] at e4
    rw [e1, e3, e4, ← Nat.mul_assoc, ← hK]
  -- g1 not 0
  have hB : ∀ c, sg (fun j => mgt1 q m d n g0 (c + 1) j) (n - 1) = (q - 1) * sg (fun j => Hi2 q m d g0 (c + 1) (gp q m x j)) (n - 1) := fun c => by
    have e1 : sg (fun j => mgt1 q m d n g0 (c + 1) j) (n - 1) = (q - 1) * sg (fun j => Hi2 q m d g0 (c + 1) (j + 1)) (n - 1) := by
      rw [← sg_mulc]
      exact sg_ext (fun j _ => by rw [hterm, gst_1 hp hx hf (by omega), Nat.mul_comm])
    rw [e1, ← sg_gp hp hx hf (fun v => Hi2 q m d g0 (c + 1) v)]
  have hT : Per (fun i => sg (fun j => Hi2 q m d g0 (gp q m x i) (gp q m x j)) (n - 1)) (q - 1) := fun i => by
    show sg (fun j => Hi2 q m d g0 (gp q m x (i + (q - 1))) (gp q m x j)) (n - 1) = sg (fun j => Hi2 q m d g0 (gp q m x i) (gp q m x j)) (n - 1)
    have hPj : Per (fun j => Hi2 q m d g0 (gp q m x (i + (q - 1))) (gp q m x j)) (n - 1) := fun j => by
      show Hi2 q m d g0 (gp q m x (i + (q - 1))) (gp q m x (j + (n - 1))) = _
      rw [hper]
    rw [← sg_shift hPj (q ^ 2 - 1)]
    exact sg_ext (fun j _ => hi2_per hp hx hx1 h0 i j)
  have hC : sg (fun c => sg (fun j => mgt1 q m d n g0 (c + 1) j) (n - 1)) (n - 1) = (n - 1) * sg (fun i => sg (fun j => Hi2 q m d g0 (gp q m x i) (gp q m x j)) (n - 1)) (q - 1) := by
    rw [sg_ext (fun c _ => hB c), sg_mulc, ← sg_gp hp hx hf (fun v => sg (fun j => Hi2 q m d g0 v (gp q m x j)) (n - 1))]
    obtain ⟨K, hK⟩ := Nat.gcd_dvd_right (q - 1) (n - 1)
    rw [q1_dvd w] at hK
    have e4 := sg_per hT K
    rw [← hK] at e4
    rw [e4, ← Nat.mul_assoc, ← hK]
  have hall : mgs q m d n g0 = (n - 1) * (sg (fun j => Hi2 q m d g0 0 (gp q m x j)) (Nat.gcd (q ^ 2 - 1) (n - 1)) + sg (fun i => sg (fun j => Hi2 q m d g0 (gp q m x i) (gp q m x j)) (n - 1)) (q - 1)) := by
    have e : mgs q m d n g0 = sg (fun g1 => sg (fun j => mgt1 q m d n g0 g1 j) (n - 1)) (n - 1 + 1) := by
      rw [Nat.sub_add_cancel (by omega)]
      rfl
    rw [e, sg_head, hA, hC, Nat.mul_add]
  rw [hall, Nat.mul_div_cancel_left _ hM]
  unfold cgr
  rw [cgo_sg hgm, cga_sg hgm, cdv_gcd w, Nat.zero_add]
  congr 1
  · exact sg_ext (fun i _ => by rw [Nat.zero_add])
  · exact sg_ext (fun i _ => by rw [Nat.zero_add])
end GR2
