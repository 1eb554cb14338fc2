/-! sums told anew; the reference: classes -/
theorem sg_swap (a : Nat → Nat → Nat) (M : Nat) : ∀ N, sg (fun i => sg (fun j => a i j) M) N = sg (fun j => sg (fun i => a i j) N) M
  | 0 => (sg_zero (fun _ _ => rfl)).symm
  | N + 1 => by
    show sg (fun i => sg (fun j => a i j) M) N + sg (fun j => a N j) M = sg (fun j => sg (fun i => a i j) N + a N j) M
    rw [sg_swap a M N, ← sg_add]
theorem sg_mulc (f : Nat → Nat) (c : Nat) : ∀ N, sg (fun i => c * f i) N = c * sg f N
  | 0 => (Nat.mul_zero c).symm
  | N + 1 => by
    show sg (fun i => c * f i) N + c * f N = c * (sg f N + f N)
    rw [sg_mulc f c N, Nat.mul_add]
/-- f takes each c below N once, below M -/
theorem sg_perm (F f : Nat → Nat) {N M : Nat} (hN : ∀ j, j < M → f j < N) (h1 : ∀ c, c < N → ∃ j, j < M ∧ f j = c) (h2 : ∀ i j, i < M → j < M → f i = f j → i = j) : sg (fun j => F (f j)) M = sg F N := by
  have e1 : ∀ j, j < M → F (f j) = sg (fun c => if c = f j then F (f j) else 0) N := fun j hj => by
    rw [sg_one, if_pos (hN j hj)]
  rw [sg_ext e1, sg_swap]
  refine sg_ext (fun c hc => ?_)
  obtain ⟨j0, j1, j2⟩ := h1 c hc
  have e2 : ∀ j, j < M → (if c = f j then F (f j) else 0) = if j = j0 then F c else 0 := fun j hj => by
    by_cases z : j = j0
    · subst z
      rw [if_pos j2.symm, if_pos rfl, j2]
    · rw [if_neg z, if_neg (fun y => z (h2 j j0 hj j1 (by rw [j2, ← y])))]
  rw [sg_ext e2, sg_one, if_pos j1]
section TUI
variable {q m d n : Nat}
theorem itr_add (f : Nat → Nat) (a : Nat) : ∀ j i, itr f (i + j) a = itr f j (itr f i a)
  | 0, _ => rfl
  | j + 1, i => by
    rw [← Nat.add_assoc, itr_suc, itr_add f a j i, itr_suc]
theorem itr_dk (hp : Pw q m d n) {a : Nat} (ha : a < n) : ∀ k, itr (fun v => tby q v m) (d * k) a = a
  | 0 => rfl
  | k + 1 => by
    rw [Nat.mul_succ, itr_add, itr_dk hp ha k, itr_d hp ha]
theorem tu_itr (hp : Pw q m d n) {a : Nat} (ha : a < n) (i : Nat) : tu q m d a i = itr (fun v => tby q v m) i a := by
  have e : i = d * (i / d) + i % d := (Nat.div_add_mod i d).symm
  conv => rhs; rw [e]
  rw [itr_add, itr_dk hp ha]
  rfl
theorem tu_add (hp : Pw q m d n) {a : Nat} (ha : a < n) (i j : Nat) : tu q m d (tu q m d a i) j = tu q m d a (i + j) := by
  rw [tu_itr hp (tu_lt hp.1 ha), tu_itr hp ha, tu_itr hp ha, itr_add]
theorem tu_d (hp : Pw q m d n) {a : Nat} (ha : a < n) : tu q m d a d = a := by
  rw [tu_itr hp ha, itr_d hp ha]
theorem tu_0i {a : Nat} : tu q m d a 0 = a := by
  unfold tu
  rw [Nat.zero_mod]
  rfl
theorem tu_mul (hp : Pw q m d n) {a b : Nat} (ha : a < n) (hb : b < n) : ∀ i, tu q m d (mu q m a b) i = mu q m (tu q m d a i) (tu q m d b i)
  | 0 => by rw [tu_0i, tu_0i, tu_0i]
  | i + 1 => by
    have w := hp.1
    rw [tu_itr hp (mu_lt w hb), itr_suc, ← tu_itr hp (mu_lt w hb), tu_mul hp ha hb i, tby_mul w (tu_lt w ha) (tu_lt w hb), tu_itr hp ha (i + 1), itr_suc, ← tu_itr hp ha, tu_itr hp hb (i + 1), itr_suc, ← tu_itr hp hb]
theorem tu_one (hp : Pw q m d n) (i : Nat) : tu q m d 1 i = 1 := by
  have w := hp.1
  have hn := w.n2
  have h1 : (1 : Nat) < n := by omega
  have key : mu q m (tu q m d 1 i) (tu q m d 1 i) = tu q m d 1 i := by
    rw [← tu_mul hp h1 h1, mu_1r w h1]
  have hl := tu_lt (i := i) w h1
  have hpos := tu_pos (i := i) hp (Nat.le_refl 1) h1
  have h3 : mu q m (mu q m (tu q m d 1 i) (tu q m d 1 i)) (rinv q m n (tu q m d 1 i)) = mu q m (tu q m d 1 i) (rinv q m n (tu q m d 1 i)) := by rw [key]
  rw [mu_assoc w hl hl (rinv_lt w.pos), mu_rinv hp hl hpos, mu_1r w hl] at h3
  exact h3
theorem gp_eqv (w : Wd q m d n) {x : Nat} (hx : x < n) (hf : full q m n x) (i j : Nat) : gp q m x i = gp q m x j ↔ i % (n - 1) = j % (n - 1) := by
  have hn := w.n2
  rw [← gp_mod w hx hf.1 i, ← gp_mod w hx hf.1 j]
  exact ⟨fun h => gp_inj w hx hf (Nat.mod_lt _ (by omega)) (Nat.mod_lt _ (by omega)) h, fun h => by rw [h]⟩
theorem tu_gp (hp : Pw q m d n) {x : Nat} (hx : x < n) (j k : Nat) : tu q m d (gp q m x j) k = gp q m x (j * q ^ k) := by
  rw [tu_itr hp (gp_lt hp.1 hx j), itr_gp hp.1 hx]
theorem mod_eqv {a b N : Nat} (h : a ≤ b) (hN : 0 < N) : b % N = a % N ↔ (b - a) % N = 0 := by
  obtain ⟨c, rfl⟩ : ∃ c, b = a + c := ⟨b - a, by omega⟩
  rw [Nat.add_sub_cancel_left]
  refine ⟨fun z => ?_, fun z => ?_⟩
  · have e1 := Nat.sub_mod_eq_zero_of_mod_eq z
    rw [Nat.add_sub_cancel_left] at e1
    exact e1
  · rw [Nat.add_mod, z, Nat.add_zero, Nat.mod_mod]
theorem stays_gp (hp : Pw q m d n) {x : Nat} (hx : x < n) (hf : full q m n x) (j k : Nat) : tu q m d (gp q m x j) k = gp q m x j ↔ j * (q ^ k - 1) % (n - 1) = 0 := by
  have w := hp.1
  have hn := w.n2
  have hpk : 1 ≤ q ^ k := Nat.pow_pos (by have := w.q2; omega)
  rw [tu_gp hp hx, gp_eqv w hx hf, mod_eqv (Nat.le_mul_of_pos_right _ hpk) (by omega), Nat.mul_sub, Nat.mul_one]
/-- sums over all rests but 0, by the powers of a maker -/
theorem sg_gp (hp : Pw q m d n) {x : Nat} (hx : x < n) (hf : full q m n x) (F : Nat → Nat) : sg (fun j => F (gp q m x j)) (n - 1) = sg (fun c => F (c + 1)) (n - 1) := by
  have w := hp.1
  have hn := w.n2
  have e : ∀ j, j < n - 1 → F (gp q m x j) = F (gp q m x j - 1 + 1) := fun j hj => by
    have := gp_pos w hf.1 (i := j) (by omega)
    rw [Nat.sub_add_cancel this]
  rw [sg_ext e]
  refine sg_perm (fun c => F (c + 1)) (fun j => gp q m x j - 1) (fun j hj => ?_) (fun c hc => ?_) (fun i j hi hj h => ?_)
  · have := gp_lt w hx j
    have := gp_pos w hf.1 (i := j) (by omega)
    omega
  · obtain ⟨j, j1, j2⟩ := full_onto w hx hf (c + 1) (by omega) (by omega)
    exact ⟨j, j1, by rw [j2, Nat.add_sub_cancel]⟩
  · have a1 := gp_pos w hf.1 (i := i) (by omega)
    have a2 := gp_pos w hf.1 (i := j) (by omega)
    exact gp_inj w hx hf hi hj (by omega)
end TUI
/-- what c adds to the reference's count of classes -/
def mck (q m d n rank c : Nat) : Nat → Nat → Nat → Nat
  | 0, _, w => w
  | r + 1, k, w => mck q m d n rank c r (k + 1) (w * (if k = rank then (if tu q m d c k = c then n - 1 else 0) else (if tu q m d c k = c then n else 1)))
def mcl (q m d n rank : Nat) : Nat → Nat → Nat → Nat
  | 0, _, s => s
  | r + 1, c, s => mcl q m d n rank r (c + 1) (s + mck q m d n rank c rank 1 1)
section MCL
variable {q m d n : Nat}
theorem mck_le (hn : 2 ≤ n) {rank c : Nat} : ∀ r k w, mck q m d n rank c r k w ≤ w * n ^ r
  | 0, _, w => by
    show w ≤ w * 1
    omega
  | r + 1, k, w => by
    refine Nat.le_trans (mck_le hn r (k + 1) _) ?_
    rw [Nat.pow_succ, Nat.mul_comm (n ^ r) n, ← Nat.mul_assoc]
    refine Nat.mul_le_mul_right _ (Nat.mul_le_mul_left _ ?_)
    split
    · split <;> omega
    · split <;> omega
theorem mck_cck (hp : Pw q m d n) {x : Nat} (hx : x < n) (hf : full q m n x) (rank j : Nat) : ∀ r k w, mck q m d n rank (gp q m x j) r k w = cck q n rank j r k w
  | 0, _, _ => rfl
  | r + 1, k, w => by
    have h := stays_gp hp hx hf j k
    show mck q m d n rank (gp q m x j) r (k + 1) _ = cck q n rank j r (k + 1) _
    rw [mck_cck hp hx hf rank j r (k + 1)]
    simp only [h]
theorem mcl_sg {rank : Nat} : ∀ r c s, mcl q m d n rank r c s = s + sg (fun i => mck q m d n rank (c + i) rank 1 1) r
  | 0, _, _ => rfl
  | r + 1, c, s => by
    show mcl q m d n rank r (c + 1) _ = _
    rw [mcl_sg r (c + 1), sg_head, Nat.add_zero, Nat.add_assoc]
    congr 2
    exact sg_ext (fun i _ => by rw [show c + 1 + i = c + (i + 1) by omega])
theorem ccl_sg {rank : Nat} : ∀ r k s, ccl q n rank r k s = s + sg (fun i => cck q n rank (k + i) rank 1 1) r
  | 0, _, _ => rfl
  | r + 1, k, s => by
    show ccl q n rank r (k + 1) _ = _
    rw [ccl_sg r (k + 1), sg_head, Nat.add_zero, Nat.add_assoc]
    congr 2
    exact sg_ext (fun i _ => by rw [show k + 1 + i = k + (i + 1) by omega])
theorem mcl_ccs (hp : Pw q m d n) (rank : Nat) : mcl q m d n rank (n - 1) 1 0 / (n - 1) = ccs q n rank := by
  obtain ⟨x, x1, hx, hf⟩ := hp.2.1
  unfold ccs
  rw [mcl_sg, ccl_sg, Nat.zero_add, Nat.zero_add]
  congr 1
  rw [← sg_ext (f := fun c => mck q m d n rank (c + 1) rank 1 1) (fun i _ => by rw [Nat.add_comm]), ← sg_gp hp hx hf (fun c => mck q m d n rank c rank 1 1)]
  refine sg_ext (fun j _ => ?_)
  rw [mck_cck hp hx hf, Nat.zero_add]
end MCL
section MCS
variable {G : GC} {e n q m d : Nat} {mi : Nat → Nat → Int32} {ml : Nat → Nat → Int64} {K : Int32 → (Nat → Nat → Int32) → (Nat → Nat → Int64) → Prop}
theorem m_cls_in {rank c s : Nat} (hM : Mw q m d n mi) (hr3 : rank ≤ 3) (hc : c < n) (hK : wp G e tM m_X10_classes 24 [(0, .ref 154), (2, .int (nI rank)), (3, .int (nI (s + mck q m d n rank c rank 1 1))), (4, .int (nI (c + 1)))] [] (mi, ml, RX RM) (QI K)) : ∀ (r k w : Nat), r + k = rank + 1 → 1 ≤ k → w * n ^ r ≤ n ^ 3 → mck q m d n rank c r k w = mck q m d n rank c rank 1 1 → wp G e tM m_X10_classes 39 [(0, .ref 154), (2, .int (nI rank)), (3, .int (nI s)), (4, .int (nI c)), (5, .int (nI w)), (6, .int (nI k))] [] (mi, ml, RX RM) (QI K) := by
  have w0 := hM.1.1
  have hn := hM.two
  have h4 : mi 154 4 = nI n := hM.2.1.2.2.2
  have hn3 : n ^ 3 ≤ 128 ^ 3 := Nat.pow_le_pow_left hn.2 3
  intro r
  induction r with
  | zero =>
    intro k w hk _ _ he
    have he : w = mck q m d n rank c rank 1 1 := he
    rw [← he] at hK
    apply b_X10_classes_39
    have hk : k = rank + 1 := by omega
    subst hk
    simp (disch := omega) only [s_le, s_lt, s_eq, s_eq0, s_in, s_ix, s_rm, s_div, s_pdlt, s_pdle, s_lepd, s_pdpd, s_pdlepd, s_pdadd, nI_add, pk_mul, pd_succ, Nat.not_lt_zero, Nat.zero_lt_succ, not_false_eq_true, not_true_eq_false, false_implies, true_implies, implies_true, and_true, true_and, Nat.reduceLT, Nat.reduceLeDiff, Nat.reduceAdd, Nat.reduceSub, Nat.zero_add, Nat.add_zero]
    exact ⟨fun _ => hK, fun z => absurd (by omega) z⟩
  | succ r ih =>
    intro k w hk hk1 hw he
    have hl := tu_lt (i := k) w0 hc
    have hnr : 1 ≤ n ^ r := Nat.pow_pos (by omega)
    have hw1 : w * n ≤ n ^ 3 := by
      refine Nat.le_trans ?_ hw
      rw [Nat.pow_succ, Nat.mul_comm (n ^ r) n, ← Nat.mul_assoc]
      exact Nat.le_mul_of_pos_right _ hnr
    have step : ∀ v, v ≤ n → (mck q m d n rank c (r + 1) k w = mck q m d n rank c r (k + 1) (w * v)) → wp G e tM m_X10_classes 39 [(0, .ref 154), (2, .int (nI rank)), (3, .int (nI s)), (4, .int (nI c)), (5, .int (nI (w * v))), (6, .int (nI (k + 1)))] [] (mi, ml, RX RM) (QI K) := fun v hv hm => by
      refine ih (k + 1) (w * v) (by omega) (by omega) ?_ (by rw [← hm, he])
      refine Nat.le_trans (Nat.mul_le_mul_right _ (Nat.mul_le_mul_left _ hv)) ?_
      rw [Nat.mul_assoc, Nat.mul_comm n, ← Nat.pow_succ]
      exact hw
    have em : mck q m d n rank c (r + 1) k w = mck q m d n rank c r (k + 1) (w * (if k = rank then (if tu q m d c k = c then n - 1 else 0) else (if tu q m d c k = c then n else 1))) := rfl
    apply b_X10_classes_39
    simp (disch := omega) only [s_le, s_lt, s_eq, s_eq0, s_in, s_ix, s_rm, s_div, s_pdlt, s_pdle, s_lepd, s_pdpd, s_pdlepd, s_pdadd, nI_add, pk_mul, pd_succ, Nat.not_lt_zero, Nat.zero_lt_succ, not_false_eq_true, not_true_eq_false, false_implies, true_implies, implies_true, and_true, true_and, Nat.reduceLT, Nat.reduceLeDiff, Nat.reduceAdd, Nat.reduceSub, Nat.zero_add, Nat.add_zero]
    refine ⟨fun z => absurd z (by omega), fun _ => m_raise hM hc (by omega) ?_⟩
    have e1 : nI n - nI 1 = nI (n - 1) := s_sub (by omega)
    rw [h4, e1]
    simp (disch := omega) only [s_le, s_lt, s_eq, s_eq0, s_in, s_ix, s_rm, s_div, s_pdlt, s_pdle, s_lepd, s_pdpd, s_pdlepd, s_pdadd, nI_add, pk_mul, pd_succ, Nat.not_lt_zero, Nat.zero_lt_succ, not_false_eq_true, not_true_eq_false, false_implies, true_implies, implies_true, and_true, true_and, Nat.reduceLT, Nat.reduceLeDiff, Nat.reduceAdd, Nat.reduceSub, Nat.zero_add, Nat.add_zero]
    refine ⟨fun z => ⟨fun z2 => ?_, fun z2 => ?_⟩, fun z => ⟨fun z2 => ⟨fun z3 => absurd z3 (by omega), fun _ => ?_⟩, fun z2 => ⟨fun z3 => absurd z3 (by omega), fun _ => ?_⟩⟩⟩
    · exact step 1 (by omega) (by rw [em, if_neg z2, if_neg z])
    · exact step 0 (by omega) (by rw [em, if_pos z2, if_neg z])
    · exact step n (Nat.le_refl _) (by rw [em, if_neg z2, if_pos z])
    · exact step (n - 1) (by omega) (by rw [em, if_pos z2, if_pos z])
theorem m_classes {s : Cst} (hM : Mw q m d n mi) (hq : aq (cN s) = q) (hnO : nO (cN s) = n) {v1 v2 : Int32} (hK : K (fClasses s v1 v2) mi ml) : wpI G e 168 m_X10_classes [.ref 154, .int v1, .int v2] (mi, ml, RX RM) K := by
  have hn := hM.two
  have h4 : mi 154 4 = nI n := hM.2.1.2.2.2
  have hn3 : n ^ 3 ≤ 128 ^ 3 := Nat.pow_le_pow_left hn.2 3
  unfold fClasses at hK
  rw [hq, hnO] at hK
  apply e_X10_classes
  refine m_isRest hM (fun a hv ha => ⟨fun z => absurd z (by decide), fun _ => ?_⟩) (fun hno => ⟨fun _ => ?_, fun z => absurd rfl z⟩)
  · subst hv
    rw [asN_nI (by omega), if_pos ha] at hK
    refine m_isIn (a := 0) (lo := 1) (hi := 3) (by omega) (by omega) (fun k hv2 hk1 hk => ⟨fun _ => ?_, fun z => absurd z (by decide)⟩) (fun hno => ⟨fun z => absurd rfl z, fun _ => ?_⟩)
    · subst hv2
      rw [asN_nI (by omega), if_pos (by omega)] at hK
      dsimp only at hK
      rw [if_neg (by omega), ← mcl_ccs hM.1 k] at hK
      have loop : ∀ (r c s : Nat), r + c = n → s ≤ c * n ^ 3 → mcl q m d n k r c s = mcl q m d n k (n - 1) 1 0 → 1 ≤ c → wp G e tM m_X10_classes 24 [(0, .ref 154), (2, .int (nI k)), (3, .int (nI s)), (4, .int (nI c))] [] (mi, ml, RX RM) (QI K) := by
        intro r
        induction r with
        | zero =>
          intro c s hc hs he _
          have hc : c = n := by omega
          subst hc
          have he : s = mcl q m d c k (c - 1) 1 0 := he
          rw [← he] at hK
          have hb : c * c ^ 3 ≤ 128 * 128 ^ 3 := Nat.mul_le_mul hn.2 hn3
          have e1 : nI c - nI 1 = nI (c - 1) := s_sub (by omega)
          apply b_X10_classes_24
          rw [h4, e1]
          simp (disch := omega) only [s_le, s_lt, s_eq, s_eq0, s_in, s_ix, s_rm, s_div, s_pdlt, s_pdle, s_lepd, s_pdpd, s_pdlepd, s_pdadd, nI_add, pk_mul, pd_succ, Nat.not_lt_zero, Nat.zero_lt_succ, not_false_eq_true, not_true_eq_false, false_implies, true_implies, implies_true, and_true, true_and, Nat.reduceLT, Nat.reduceLeDiff, Nat.reduceAdd, Nat.reduceSub, Nat.zero_add, Nat.add_zero, Nat.le_refl]
          exact ⟨by omega, hK⟩
        | succ r ih =>
          intro c s hc hs he hc1
          have hmk := mck_le (q := q) (m := m) (d := d) hn.1 (rank := k) (c := c) k 1 1
          rw [Nat.one_mul] at hmk
          have hnk : n ^ k ≤ n ^ 3 := Nat.pow_le_pow_right (by omega) hk
          have hb : c * n ^ 3 ≤ 128 * 128 ^ 3 := Nat.mul_le_mul (by omega) hn3
          apply b_X10_classes_24
          rw [h4]
          simp (disch := omega) only [s_le, s_lt, s_eq, s_eq0, s_in, s_ix, s_rm, s_div, s_pdlt, s_pdle, s_lepd, s_pdpd, s_pdlepd, s_pdadd, nI_add, pk_mul, pd_succ, Nat.not_lt_zero, Nat.zero_lt_succ, not_false_eq_true, not_true_eq_false, false_implies, true_implies, implies_true, and_true, true_and, Nat.reduceLT, Nat.reduceLeDiff, Nat.reduceAdd, Nat.reduceSub, Nat.zero_add, Nat.add_zero]
          refine ⟨fun z => absurd z (by omega), fun _ => ?_⟩
          exact m_cls_in hM hk (by omega) (ih (c + 1) _ (by omega) (by rw [Nat.add_mul, Nat.one_mul]; omega) he (by omega)) k 1 1 (by omega) (Nat.le_refl _) (by rw [Nat.one_mul]; exact hnk) rfl
      exact loop (n - 1) 1 0 (by omega) (by omega) rfl (Nat.le_refl _)
    · by_cases c : ∃ k, k < 4 ∧ v2 = nI k
      · obtain ⟨k, k1, rfl⟩ := c
        have : k = 0 := by
          apply Decidable.byContradiction
          intro z
          exact hno k (by omega) (by omega) rfl
        subst this
        exact hK
      · have e3 : asN 4 v2 = none := asN_none (fun a ha z => c ⟨a, ha, z⟩)
        rw [e3] at hK
        exact hK
  · rw [asN_none hno] at hK
    exact hK
end MCS
