/-! parts: the class's are the reference's -/
theorem dv_one {R : Type} [Lean.Grind.CommRing R] (a : PL R) : letI := plR R; Dv 1 a := by
  letI := plR R
  exact ⟨a, by grind⟩
section PRP
variable {q m d n : Nat}
theorem prd_mn (h2 : 2 ≤ q) {a b : Nat} (ha : Mn q a) (hb : Mn q b) (hf : ln q 13 a + ln q 13 b ≤ 14) : Mn q (prd q a b) ∧ ln q 13 (prd q a b) = ln q 13 a + ln q 13 b - 1 := by
  obtain ⟨j, j1, j2, j3⟩ := ha
  obtain ⟨k, k1, k2, k3⟩ := hb
  have hb1 := ln_lt k3
  have ha1 := ln_lt j3
  rw [k1] at hb1
  have h1 := prd_lt h2 ha1 hb1 (by omega) (by omega)
  have h3 := prd_top h2 j1 j2 hb1 k2 (by omega)
  rw [j1, show k + 1 - 1 + (j + 1) = j + k + 1 by omega] at h1
  obtain ⟨c1, c2⟩ := Mn_of h2 (by omega) h1 h3
  exact ⟨c1, by omega⟩
theorem mn_1 (h2 : 2 ≤ q) : Mn q 1 ∧ ln q 13 1 = 1 := Mn_of h2 (k := 0) (by omega) (by rw [Nat.zero_add, Nat.pow_one]; omega) (by rw [dg_0, Nat.mod_eq_of_lt (by omega)])
theorem pto_mn (w : Wd q m d n) {g : Nat → Nat} : ∀ (r j a : Nat) (S : TSt) (M : Nat), r + j = d → Sok q d n M S → a < q ^ (nfl S.1 7 + 1) → dg q a (nfl S.1 7) = 1 → Mn q (pto q m d g r j a S) ∧ ln q 13 (pto q m d g r j a S) ≤ d + 1 := by
  have h2 := w.q2
  have hd7 := w.d7
  intro r
  induction r with
  | zero =>
    intro j a S M hj hS ha ha1
    have hnd := nfl_dpt (fun p hp => (hS p hp).1) 7
    obtain ⟨c1, c2⟩ := Mn_of h2 (by omega) ha ha1
    exact ⟨c1, by show ln q 13 a ≤ d + 1; omega⟩
  | succ r ih =>
    intro j a S M hj hS ha ha1
    have hnd := nfl_dpt (fun p hp => (hS p hp).1) 7
    obtain ⟨c, k2, y1, y2, y3, y4, y5, y6⟩ := ptl_lead w (g := g) (d + 1) 0 (q ^ j) (tD S) (by omega) (hS.drop h2) (pw_lt w (by omega)) (by show d < nfl S.1 7 + (d + 1); omega)
    have hnf : nfl (ptl q m d g (d + 1) 0 (q ^ j) (tD S)).2.1 7 = nfl S.1 7 + k2 := y6
    have hnd2 := nfl_dpt (fun p hp => (y5 p hp).1) 7
    have e1 : pto q m d g (r + 1) j a S = pto q m d g r (j + 1) (ptm q a (ptl q m d g (d + 1) 0 (q ^ j) (tD S)).1) (ptl q m d g (d + 1) 0 (q ^ j) (tD S)).2 := rfl
    have e2 : ptm q a (ptl q m d g (d + 1) 0 (q ^ j) (tD S)).1 = prd q a c := by rw [y1]; rfl
    rw [e1, e2]
    refine ih (j + 1) _ _ _ (by omega) y5 ?_ ?_
    · rw [hnf]
      have := prd_lt h2 ha y2 (by omega) (by omega)
      exact Nat.lt_of_lt_of_le this (Nat.pow_le_pow_right (by omega) (by omega))
    · rw [hnf]
      exact prd_top h2 (Mn_of h2 (by omega) ha ha1).2 ha1 y2 y3 (by omega)
theorem pts_mn (w : Wd q m d n) (g : Nat → Nat) : Mn q (pts q m d g) ∧ ln q 13 (pts q m d g) ≤ d + 1 := by
  have h2 := w.q2
  exact pto_mn w d 0 1 tS0 0 rfl (Sok0 q d n 0) (by
    show 1 < q ^ (0 + 1)
    rw [Nat.pow_one]
    omega) (by
    show dg q 1 0 = 1
    rw [dg_0, Nat.mod_eq_of_lt (by omega)])
/-- powers of p -/
def pwn (q p : Nat) : Nat → Nat
  | 0 => 1
  | k + 1 => prd q (pwn q p k) p
theorem pwn_ok (w : Wd q m d n) {p e : Nat} (hp : Mn q p) (he : ln q 13 p = e + 1) : ∀ k, k * e ≤ 12 → Mn q (pwn q p k) ∧ ln q 13 (pwn q p k) = k * e + 1 ∧ letI := kR (wd_q w); letI := plR (KT q); Pn w (pwn q p k) = Pn w p ^ k := by
  letI := kR (wd_q w)
  letI := plR (KT q)
  have h2 := w.q2
  intro k
  induction k with
  | zero =>
    intro _
    have h1 := mn_1 (q := q) h2
    refine ⟨h1.1, by rw [Nat.zero_mul, Nat.zero_add]; exact h1.2, ?_⟩
    show Pn w 1 = _
    rw [pn_1 w]
    generalize Pn w p = A
    grind
  | succ k ih =>
    intro hk
    have ek : (k + 1) * e = k * e + e := by rw [Nat.add_mul, Nat.one_mul]
    obtain ⟨a1, a2, a3⟩ := ih (by omega)
    obtain ⟨b1, b2⟩ := prd_mn h2 a1 hp (by omega)
    refine ⟨b1, by show ln q 13 (prd q (pwn q p k) p) = _; omega, ?_⟩
    show Pn w (prd q (pwn q p k) p) = _
    rw [pn_mul w a1.lt13 hp.lt13 (by omega), a3, pow_sp]
/-- nothing is sent to nothing by 1 -/
theorem nsp_1 (w : Wd q m d n) {g : Nat → Nat} (hg : ∀ k, g k < n) : nsp q m d g 1 = 0 := by
  letI iq := kR (wd_q w)
  letI ik := kR w
  have h2 := w.q2
  have hd7 := w.d7
  have h1 := mn_1 (q := q) h2
  obtain ⟨S, s1, s2, s3⟩ := nsp_tsp w hg h1.1.lt13
  have hfl : ∀ p, p < d → S.1 p = true := fun p hp => by
    refine (s1.fl w (by omega)).mpr ⟨q ^ p, pw_lt w hp, ⟨pw_lt w hp, kt (pw_lt w hp), ?_⟩, ?_, fun k k1 k2 => ?_⟩
    · rw [pn_1 w]
      exact ((acv_ok w hg).2.2.1 _).symm
    · rw [dg_pwk h2, if_pos rfl]
      omega
    · rw [dg_pwk h2, if_neg (by omega)]
  have hge : ∀ N, N ≤ d → N ≤ nfl S.1 N := fun N => by
    induction N with
    | zero => exact fun _ => Nat.zero_le _
    | succ N ih =>
      intro hN
      have h3 := ih (by omega)
      show N + 1 ≤ nfl S.1 N + (if S.1 N = true then 1 else 0)
      rw [if_pos (hfl N (by omega))]
      omega
  have hup : ∀ r, nfl S.1 d ≤ nfl S.1 (d + r) := fun r => by
    induction r with
    | zero => exact Nat.le_refl _
    | succ r ih => exact Nat.le_trans ih (Nat.le_add_right _ _)
  have h5 := hge d (Nat.le_refl _)
  have h7 := hup (7 - d)
  rw [show d + (7 - d) = 7 by omega] at h7
  omega
/-- from one power to the next -/
theorem nsp_step (w : Wd q m d n) {g : Nat → Nat} (hg : ∀ k, g k < n) {p e k : Nat} (hp : Irn w p) (he : ln q 13 p = e + 1) (hk : (k + 1) * e ≤ 12) : (Ieq w hg (Pn w p) k → nsp q m d g (pwn q p (k + 1)) = nsp q m d g (pwn q p k)) ∧ (¬ Ieq w hg (Pn w p) k → nsp q m d g (pwn q p k) + e ≤ nsp q m d g (pwn q p (k + 1)) ∧ letI := kR (wd_q w); letI := plR (KT q); Dv (Pn w p ^ (k + 1)) (Pn w (pts q m d g))) := by
  letI iq := kR (wd_q w)
  letI ik := kR w
  letI := plR (KT q)
  have ek : (k + 1) * e = k * e + e := by rw [Nat.add_mul, Nat.one_mul]
  obtain ⟨a1, a2, a3⟩ := pwn_ok w hp.1 he k (by omega)
  obtain ⟨b1, b2, b3⟩ := pwn_ok w hp.1 he (k + 1) hk
  obtain ⟨S, s1, s2, s3⟩ := nsp_tsp w hg a1.lt13
  obtain ⟨S1, t1, t2, t3⟩ := nsp_tsp w hg b1.lt13
  rw [a3] at s1
  rw [b3] at t1
  have hpi := hp.2.2
  rw [show ln q 13 p - 1 = e by omega] at hpi
  refine ⟨fun h => ?_, fun h => ⟨?_, ieq_dv w hg hpi h⟩⟩
  · have := ieq_same w hg h s1 t1
    omega
  · have := ieq_grow w hg hpi h t2 s1 t1
    omega
theorem spi_is (p : Nat) : ∀ r i (P : Nat → Nat), (∀ j, i ≤ j → j < i + r → ln q 13 (P j) + ln q 13 p ≤ 14) → spi q p r i P = some (fun j => if i ≤ j ∧ j < i + r then prd q (P j) p else P j) := by
  intro r
  induction r with
  | zero =>
    intro i P _
    show some P = _
    congr 1
    funext j
    rw [if_neg (by omega)]
  | succ r ih =>
    intro i P h
    have e1 : spi q p (r + 1) i P = if 14 < ln q 13 (P i) + ln q 13 p then none else spi q p r (i + 1) (up1 P i (prd q (P i) p)) := rfl
    have h0 := h i (Nat.le_refl _) (by omega)
    have hu : ∀ j, j ≠ i → up1 P i (prd q (P i) p) j = P j := fun j hj => if_neg hj
    have hu0 : up1 P i (prd q (P i) p) i = prd q (P i) p := if_pos rfl
    rw [e1, if_neg (by omega), ih (i + 1) _ (fun j h1 h3 => by
      rw [hu j (by omega)]
      exact h j (by omega) (by omega))]
    congr 1
    funext j
    by_cases c : j = i
    · rw [c, if_neg (by omega), if_pos (by omega), hu0]
    · rw [hu j c]
      by_cases c1 : i ≤ j ∧ j < i + (r + 1)
      · rw [if_pos c1, if_pos (by omega)]
      · rw [if_neg c1, if_neg (by omega)]
theorem spi_mulP (p c : Nat) (P : Nat → Nat) (h : ∀ j, j < c → ln q 13 (P j) + ln q 13 p ≤ 14) : spi q p c 0 P = some (mulP q p c P) := by
  rw [spi_is p c 0 P (fun j _ hj => h j (by omega))]
  congr 1
  funext j
  show (if 0 ≤ j ∧ j < 0 + c then prd q (P j) p else P j) = if j < c then prd q (P j) p else P j
  by_cases z : j < c
  · rw [if_pos z, if_pos (by omega)]
  · rw [if_neg z, if_neg (by omega)]
theorem spo_s (f : Nat → Nat) (p r k v b : Nat) (P : Nat → Nat) : spo q m d f p (r + 1) k v b P = if d < k * (ln q 13 p - 1) then some P else
      match spi q p (min (nsp q m d f (prd q v p) / (ln q 13 p - 1) - b) 7) 0 P with
      | none => none
      | some P1 => spo q m d f p r (k + 1) (prd q v p) (nsp q m d f (prd q v p) / (ln q 13 p - 1)) P1 := rfl
/-- no more comes -/
theorem spo_stay (w : Wd q m d n) {g : Nat → Nat} (hg : ∀ k, g k < n) {p e : Nat} (hp : Irn w p) (he : ln q 13 p = e + 1) (P : Nat → Nat) : ∀ r k, Ieq w hg (Pn w p) k → spo q m d g p r (k + 1) (pwn q p k) (nsp q m d g (pwn q p k) / e) P = some P := by
  have hd7 := w.d7
  intro r
  induction r with
  | zero => exact fun k _ => rfl
  | succ r ih =>
    intro k hI
    rw [spo_s, show ln q 13 p - 1 = e by omega]
    by_cases c : d < (k + 1) * e
    · rw [if_pos c]
    · rw [if_neg c]
      have h1 := (nsp_step w hg hp he (k := k) (by omega)).1 hI
      have e1 : prd q (pwn q p k) p = pwn q p (k + 1) := rfl
      rw [e1, h1, Nat.sub_self, Nat.zero_min]
      show spo q m d g p r (k + 1 + 1) (pwn q p (k + 1)) (nsp q m d g (pwn q p k) / e) P = some P
      rw [← h1]
      exact ih (k + 1) (ieq_s w hg hI)
theorem mspw_s (f : Nat → Nat) (p r v had many : Nat) (P : Nat → Nat) : mspw q m d f p (r + 1) v had many P = if many ≤ had then some P else if ∃ i, i < many - had ∧ 14 < ln q 13 (P i) + ln q 13 p then none else
      match tms q v p with
      | none => some (mulP q p (many - had) P)
      | some w1 => mspw q m d f p r w1 many (nsp q m d f w1 / (ln q 13 p - 1)) (mulP q p (many - had) P) := rfl
/-- one prime: both sides -/
theorem prt_one (w : Wd q m d n) {g : Nat → Nat} (hg : ∀ k, g k < n) {p e D : Nat} (hp : Irn w p) (he : ln q 13 p = e + 1) (hD : D ≤ d) (hmul : letI := kR (wd_q w); letI := plR (KT q); ∀ k : Nat, Dv (Pn w p ^ k) (Pn w (pts q m d g)) → k * e ≤ D) : ∀ rm rc k (P : Nat → Nat) , rc + k = 7 → rm + k = 9 → (letI := kR (wd_q w); letI := plR (KT q); Dv (Pn w p ^ k) (Pn w (pts q m d g))) → (k + 1) * e ≤ 12 → (∀ i, Mn q (P i) ∧ ln q 13 (P i) + D ≤ d + 1 + k * e) →
    ∃ R K, spo q m d g p rc (k + 1) (pwn q p k) (nsp q m d g (pwn q p k) / e) P = some R ∧ mspw q m d g p rm (pwn q p (k + 1)) (nsp q m d g (pwn q p k) / e) (nsp q m d g (pwn q p (k + 1)) / e) P = some R ∧ (letI := kR (wd_q w); letI := plR (KT q); Dv (Pn w p ^ K) (Pn w (pts q m d g))) ∧ k ≤ K ∧ (∀ i, Mn q (R i) ∧ ln q 13 (R i) + k * e ≤ ln q 13 (P i) + K * e) ∧ ∀ i, 7 ≤ i → R i = P i := by
  letI iq := kR (wd_q w)
  letI := plR (KT q)
  have h2 := w.q2
  have hd7 := w.d7
  have he1 : 1 ≤ e := by
    have := hp.2.1
    omega
  intro rm
  induction rm with
  | zero =>
    intro rc k P h1 h3 hdv _ _
    have h5 := hmul k hdv
    have : k ≤ k * e := Nat.le_mul_of_pos_right k (by omega)
    omega
  | succ rm ih =>
    intro rc k P h1 h3 hdv hk12 hP
    have h5 := hmul k hdv
    have ek : (k + 1) * e = k * e + e := by rw [Nat.add_mul, Nat.one_mul]
    have ek2 : (k + 1 + 1) * e = (k + 1) * e + e := by rw [Nat.add_mul (k + 1) 1 e, Nat.one_mul]
    obtain ⟨s1, s2⟩ := nsp_step w hg hp he (k := k) hk12
    rw [mspw_s]
    by_cases c : Ieq w hg (Pn w p) k
    · refine ⟨P, k, spo_stay w hg hp he P rc k c, ?_, hdv, Nat.le_refl _, fun i => ⟨(hP i).1, Nat.le_refl _⟩, fun i _ => rfl⟩
      rw [s1 c, if_pos (Nat.le_refl _)]
    · obtain ⟨s3, s4⟩ := s2 c
      have hke := hmul (k + 1) s4
      have hle1 : k + 1 ≤ (k + 1) * e := Nat.le_mul_of_pos_right (k + 1) (by omega)
      have hlt : nsp q m d g (pwn q p k) / e + 1 ≤ nsp q m d g (pwn q p (k + 1)) / e := by
        rw [← Nat.add_div_right _ (by omega : 0 < e)]
        exact Nat.div_le_div_right s3
      have hm7 : nsp q m d g (pwn q p (k + 1)) / e ≤ 7 := by
        have h7 := nsp_le q m d g (pwn q p (k + 1))
        have h8 := Nat.div_le_self (nsp q m d g (pwn q p (k + 1))) e
        omega
      have hc7 : nsp q m d g (pwn q p (k + 1)) / e - nsp q m d g (pwn q p k) / e ≤ 7 := Nat.le_trans (Nat.sub_le _ _) hm7
      have hov : ∀ i, ln q 13 (P i) + ln q 13 p ≤ 14 := fun i => by
        have := (hP i).2
        omega
      rw [if_neg (by omega), if_neg (by
        rintro ⟨i, _, hi⟩
        have := hov i
        omega)]
      have hPM : ∀ c1 i, Mn q (mulP q p c1 P i) ∧ ln q 13 (mulP q p c1 P i) ≤ ln q 13 (P i) + e := fun c1 i => by
        show Mn q (if i < c1 then prd q (P i) p else P i) ∧ ln q 13 (if i < c1 then prd q (P i) p else P i) ≤ ln q 13 (P i) + e
        split
        · obtain ⟨b1, b2⟩ := prd_mn h2 (hP i).1 hp.1 (hov i)
          exact ⟨b1, by omega⟩
        · exact ⟨(hP i).1, by omega⟩
      obtain ⟨rc, rfl⟩ : ∃ r1, rc = r1 + 1 := ⟨rc - 1, by omega⟩
      have e1 : prd q (pwn q p k) p = pwn q p (k + 1) := rfl
      rw [spo_s, show ln q 13 p - 1 = e by omega, if_neg (by omega), e1, Nat.min_eq_left hc7, spi_mulP p _ P (fun j _ => hov j)]
      have hP1 := hPM (nsp q m d g (pwn q p (k + 1)) / e - nsp q m d g (pwn q p k) / e)
      have hP7 : ∀ i, 7 ≤ i → mulP q p (nsp q m d g (pwn q p (k + 1)) / e - nsp q m d g (pwn q p k) / e) P i = P i := fun i hi => if_neg (fun z => by
        have := Nat.lt_of_lt_of_le z hc7
        omega)
      generalize mulP q p (nsp q m d g (pwn q p (k + 1)) / e - nsp q m d g (pwn q p k) / e) P = P1 at *
      obtain ⟨w1, w2, w3⟩ := pwn_ok w hp.1 he (k + 1) hk12
      by_cases c2 : (k + 1 + 1) * e ≤ 12
      · rw [tms_fit h2 w1.lt13 (by omega)]
        have e2 : prd q (pwn q p (k + 1)) p = pwn q p (k + 1 + 1) := rfl
        obtain ⟨R, K, r1, r2, r3, r4, r5, r6⟩ := ih rc (k + 1) P1 (by omega) (by omega) s4 c2 (fun i => ⟨(hP1 i).1, by
          have := (hP1 i).2
          have := (hP i).2
          omega⟩)
        refine ⟨R, K, r1, ?_, r3, by omega, fun i => ⟨(r5 i).1, ?_⟩, fun i hi => (r6 i hi).trans (hP7 i hi)⟩
        · rw [e2]
          exact r2
        · have h9 := (r5 i).2
          have h8 := (hP1 i).2
          omega
      · have ht : tms q (pwn q p (k + 1)) p = none := by
          unfold tms
          have z1 := w1.pos h2
          have z2 := hp.1.pos h2
          rw [if_neg (by omega), if_neg (by omega)]
        rw [ht]
        refine ⟨P1, k + 1, ?_, rfl, s4, by omega, fun i => ⟨(hP1 i).1, by
          have := (hP1 i).2
          omega⟩, hP7⟩
        show spo q m d g p rc (k + 1 + 1) (pwn q p (k + 1)) (nsp q m d g (pwn q p (k + 1)) / e) P1 = some P1
        cases rc with
        | zero => rfl
        | succ rc => rw [spo_s, show ln q 13 p - 1 = e by omega, if_pos (by omega)]
theorem dv_skip {R : Type} [Lean.Grind.CommRing R] (hR : (1 : R) ≠ 0) (hI : Ivs R) {r p : PL R} {N M : Nat} (hr : Irr r N) (hp : Irr p M) (hne : r ≠ p) (k : Nat) : ∀ y : PL R, letI := plR R; Dv (r ^ k) (y * p) → Dv (r ^ k) y := by
  letI := plR R
  induction k with
  | zero =>
    intro y _
    have e : r ^ 0 = 1 := by grind
    rw [e]
    exact ⟨y, by grind⟩
  | succ k ih =>
    intro y hy
    have hry : Dv r (y * p) := by
      rw [pow_sp] at hy
      exact (Dv.self_r r (r ^ k)).trans hy
    rcases irr_prm hR hI hr hry with z | z
    · obtain ⟨x, hx⟩ := z
      obtain ⟨s, hs⟩ := hy
      have h3 : x * p = s * r ^ k := by
        refine mnc_can hr.1 ?_
        have e1 : x * p * r = y * p := by rw [hx]; grind
        have e2 : s * r ^ k * r = s * r ^ (k + 1) := by
          rw [pow_sp]
          generalize r ^ k = A
          grind
        rw [e1, e2, hs]
      obtain ⟨t, ht⟩ := ih x ⟨s, h3⟩
      refine ⟨t, ?_⟩
      rw [hx, ht, pow_sp]
      generalize r ^ k = A
      grind
    · exact absurd (irr_eq hR hr hp z) hne
/-- all of one prime taken out -/
theorem tkl_ok (w : Wd q m d n) {p e : Nat} (hp : Irn w p) (he : ln q 13 p = e + 1) {F : Nat → Nat} (M : Nat) : ∀ r i x, M < r → Mn q x → (∀ j, j < M → Irn w (F (i + j))) → (∀ a b, a ≤ b → b < M → F (i + a) ≤ F (i + b)) → (∀ j, j < M → p ≤ F (i + j)) → Pn w x = pp w F i M → letI := kR (wd_q w); letI := plR (KT q); ∃ i1 M1, i1 + M1 = i + M ∧ i ≤ i1 ∧ Mn q (tkl q p r x) ∧ Pn w (tkl q p r x) = pp w F i1 M1 ∧ (∀ j, i ≤ j → j < i1 → F j = p) ∧ (0 < M1 → F i1 ≠ p) ∧ (∀ (c : PL (KT q)) (N k : Nat), Irr c N → c ≠ Pn w p → Dv (c ^ k) (Pn w x) → Dv (c ^ k) (Pn w (tkl q p r x))) ∧ ∀ K : Nat, Dv (Pn w p ^ K) (Pn w x) → K * e + ln q 13 (tkl q p r x) ≤ ln q 13 x := by
  letI := kR (wd_q w)
  letI := plR (KT q)
  have h2 := w.q2
  have hR := q_ne w
  have hI := q_ivs w
  have hpi := hp.2.2
  rw [show ln q 13 p - 1 = e by omega] at hpi
  have he1 := hpi.2.1
  have stop : ∀ x, Mn q x → ¬ Dv (Pn w p) (Pn w x) → ∀ K : Nat, Dv (Pn w p ^ K) (Pn w x) → K * e + ln q 13 x ≤ ln q 13 x := fun x hx hn K hK => by
    cases K with
    | zero => omega
    | succ K =>
      exfalso
      apply hn
      rw [pow_sp] at hK
      exact (Dv.self_r _ _).trans hK
  induction M with
  | zero =>
    intro r i x hr hx _ _ _ hP
    obtain ⟨r, rfl⟩ : ∃ r1, r = r1 + 1 := ⟨r - 1, by omega⟩
    have hl := pp_nil w hx hP
    have e1 : tkl q p (r + 1) x = x := by
      show (if ln q 13 x ≤ 1 then x else _) = x
      rw [if_pos hl]
    rw [e1]
    refine ⟨i, 0, rfl, Nat.le_refl _, hx, hP, fun j h1 h3 => by omega, fun z => absurd z (Nat.lt_irrefl _), fun c N k _ _ h => h, stop x hx (fun z => ?_)⟩
    have h5 := mnc_dvle hR hpi.1 (mn_pn w hx) z
    omega
  | succ M ih =>
    intro r i x hr hx hF hs1 hle hP
    obtain ⟨r, rfl⟩ : ∃ r1, r = r1 + 1 := ⟨r - 1, by omega⟩
    obtain ⟨l1, l2, l3, l4⟩ := lft_first w hx hF (fun j hj => by
      have := hs1 0 j (by omega) hj
      rw [Nat.add_zero] at this
      exact this) hP
    have e1 : tkl q p (r + 1) x = if rst q x p = 0 then tkl q p r (quo q x p) else x := by
      show (if ln q 13 x ≤ 1 then x else _) = _
      rw [if_neg (by omega)]
    have sh : ∀ j, i + (j + 1) = i + 1 + j := fun j => by omega
    by_cases c : F i = p
    · have hr0 : rst q x p = 0 := by
        rw [rst_0 w hx.lt13 hp.1, hP, pp_s, c]
        exact Dv.self_l _ _
      rw [e1, if_pos hr0]
      rw [c] at l3 l4
      obtain ⟨c1, c2, c3, c4⟩ := cof w hx hp.1 hr0
      have hqe := quo_dv w hx.lt13 hp.1 hr0
      obtain ⟨i1, M1, a1, a2, a3, a4, a5, a6, a7, a8⟩ := ih r (i + 1) (quo q x p) (by omega) l3 (fun j hj => by
        rw [← sh]
        exact hF (j + 1) (by omega)) (fun a b hab hb => by
        rw [← sh, ← sh]
        exact hs1 (a + 1) (b + 1) (by omega) (by omega)) (fun j hj => by
        rw [← sh]
        exact hle (j + 1) (by omega)) l4
      refine ⟨i1, M1, by omega, by omega, a3, a4, fun j h1 h3 => ?_, a6, fun c0 N k hc hne hd => a7 c0 N k hc hne ?_, fun K hK => ?_⟩
      · by_cases z : j = i
        · rw [z, c]
        · exact a5 j (by omega) h3
      · rw [hqe] at hd
        exact dv_skip hR hI hc hpi hne k _ hd
      · cases K with
        | zero =>
          have := a8 0 (by
            have e : Pn w p ^ 0 = 1 := by
              generalize Pn w p = A
              grind
            rw [e]
            exact dv_one _)
          omega
        | succ K =>
          have hK1 : Dv (Pn w p ^ K) (Pn w (quo q x p)) := by
            obtain ⟨s, hs⟩ := hK
            refine ⟨s, mnc_can hpi.1 ?_⟩
            rw [← hqe, hs, pow_sp]
            generalize Pn w p ^ K = A
            grind
          have := a8 K hK1
          rw [Nat.add_mul, Nat.one_mul]
          omega
    · have hr0 : ¬ Dv (Pn w p) (Pn w x) := fun z => by
        rw [hP] at z
        obtain ⟨j, j1, j2⟩ := dv_pp w hpi (M + 1) i hF z
        have h5 := pn_inj w hp.1.lt13 (hF j j1).1.lt13 j2
        have h6 := hs1 0 j (by omega) j1
        have h7 := hle 0 (by omega)
        rw [Nat.add_zero] at h6 h7
        omega
      have hr1 : ¬ rst q x p = 0 := fun z => hr0 ((rst_0 w hx.lt13 hp.1).mp z)
      rw [e1, if_neg hr1]
      exact ⟨i, M + 1, rfl, Nat.le_refl _, hx, hP, fun j h1 h3 => by omega, fun _ => c, fun c N k _ _ h => h, stop x hx hr0⟩
theorem fpl_skip (g F : Nat → Nat) {p : Nat} (P : Nat → Nat) : ∀ s r i, 1 ≤ i → F (i - 1) = p → (∀ j, i ≤ j → j < i + s → F j = p) → fpl q m d g F (r + s) i P = fpl q m d g F r (i + s) P := by
  intro s
  induction s with
  | zero => exact fun r i _ _ _ => rfl
  | succ s ih =>
    intro r i hi h1 h3
    have e1 : fpl q m d g F (r + s + 1) i P = if i = 0 ∨ F i ≠ F (i - 1) then
      (match spr q m d g (F i) P with
      | none => none
      | some P1 => fpl q m d g F (r + s) (i + 1) P1)
    else fpl q m d g F (r + s) (i + 1) P := rfl
    have h5 := h3 i (Nat.le_refl _) (by omega)
    rw [show r + (s + 1) = r + s + 1 by omega, e1, if_neg (by
      rintro (z | z)
      · omega
      · exact z (by rw [h1, h5])), ih r (i + 1) (by omega) (by rw [Nat.add_sub_cancel]; exact h5) (fun j a b => h3 j (by omega) (by omega)), show i + (s + 1) = i + 1 + s by omega]
/-- all primes -/
theorem prt_all (w : Wd q m d n) {g : Nat → Nat} (hg : ∀ k, g k < n) {F : Nat → Nat} : ∀ M r i x (P : Nat → Nat), M < r → M ≤ 12 → Mn q x → (∀ j, j < M → Irn w (F (i + j))) → (∀ a b, a ≤ b → b < M → F (i + a) ≤ F (i + b)) → (0 < M → i = 0 ∨ F i ≠ F (i - 1)) → Pn w x = pp w F i M → (letI := kR (wd_q w); letI := plR (KT q); ∀ j, j < M → ∀ k : Nat, Dv (Pn w (F (i + j)) ^ k) (Pn w (pts q m d g)) → Dv (Pn w (F (i + j)) ^ k) (Pn w x)) → (∀ i, Mn q (P i) ∧ ln q 13 (P i) + ln q 13 x ≤ d + 2) → ∃ R, fpl q m d g F M i P = some R ∧ mfp q m d g r x P = some R ∧ ∀ i, 7 ≤ i → R i = P i := by
  letI := kR (wd_q w)
  letI := plR (KT q)
  have h2 := w.q2
  have hd7 := w.d7
  intro M
  induction M using Nat.strongRecOn with
  | ind M ih =>
    intro r i x P hr hM12 hx hF hs1 hb hP hmf hPi
    obtain ⟨r, rfl⟩ : ∃ r1, r = r1 + 1 := ⟨r - 1, by omega⟩
    have e2 : mfp q m d g (r + 1) x P = if ln q 13 x ≤ 1 then some P else
      match mspw q m d g (lft q x) 9 (lft q x) 0 (nsp q m d g (lft q x) / (ln q 13 (lft q x) - 1)) P with
      | none => none
      | some P1 => mfp q m d g r (tkl q (lft q x) 13 x) P1 := rfl
    rw [e2]
    cases M with
    | zero =>
      rw [if_pos (pp_nil w hx hP)]
      exact ⟨P, rfl, rfl, fun i _ => rfl⟩
    | succ M =>
      obtain ⟨l1, l2, l3, l4⟩ := lft_first w hx hF (fun j hj => by
        have := hs1 0 j (by omega) hj
        rw [Nat.add_zero] at this
        exact this) hP
      have h0 := hF 0 (by omega)
      have hm0 := hmf 0 (by omega)
      rw [Nat.add_zero] at h0 hm0
      obtain ⟨e, he⟩ : ∃ e, ln q 13 (F i) = e + 1 := ⟨ln q 13 (F i) - 1, by have := h0.2.1; omega⟩
      have he1 : 1 ≤ e := by
        have := h0.2.1
        omega
      have hpm : ∀ k : Nat, Mnc (Pn w (F i) ^ k) (k * e) := fun k => by
        induction k with
        | zero =>
          have e1 : Pn w (F i) ^ 0 = 1 := by
            generalize Pn w (F i) = A
            grind
          rw [e1, Nat.zero_mul]
          exact Mnc.one
        | succ k ih =>
          rw [pow_sp, Nat.add_mul, Nat.one_mul]
          have := mn_pn w h0.1
          rw [show ln q 13 (F i) - 1 = e by omega] at this
          exact ih.mul this
      have hmul : ∀ k : Nat, Dv (Pn w (F i) ^ k) (Pn w (pts q m d g)) → k * e ≤ ln q 13 x - 1 := fun k hk => mnc_dvle (q_ne w) (hpm k) (mn_pn w hx) (hm0 k hk)
      have hxd : ln q 13 x - 1 ≤ d := by
        have h5 := (hPi 0).2
        have h6 := ln_pos (hPi 0).1.lt13 ((hPi 0).1.pos h2)
        omega
      have hex : e ≤ ln q 13 x - 1 := by
        have h5 := mn_pn w h0.1
        rw [show ln q 13 (F i) - 1 = e by omega] at h5
        refine mnc_dvle (q_ne w) h5 (mn_pn w hx) ?_
        rw [hP, pp_s]
        exact Dv.self_l _ _
      obtain ⟨R, K, r1, r2, r3, -, r5, r6⟩ := prt_one w hg h0 he hxd hmul 9 7 0 P rfl rfl (by
        have e1 : Pn w (F i) ^ 0 = 1 := by
          generalize Pn w (F i) = A
          grind
        rw [e1]
        exact dv_one _) (by omega) (fun j => ⟨(hPi j).1, by
        have := (hPi j).2
        omega⟩)
      have ep : pwn q (F i) 1 = F i := prd_1l h2 h0.1.lt13
      have e0 : nsp q m d g (pwn q (F i) 0) / e = 0 := by
        show nsp q m d g 1 / e = 0
        rw [nsp_1 w hg, Nat.zero_div]
      rw [e0] at r1 r2
      rw [Nat.zero_add, ep] at r2
      have e3 : spr q m d g (F i) P = some R := by
        show (if ln q 13 (F i) ≤ 1 then some P else spo q m d g (F i) 7 1 1 0 P) = some R
        rw [if_neg (by omega)]
        exact r1
      have e4 : fpl q m d g F (M + 1) i P = if i = 0 ∨ F i ≠ F (i - 1) then
        (match spr q m d g (F i) P with
        | none => none
        | some P1 => fpl q m d g F M (i + 1) P1)
      else fpl q m d g F M (i + 1) P := rfl
      rw [if_neg (by omega), e4, if_pos (hb (by omega)), e3, l2, show ln q 13 (F i) - 1 = e by omega, r2]
      show ∃ R1, fpl q m d g F M (i + 1) R = some R1 ∧ mfp q m d g r (tkl q (F i) 13 x) R = some R1 ∧ ∀ i, 7 ≤ i → R1 i = P i
      obtain ⟨i1, M1, a1, a2, a3, a4, a5, a6, a7, a8⟩ := tkl_ok w h0 he (M + 1) 13 i x (by omega) hx hF hs1 (fun j hj => by
        have := hs1 0 j (by omega) hj
        rw [Nat.add_zero] at this
        exact this) hP
      have hii : i + 1 ≤ i1 := by
        apply Decidable.byContradiction
        intro z
        have z1 : i1 = i := by omega
        have := a6 (by omega)
        rw [z1] at this
        exact this rfl
      have hsk := fpl_skip (q := q) (m := m) (d := d) g F (p := F i) R (i1 - (i + 1)) M1 (i + 1) (by omega) (by rw [Nat.add_sub_cancel]) (fun j h1 h3 => a5 j (by omega) (by omega))
      rw [show M1 + (i1 - (i + 1)) = M by omega, show i + 1 + (i1 - (i + 1)) = i1 by omega] at hsk
      rw [hsk]
      have sh : ∀ j, i1 + j = i + (i1 - i + j) := fun j => by omega
      obtain ⟨R1, b1, b2, b3⟩ := ih M1 (by omega) r i1 (tkl q (F i) 13 x) R (by omega) (by omega) a3 (fun j hj => by
        rw [sh]
        exact hF _ (by omega)) (fun a b hab hb1 => by
        rw [sh, sh b]
        exact hs1 _ _ (by omega) (by omega)) (fun h0 => Or.inr (by
        rw [a5 (i1 - 1) (by omega) (by omega)]
        exact a6 h0)) a4 (fun j hj k hk => by
        have hFj := hF (i1 - i + j) (by omega)
        have hmj := hmf (i1 - i + j) (by omega) k
        rw [← sh] at hFj hmj
        refine a7 _ _ k hFj.2.2 (fun z => ?_) (hmj hk)
        have h5 := pn_inj w hFj.1.lt13 h0.1.lt13 z
        have h6 := hs1 (i1 - i) (i1 - i + j) (by omega) (by omega)
        have h7 := hs1 0 (i1 - i) (by omega) (by omega)
        rw [← sh, show i + (i1 - i) = i1 by omega] at h6
        rw [Nat.add_zero, show i + (i1 - i) = i1 by omega] at h7
        have := a6 (by omega)
        omega) (fun j => ⟨(r5 j).1, by
        have h5 := (r5 j).2
        have h6 := (hPi j).2
        have h7 := a8 K (hm0 K r3)
        omega⟩)
      exact ⟨R1, b1, b2, fun j hj => (b3 j hj).trans (r6 j hj)⟩
theorem prtOK : PrtOK := fun q m d n f hp hf => by
  have w := hp.1
  letI := kR (wd_q w)
  letI := plR (KT q)
  have h2 := w.q2
  have hd7 := w.d7
  have hg := hf.1
  obtain ⟨p1, p2⟩ := pts_mn w f
  obtain ⟨f1, f2, f3, f4⟩ := fnd_ok w p1.lt13 (p1.pos h2)
  have hmon : mon q (pts q m d f) = pts q m d f := by
    obtain ⟨k, k1, k2, k3⟩ := p1
    have e1 : fst q (pts q m d f) = 1 := by
      rw [fst_top k1]
      exact k2
    show cmb q (iv q (fst q (pts q m d f))) 13 0 (pts q m d f) = _
    rw [e1, iv_one w.hq]
    exact cmb_one h2 k3
  rw [hmon] at f3
  have hM1 := mn_1 (q := q) h2
  have sz : ∀ i, 0 + i = i := Nat.zero_add
  have hlen : (fnd q (pts q m d f)).1 ≤ 7 := by
    obtain ⟨D, d1, d2, -⟩ := pp_deg w (k := 1) (f := (fnd q (pts q m d f)).2) (fnd q (pts q m d f)).1 0 (fun i hi => by
      rw [sz]
      exact ⟨(f1 i hi).1, (f1 i hi).2.1⟩)
    rw [f3] at d1
    have e := mnc_deg (q_ne w) d1 (mn_pn w p1)
    omega
  obtain ⟨R, r1, r2, r3⟩ := prt_all w hg (F := (fnd q (pts q m d f)).2) (fnd q (pts q m d f)).1 9 0 (pts q m d f) (fun _ => 1) (by omega) (by omega) p1 (fun j hj => by
    rw [sz]
    exact f1 j hj) (fun a b hab hb => by
    rw [sz, sz]
    exact f2 a b hab hb) (fun _ => Or.inl rfl) f3.symm (fun j _ k h => h) (fun i => ⟨hM1.1, by
      show ln q 13 1 + _ ≤ _
      omega⟩)
  refine ⟨R, R, r1, r2, fun i _ => rfl, ?_⟩
  rw [r3 7 (Nat.le_refl _)]
  exact Nat.le_refl _
end PRP
theorem partsOK_is : partsOK := fun q m d n hp f h1 h3 h5 => by
  have h25 : 2 ≤ rl f 25 := by
    rw [rl_ext (f := f) (N := 4) (M := 25) (by omega) h3]
    exact h5
  obtain ⟨R, -, r1, -⟩ := prtOK q m d n f hp ⟨h1, h3, h25⟩
  exact ⟨R, r1⟩
