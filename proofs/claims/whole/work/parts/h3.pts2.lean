/-! the points: both ways -/
section PT2
variable {q m d n : Nat}
theorem TSp.kept (w : Wd q m d n) {S : TSt} {W : Nat → Prop} (h : TSp q n S W) {p : Nat} (hp : p < 7) (hf : S.1 p = true) : S.2.1 p < n ∧ W (S.2.1 p) := by
  have h2 := w.q2
  obtain ⟨u, N, rw, h1, hS, hT, h4⟩ := h
  obtain ⟨k1, k2, k3, k4⟩ := hT.1 p (by omega) hf
  have e : rw p 0 = S.2.1 p := congrFun hS p
  have hlt : rw p 0 < n := k1 0 (by omega)
  rw [← e]
  refine ⟨hlt, (h4 _ hlt).mpr (k2.rq (r1_rq (fun j j1 j2 => ?_) rfl))⟩
  refine dg_ext h2 (w.lt13 (k1 j j2)) (Nat.pow_pos (by omega)) (fun k hk => ?_)
  rw [dg_zero]
  by_cases z2 : k < 7
  · have := k4 (7 * j + k) (by omega) (by omega)
    unfold co at this
    rw [show (7 * j + k) / 7 = j by omega, show (7 * j + k) % 7 = k by omega] at this
    exact this
  · exact dg_7 w (k1 j j2) (by omega)
theorem pw_lt (w : Wd q m d n) {i : Nat} (hi : i < d) : q ^ i < n := by
  have h2 := w.q2
  rw [w.nq]
  exact Nat.pow_lt_pow_right (by omega) hi
theorem pto_chn (w : Wd q m d n) {g : Nat → Nat} (hg : ∀ k, g k < n) : ∀ (r j a : Nat) (S : TSt) (l : List (KT n)) (M : Nat), r + j = d → Sok q d n M S → (letI := kR (wd_q w); letI := kR w; TSp q n S (Nu (Spl (acp (fgm w) (lnm (vl_Ln w hg))) (fun x => x = 0) l))) → a < q ^ (nfl S.1 7 + 1) → dg q a (nfl S.1 7) = 1 → (letI := kR (wd_q w); letI := kR w; Chn (acp (fgm w) (lnm (vl_Ln w hg))) (fun x => x = 0) l (Pn w a)) → (letI := kR (wd_q w); letI := kR w; ∀ i, i < j → ∀ hi : q ^ i < n, Spl (acp (fgm w) (lnm (vl_Ln w hg))) (fun x => x = 0) l (kt hi)) →
    letI := kR (wd_q w); letI := kR w; ∃ l1, Chn (acp (fgm w) (lnm (vl_Ln w hg))) (fun x => x = 0) l1 (Pn w (pto q m d g r j a S)) ∧ pto q m d g r j a S < q ^ 13 ∧ ∀ i, i < d → ∀ hi : q ^ i < n, Spl (acp (fgm w) (lnm (vl_Ln w hg))) (fun x => x = 0) l1 (kt hi) := by
  letI iq := kR (wd_q w)
  letI ik := kR w
  have h2 := w.q2
  have hd7 := w.d7
  have hL := fgm_Lop w (vl_Ln w hg)
  have hA := acp_ok hL
  have hZ : Sbm (acp (fgm w) (lnm (vl_Ln w hg))) (fun x : KT n => x = 0) := by
    refine ⟨rfl, fun x y hx hy => ?_, fun a x hx => ?_⟩
    · dsimp only at hx hy ⊢
      rw [hx, hy]
      grind
    · dsimp only at hx ⊢
      have := hA.2.2.2 a 0 0
      have e : (0 : KT n) + 0 = 0 := by grind
      rw [e] at this
      rw [hx]
      generalize acp (fgm w) (lnm (vl_Ln w hg)) a 0 = A at *
      grind
  intro r
  induction r with
  | zero =>
    intro j a S l M hj hS hT ha ha1 hc hl
    have hnd := nfl_dpt (fun p hp => (hS p hp).1) 7
    refine ⟨l, hc, Nat.lt_of_lt_of_le ha (Nat.pow_le_pow_right (by omega) (by omega)), fun i hi => hl i (by omega)⟩
  | succ r ih =>
    intro j a S l M hj hS hT ha ha1 hc hl
    have hjn := pw_lt w (show j < d by omega)
    have hU := spl_sbm hA l _ hZ
    have hnd := nfl_dpt (fun p hp => (hS p hp).1) 7
    have hT1 : TSp q n (tD S) (Nu (Wup w (vl_Ln w hg) (Spl (acp (fgm w) (lnm (vl_Ln w hg))) (fun x => x = 0) l) (kt hjn) 0)) := by
      refine hT.drop.cg (fun x hx => ⟨fun ⟨hx1, u, b, u1, u2, u3⟩ => ?_, fun ⟨hx1, u1⟩ => ?_⟩)
      · have hb0 : b = (letI := plR (KT q); 0) := pl_ext (fun k => u2 k (Nat.zero_le _))
        rw [hb0, ac_0 hA] at u3
        have e : u + 0 = u := by grind
        rw [e] at u3
        refine ⟨hx1, ?_⟩
        rw [u3]
        exact u1
      · refine ⟨hx1, kt hx1, plz, u1, fun _ _ => rfl, ?_⟩
        have e : acp (fgm w) (lnm (vl_Ln w hg)) plz (kt hjn) = 0 := ac_0 hA _
        rw [e]
        generalize (kt hx1 : KT n) = A
        grind
    have hG0 : ∀ p, p < 7 → (tD S).1 p = true → Tgu w (vl_Ln w hg) (Spl (acp (fgm w) (lnm (vl_Ln w hg))) (fun x => x = 0) l) (kt hjn) ((tD S).2.2 p) ((tD S).2.1 p) := fun p hp hf => by
      obtain ⟨z1, z2, z3⟩ := hT.kept w hp hf
      refine ⟨Nat.pow_pos (by omega), z1, ?_⟩
      show Spl _ _ l (_ - acp (fgm w) (lnm (vl_Ln w hg)) (Pn w 0) _)
      rw [pn_0 w, ac_0 hA]
      have e : (kt (show (tD S).2.1 p < n from z1) : KT n) - 0 = kt z2 := by
        have e0 : (kt (show (tD S).2.1 p < n from z1) : KT n) = kt z2 := rfl
        rw [e0]
        generalize (kt z2 : KT n) = A
        grind
      rw [e]
      exact z3
    obtain ⟨c, k2, y1, y2, y3, y4, y5, y6, y7, y8⟩ := ptl_gen w hg (v := kt hjn) hU (d + 1) 0 (tD S) (by omega) (hS.drop h2) (by show d < nfl S.1 7 + (d + 1); omega) hT1 hG0 (fun D b hD => absurd hD (by omega))
    · have e0 : (itg (lnm (vl_Ln w hg)) 0 (kt hjn : KT n)).1 = q ^ j := rfl
      rw [e0] at y1 y5 y6 y8
      have hnf : nfl (ptl q m d g (d + 1) 0 (q ^ j) (tD S)).2.1 7 = nfl S.1 7 + k2 := y6
      have hnd2 := nfl_dpt (fun p hp => (y5 p hp).1) 7
      have e1 : pto q m d g (r + 1) j a S = pto q m d g r (j + 1) (ptm q a (ptl q m d g (d + 1) 0 (q ^ j) (tD S)).1) (ptl q m d g (d + 1) 0 (q ^ j) (tD S)).2 := rfl
      have e2 : ptm q a (ptl q m d g (d + 1) 0 (q ^ j) (tD S)).1 = prd q a c := by rw [y1]; rfl
      rw [e1, e2]
      have up : ∀ v k, k < 13 → v < q ^ (k + 1) → v < q ^ 13 := fun v k hk hv => Nat.lt_of_lt_of_le hv (Nat.pow_le_pow_right (by omega) (by omega))
      have hla := (Mn_of h2 (by omega) ha ha1).2
      have hlc := (Mn_of h2 (by omega) y3 y4).2
      refine ih (j + 1) _ _ (l ++ [kt hjn]) _ (by omega) y5 ?_ ?_ ?_ ?_ (fun i hi hiq => ?_)
      · rw [spl_app]
        exact y8
      · rw [hnf]
        have := prd_lt h2 ha y3 (by omega) (by omega)
        exact Nat.lt_of_lt_of_le this (Nat.pow_le_pow_right (by omega) (by omega))
      · rw [hnf]
        exact prd_top h2 hla ha1 y3 y4 (by omega)
      · rw [pn_mul w (up _ _ (by omega) ha) (up _ _ (by omega) y3) (by omega)]
        letI := plR (KT q)
        refine chn_app l [kt hjn] _ _ _ hc ⟨Pn w c, 1, y7, rfl, by grind⟩
      · rw [spl_app]
        by_cases z : i = j
        · subst z
          exact ⟨0, (letI := plR (KT q); 1), hU.1, by
            rw [hA.2.2.1]
            generalize (kt hjn : KT n) = A
            grind⟩
        · exact ⟨kt hiq, (letI := plR (KT q); 0), hl i (by omega) hiq, by
            rw [ac_0 hA]
            generalize (kt hiq : KT n) = A
            grind⟩
/-- what reaches the places of a number reaches all -/
theorem all_of_pw (w : Wd q m d n) {f : Nat → Nat} (hf : Ln q n f) {U : KT n → Prop} (hU : letI := kR (wd_q w); letI := kR w; Sbm (acp (fgm w) (lnm hf)) U) (h : ∀ i, i < d → ∀ hi : q ^ i < n, U (kt hi)) (x : KT n) : U x := by
  letI iq := kR (wd_q w)
  letI ik := kR w
  have h2 := w.q2
  have hd7 := w.d7
  have hL := fgm_Lop w hf
  have hlt : ∀ i, pwb q d i < n := fun i => by
    unfold pwb
    by_cases c : i < d
    · rw [if_pos c]
      exact pw_lt w c
    · rw [if_neg c]; exact w.pos
  have key : ∀ D, D ≤ d → ∀ hx : lsm q (dg q x.1) (pwb q d) D < n, U (kt hx) := fun D => by
    induction D with
    | zero => exact fun _ _ => hU.1
    | succ D ih =>
      intro hD hx
      have h1 := lsm_lt w (h := dg q x.1) hlt D
      have h3 := hU.2.2 (mnm (kt (dg_lt (n := x.1) (k := D) h2) : KT q) 0) _ (h D (by omega) (pw_lt w (show D < d by omega)))
      rw [acp_mn hL] at h3
      have h5 := hU.2.1 _ _ (ih (by omega) h1) h3
      have e : (kt h1 : KT n) + fgm w (kt (dg_lt (n := x.1) (k := D) h2)) * itg (lnm hf) 0 (kt (pw_lt w (show D < d by omega))) = kt hx := Subtype.ext (by
        rw [k_fgm w]
        show cmb q (dg q x.1 D) 13 _ (q ^ D) = cmb q (dg q x.1 D) 13 _ (pwb q d D)
        rw [show pwb q d D = q ^ D from if_pos (by omega)]
        rfl)
      rw [e] at h5
      exact h5
  have hx2 : x.1 < q ^ d := by
    rw [← w.nq]
    exact x.2
  have e := pwb_all h2 (show d ≤ 13 by omega) hx2
  have := key d (Nat.le_refl _) (by rw [e]; exact x.2)
  have e3 : (kt (show lsm q (dg q x.1) (pwb q d) d < n by rw [e]; exact x.2) : KT n) = x := Subtype.ext e
  rw [e3] at this
  exact this
/-- sums of rests in the ring -/
theorem lnc_val (w : Wd q m d n) (c : Nat → KT q) (b : Nat → KT n) : ∀ k, letI := kR w; (letI := kR (wd_q w); (lnc (fgm w) c b k).1) = lsm q (fun i => (c i).1) (fun i => (b i).1) k := by
  letI iq := kR (wd_q w)
  letI ik := kR w
  intro k
  induction k with
  | zero => rfl
  | succ k ih =>
    have e : (lnc (fgm w) c b (k + 1)).1 = (lnc (fgm w) c b k + fgm w (c k) * b k).1 := rfl
    rw [e, k_fgm w, ih]
    rfl
theorem sp_lnc {R M : Type} [Lean.Grind.CommRing R] [Lean.Grind.CommRing M] {φ : R → M} {b : Nat → M} (j : Nat) : ∀ x, SPn φ b j x → ∃ c : Nat → R, x = lnc φ c b j := by
  induction j with
  | zero => exact fun x hx => ⟨fun _ => 0, hx⟩
  | succ j ih =>
    rintro x ⟨s, hs⟩
    obtain ⟨c, hc⟩ := ih _ hs
    refine ⟨fun i => if i < j then c i else s, ?_⟩
    have e : ∀ k, k ≤ j → lnc φ (fun i => if i < j then c i else s) b k = lnc φ c b k := fun k => by
      induction k with
      | zero => exact fun _ => rfl
      | succ k ih1 =>
        intro hk
        show lnc φ (fun i => if i < j then c i else s) b k + φ (if k < j then c k else s) * b k = lnc φ c b k + φ (c k) * b k
        rw [ih1 (by omega), if_pos (by omega)]
    show x = lnc φ (fun i => if i < j then c i else s) b j + φ (if j < j then c j else s) * b j
    rw [e j (Nat.le_refl _), if_neg (by omega), ← hc]
    grind
end PT2
