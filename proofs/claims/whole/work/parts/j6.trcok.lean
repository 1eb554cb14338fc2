/-! the great power: TrcOK -/
theorem rg_e4 {S : Type} [Lean.Grind.CommRing S] (x1 x2 x3 x4 : S) : x1 - x2 + (x4 + (x2 + x3)) = x4 + (x1 + x3) := by grind
section TRK
variable {q m d n : Nat}
/-- the norm, over the rests -/
theorem gno_W (hp : Pw q m d n) {g : Nat → Nat} (hg : ∀ k, g k < n) (h1 : 1 ≤ g 2) {ig : KT n} (hig : letI := kR hp.1; ig * kt (hg 2) = 1) : gno q m d n g (mch q m d (g 0)) < q ^ 13 ∧ letI := kR (wd_q hp.1); letI := kR hp.1; pmap (fgm_hom hp.1) (Pn hp.1 (gno q m d n g (mch q m d (g 0)))) = rcW (fun j => gam hp j (kt (hg 0))) (fun j => gam hp (j + 2) ig) d := by
  have w := hp.1
  letI iq := kR (wd_q hp.1)
  letI ik := kR hp.1
  letI := plR (KT q)
  letI := plR (KT n)
  have h2 := w.q2
  have hd7 := w.d7
  have hd1 : 1 ≤ d := w.2.2.2.2.1
  obtain ⟨-, c2, c3⟩ := chrOK q m d n (g 0) hp (hg 0)
  obtain ⟨o1, o2, o3, o4⟩ := orb_is hp (hg 0)
  obtain ⟨hgu, hlpr⟩ := lpr_gu hp (hg 2) h1 hig
  have hod := orb_dvd hp (hg 0)
  have hcf := mch_fwp hp (hg 0)
  have ho : itg (frq q) (orb q m d (g 0)) (kt (hg 0)) = (kt (hg 0) : KT n) := Subtype.ext ((fri_val hp.1 _ (kt (hg 0))).trans o3)
  have hpw := fwp_orb hp ho (d / orb q m d (g 0))
  rw [hod] at hpw
  have up : ∀ z M, M ≤ 13 → z < q ^ M → z < q ^ 13 := fun z M hM hz => Nat.lt_of_lt_of_le hz (Nat.pow_le_pow_right (by omega) hM)
  have hgu1 : gu q m d n (g 2) < q ^ 1 := by
    rw [Nat.pow_one]
    exact hgu
  have hlg := ln_le_lt (m := 13) h2 hgu1
  have e1 : gno q m d n g (mch q m d (g 0)) = gnl q (mch q m d (g 0)) (d / orb q m d (g 0)) (gu q m d n (g 2)) := by
    show (if ln q 13 (mch q m d (g 0)) ≤ 1 then _ else gnl q (mch q m d (g 0)) (d / (ln q 13 (mch q m d (g 0)) - 1)) (gu q m d n (g 2))) = _
    rw [if_neg (by omega), c2, Nat.add_sub_cancel]
  have hgn := gnl_pn hp.1 (up _ (d + 1) (by omega) c3) c2 (d / orb q m d (g 0)) (gu q m d n (g 2)) (up _ 1 (by omega) hgu1) (by
    rw [Nat.mul_comm, hod]
    omega)
  rw [e1]
  refine ⟨hgn.1, ?_⟩
  have hpg : Pn hp.1 (gu q m d n (g 2)) = mnm (kt hgu) 0 := pn_fig hp.1 (kt hgu)
  have hmp : ∀ (f : PL (KT q)) (r : Nat), pmap (fgm_hom hp.1) (f ^ r) = pmap (fgm_hom hp.1) f ^ r := fun f r => by
    induction r with
    | zero =>
      have e3 : f ^ 0 = 1 := by grind
      have e4 : pmap (fgm_hom hp.1) f ^ 0 = 1 := by
        generalize pmap (fgm_hom hp.1) f = A
        grind
      rw [e3, e4, pmap_1]
    | succ r ih => rw [pow_sp, pmap_mul, ih, ← pow_sp]
  rw [hgn.2, pmap_mul, hmp, hcf, hpg, pmap_mn, ← hpw, ← hlpr, rcW_prf]
  have hper : ∀ i, (mnm 1 1 - mnm (itg (frq q) (i + d) (kt (hg 0) : KT n)) 0 : PL (KT n)) = mnm 1 1 - mnm (itg (frq q) i (kt (hg 0))) 0 := fun i => by
    have := fri_mulp hp (kt (hg 0)) i 1
    rw [Nat.mul_one] at this
    rw [this]
  have hrev := prf_rev (h := fun i => (mnm 1 1 - mnm (itg (frq q) i (kt (hg 0) : KT n)) 0 : PL (KT n))) hd1 hper
  have e5 : fwp hp (kt (hg 0)) d = prf (fun j => (mnm 1 1 - mnm (gam hp j (kt (hg 0))) 0 : PL (KT n))) d := hrev.symm
  rw [e5]
theorem pts_deg (hp : Pw q m d n) {g : Nat → Nat} (hg : ∀ k, g k < n) : letI := kR (wd_q hp.1); Mnc (Pn hp.1 (pts q m d g)) d := by
  letI iq := kR (wd_q hp.1)
  letI ik := kR hp.1
  letI := plR (KT q)
  have hf := vl_Ln hp.1 hg
  have hL := fgm_Lop hp.1 hf
  obtain ⟨H, hH⟩ := hes_ex hp.1 hg
  have hpt := ptsOK q m d n g H hp hg hH
  obtain ⟨⟨⟨b, hb⟩, hz⟩, hlt⟩ := hH
  have hB := hbs_of hp.1 hf hb hlt (fun i j hi hj h => hz i j hi hj h)
  have hF := fhs_of hp.1 hlt
  obtain ⟨G, g1, g2, -⟩ := hes_blk hL hB hF (s := 0) (fun k hk => absurd hk (by omega)) d (by omega) d (Nat.le_refl _)
  have e : Pn hp.1 (hes q H d (0 + d)) = Pn hp.1 (hes q H d 0) * G := g2
  have e0 : Pn hp.1 (hes q H d 0) = 1 := hF.1
  rw [e0, Nat.zero_add, hpt] at e
  have e1 : 1 * G = G := by grind
  rw [e, e1]
  exact g1
/-- the trace, over the rests -/
theorem gtr_S (hp : Pw q m d n) {g : Nat → Nat} (hg : ∀ k, g k < n) (h3 : ∀ k, 3 ≤ k → g k = 0) (h1 : 1 ≤ g 2) {ig : KT n} (hig : letI := kR hp.1; ig * kt (hg 2) = 1) : letI := kR (wd_q hp.1); letI := kR hp.1; letI := plR (KT n); pmap (fgm_hom hp.1) (Pn hp.1 (gtr q m d n g (mch q m d (g 0)))) = rcA (fun j => gam hp j (kt (hg 0))) (fun j => gam hp (j + 1) (kt (hg 1))) (fun j => gam hp (j + 2) ig) d + rcB (fun j => gam hp j (kt (hg 0))) (fun j => gam hp (j + 1) (kt (hg 1))) (fun j => gam hp (j + 2) ig) (d + 1) := by
  have w := hp.1
  letI iq := kR (wd_q hp.1)
  letI ik := kR hp.1
  letI ipq := plR (KT q)
  letI ipk := plR (KT n)
  have h2 := w.q2
  have hd1 : 1 ≤ d := w.2.2.2.2.1
  obtain ⟨hgu, hlpr⟩ := lpr_gu hp (hg 2) h1 hig
  have hN := (gno_W hp hg h1 hig).2
  have hdet := pts_det hp hg h3 hig
  have hdeg := pts_deg hp hg
  have hPm : Mnc (pmap (fgm_hom hp.1) (Pn hp.1 (pts q m d g))) d := by
    refine ⟨?_, fun k hk => ?_⟩
    · show fgm hp.1 ((Pn hp.1 (pts q m d g)).1 d) = 1
      rw [hdeg.1]
      exact (fgm_hom hp.1).2.2
    · show fgm hp.1 ((Pn hp.1 (pts q m d g)).1 k) = 0
      rw [hdeg.2 k hk]
      exact hom_0 (fgm_hom hp.1)
  have hA := (rcA_dlt (fun j => gam hp j (kt (hg 0) : KT n)) (fun j => gam hp (j + 1) (kt (hg 1))) (fun j => gam hp (j + 2) ig) d).1
  have hB := (rcB_dlt (fun j => gam hp j (kt (hg 0) : KT n)) (fun j => gam hp (j + 1) (kt (hg 1))) (fun j => gam hp (j + 2) ig) (d + 1)).1
  have hW := rcW_top (fun j => gam hp j (kt (hg 0) : KT n)) (fun j => gam hp (j + 2) ig) d
  have htr : pmap (fgm_hom hp.1) (Pn hp.1 (gtr q m d n g (mch q m d (g 0)))) = 1 + rcW (fun j => gam hp j (kt (hg 0))) (fun j => gam hp (j + 2) ig) d - mnm (lpr (fun j => gam hp (j + 2) ig) d) 0 * pmap (fgm_hom hp.1) (Pn hp.1 (pts q m d g)) := by
    have e1 : gtr q m d n g (mch q m d (g 0)) = cmb q ((q - gu q m d n (g 2)) % q) 13 (cmb q 1 13 1 (gno q m d n g (mch q m d (g 0)))) (pts q m d g) := rfl
    have hneg : (kt (Nat.mod_lt ((q - gu q m d n (g 2)) % q) hp.1.q0) : KT q) = -(kt hgu) := by
      have e3 : (kt (Nat.mod_lt ((q - gu q m d n (g 2)) % q) hp.1.q0) : KT q) + kt hgu = 0 := Subtype.ext (by
        show cmb q 1 13 ((q - gu q m d n (g 2)) % q % q) (gu q m d n (g 2)) = 0
        rw [Nat.mod_mod, cmb_fig h2 (Nat.mod_lt _ w.q0) hgu, Nat.one_mul, Nat.mod_add_mod, show q - gu q m d n (g 2) + gu q m d n (g 2) = q by omega, Nat.mod_self])
      generalize (kt (Nat.mod_lt ((q - gu q m d n (g 2)) % q) hp.1.q0) : KT q) = A at *
      generalize (kt hgu : KT q) = B at *
      clear hA hB hW hPm hdeg hdet hN hlpr
      grind
    rw [e1, pn_cmbs hp.1, pn_add hp.1, pn_1 hp.1, pmap_add, pmap_add, pmap_mul, pmap_1, hN, pmap_mn, hneg, hom_neg (fgm_hom hp.1), hlpr, mnm_neg]
    generalize (mnm (fgm hp.1 (kt hgu)) 0 : PL (KT n)) = A
    generalize pmap (fgm_hom hp.1) (Pn hp.1 (pts q m d g)) = B
    generalize rcW (fun j => gam hp j (kt (hg 0))) (fun j => gam hp (j + 2) ig) d = C
    clear hA hB hW hPm hdeg hdet hN hlpr
    grind
  rw [htr]
  generalize rcA (fun j => gam hp j (kt (hg 0) : KT n)) (fun j => gam hp (j + 1) (kt (hg 1))) (fun j => gam hp (j + 2) ig) d = A at *
  generalize rcB (fun j => gam hp j (kt (hg 0) : KT n)) (fun j => gam hp (j + 1) (kt (hg 1))) (fun j => gam hp (j + 2) ig) (d + 1) = B at *
  generalize rcW (fun j => gam hp j (kt (hg 0) : KT n)) (fun j => gam hp (j + 2) ig) d = W at *
  generalize pmap (fgm_hom hp.1) (Pn hp.1 (pts q m d g)) = P at *
  generalize lpr (fun j => gam hp (j + 2) ig) d = ε at *
  clear hN htr hlpr hdeg hig
  -- what is left has too low a degree
  have hz : W - A - B + 1 - mnm ε 0 * P = 0 := by
    refine dv_small hPm (fun k hk => ?_) (Dv.sub hdet (Dv.self_r P (mnm ε 0)))
    have e1 : (1 : PL (KT n)).1 k = 0 := by
      rw [pl_one]
      exact if_neg (by omega)
    rw [pl_sub, pl_add, pl_sub, pl_sub, mnm_mul, if_pos (Nat.zero_le _), Nat.sub_zero, hA k (by omega), hB k (by omega), e1]
    by_cases c : k = d
    · rw [c, hW.2, hPm.1]
      grind
    · rw [hW.1 k (by omega), hPm.2 k (by omega)]
      grind
  clear hA hB hW hPm hdet
  grind
theorem trcOK : TrcOK := fun q m d n g hp hR h3 k => by
  have w := hp.1
  letI iq := kR (wd_q hp.1)
  letI ik := kR hp.1
  letI is := sqR (KT n)
  letI ipk := plR (KT n)
  have h2 := w.q2
  have hd7 := w.d7
  have hd1 : 1 ≤ d := w.2.2.2.2.1
  obtain ⟨hg, hg4, hgr⟩ := hR
  have hz : ∀ k, 3 ≤ k → g k = 0 := fun k hk => by
    by_cases c : k < 25
    · exact rl_z 25 k (by omega) c
    · exact hg4 k (by omega)
  have hled : g 2 ≠ 0 := by
    have := rl_led 25 (f := g) (by omega)
    rw [h3] at this
    exact this
  have hg2 : (kt (hg 2) : KT n) ≠ 0 := fun z => hled (congrArg Subtype.val z)
  obtain ⟨ig, hig⟩ := k_ivs hp _ hg2
  have hNW := (gno_W hp hg (by omega) hig).2
  have hTS := gtr_S hp hg hz (by omega) hig
  have hNlt := gno_ok chrOK uniOK hp hg (show 1 ≤ g 2 by omega)
  have hpt := (pts_mn hp.1 g)
  have up : ∀ z, z < q ^ (d + 1) → z < q ^ 13 := fun z hz => Nat.lt_of_lt_of_le hz (Nat.pow_le_pow_right (by omega) (by omega))
  have hPlt : pts q m d g < q ^ (d + 1) := Nat.lt_of_lt_of_le (ln_lt hpt.1.lt13) (Nat.pow_le_pow_right (by omega) hpt.2)
  have h1lt : 1 < q ^ (d + 1) := by
    have : q ^ 1 ≤ q ^ (d + 1) := Nat.pow_le_pow_right (by omega) (by omega)
    rw [Nat.pow_one] at this
    omega
  have hTlt : gtr q m d n g (mch q m d (g 0)) < q ^ (d + 1) := cmb_small h2 (cmb_small h2 h1lt hNlt) hPlt
  have hfit : ∀ a, a < q ^ (d + 1) → 2 * (ln q 13 a - 1) ≤ 24 := fun a ha => by
    have := ln_le_lt (m := 13) h2 ha
    omega
  have hAc : ∀ a, a < q ^ (d + 1) → ∀ x, (trn q m d g a).2 x = Ac q m d g a x := fun a ha x => trn_Ac hp (up a ha) hg (fun i hi => hg4 i (by omega)) (D := 2) h3 (by omega) (hfit a ha) x
  have hL := lop_lop hp (kt (hg 0)) (kt (hg 1)) (kt (hg 2))
  have hA := acp_ok hL
  have hgi : ∀ j, gam hp (j + 2) ig * gam hp (j + 2) (kt (hg 2)) = 1 := fun j => by
    show itg (frq q) _ ig * itg (frq q) _ (kt (hg 2)) = 1
    rw [← fri_mul, hig]
    have e := fgm_fri hp.1 1 ((d - 1) * (j + 2))
    rw [(fgm_hom hp.1).2.2] at e
    exact e
  have hrep := rc_rep hL (c0 := fun j => gam hp j (kt (hg 0))) (c1 := fun j => gam hp (j + 1) (kt (hg 1))) (c2 := fun j => gam hp (j + 2) (kt (hg 2))) (i2 := fun j => gam hp (j + 2) ig) hgi (u := dlS hp) (fun j => dlS_T hp (kt (hg 0)) (kt (hg 1)) (kt (hg 2)) j)
  have r1 := (hrep d).1
  have r2 := (hrep (d + 1)).1
  have u0 : upS hp 0 = 0 := by
    have h5 := upS_add hp 0 0
    have e : (0 : SQ (KT n)) + 0 = 0 := by grind
    rw [e] at h5
    generalize upS hp 0 = X at *
    clear hrep r1 r2 hA hL
    grind
  have hup : ∀ f x, upS hp (acp (phS hp) (lop hp (kt (hg 0)) (kt (hg 1)) (kt (hg 2))) f x) = acp (phS hp) (lop hp (kt (hg 0)) (kt (hg 1)) (kt (hg 2))) f (upS hp x) := fun f x => acp_com hL u0 (upS_add hp) (upS_ph hp) (upS_lop hp _ _ _) f x
  have hdl0 : upS hp (dlS hp 0) = dlS hp d := by
    rw [upS_dl, Nat.zero_add]
  have hdl1 : upS hp (dlS hp 1) = dlS hp (d + 1) := by
    rw [upS_dl, Nat.add_comm]
  have hdl2 : upS hp (dlS hp d) = dlS hp (2 * d) := by
    rw [upS_dl, Nat.two_mul]
  have r3 : dlS hp (2 * d) = acp (phS hp) (lop hp (kt (hg 0)) (kt (hg 1)) (kt (hg 2))) (rcA (fun j => gam hp j (kt (hg 0))) (fun j => gam hp (j + 1) (kt (hg 1))) (fun j => gam hp (j + 2) ig) d) (dlS hp d) + acp (phS hp) (lop hp (kt (hg 0)) (kt (hg 1)) (kt (hg 2))) (rcB (fun j => gam hp j (kt (hg 0))) (fun j => gam hp (j + 1) (kt (hg 1))) (fun j => gam hp (j + 2) ig) d) (dlS hp (d + 1)) := by
    rw [← hdl2, r1, upS_add, hup, hup, hdl0, hdl1, ← r1]
  have hWr := rc_wr (fun j => gam hp j (kt (hg 0))) (fun j => gam hp (j + 1) (kt (hg 1))) (fun j => gam hp (j + 2) ig) d
  have hAN : ∀ j, (acp (phS hp) (lop hp (kt (hg 0)) (kt (hg 1)) (kt (hg 2))) (rcW (fun j => gam hp j (kt (hg 0))) (fun j => gam hp (j + 2) ig) d) (dlS hp 0) j).1 = (trn q m d g (gno q m d n g (mch q m d (g 0)))).2 j := fun j => by
    rw [← hNW]
    exact (acp_Ac hp hg hz _ j).trans (hAc _ hNlt j).symm
  have hAT : ∀ j, (acp (phS hp) (lop hp (kt (hg 0)) (kt (hg 1)) (kt (hg 2))) (rcA (fun j => gam hp j (kt (hg 0))) (fun j => gam hp (j + 1) (kt (hg 1))) (fun j => gam hp (j + 2) ig) d + rcB (fun j => gam hp j (kt (hg 0))) (fun j => gam hp (j + 1) (kt (hg 1))) (fun j => gam hp (j + 2) ig) (d + 1)) (dlS hp 0) j).1 = (trn q m d g (gtr q m d n g (mch q m d (g 0)))).2 j := fun j => by
    rw [← hTS, acp_Ac hp hg hz]
    exact (hAc _ hTlt j).symm
  have hCH : acp (phS hp) (lop hp (kt (hg 0)) (kt (hg 1)) (kt (hg 2))) (rcW (fun j => gam hp j (kt (hg 0))) (fun j => gam hp (j + 2) ig) d) (dlS hp 0) + dlS hp (2 * d) = upS hp (acp (phS hp) (lop hp (kt (hg 0)) (kt (hg 1)) (kt (hg 2))) (rcA (fun j => gam hp j (kt (hg 0))) (fun j => gam hp (j + 1) (kt (hg 1))) (fun j => gam hp (j + 2) ig) d + rcB (fun j => gam hp j (kt (hg 0))) (fun j => gam hp (j + 1) (kt (hg 1))) (fun j => gam hp (j + 2) ig) (d + 1)) (dlS hp 0)) := by
    rw [hup, hdl0, r3, ← hWr, hA.1, acp_sub hL, hA.2.1, hA.2.1]
    have f1 : acp (phS hp) (lop hp (kt (hg 0)) (kt (hg 1)) (kt (hg 2))) (rcB (fun j => gam hp j (kt (hg 0))) (fun j => gam hp (j + 1) (kt (hg 1))) (fun j => gam hp (j + 2) ig) (d + 1)) (dlS hp d) = acp (phS hp) (lop hp (kt (hg 0)) (kt (hg 1)) (kt (hg 2))) (rcB (fun j => gam hp j (kt (hg 0))) (fun j => gam hp (j + 1) (kt (hg 1))) (fun j => gam hp (j + 2) ig) (d + 1)) (acp (phS hp) (lop hp (kt (hg 0)) (kt (hg 1)) (kt (hg 2))) (rcA (fun j => gam hp j (kt (hg 0))) (fun j => gam hp (j + 1) (kt (hg 1))) (fun j => gam hp (j + 2) ig) d) (dlS hp 0)) + acp (phS hp) (lop hp (kt (hg 0)) (kt (hg 1)) (kt (hg 2))) (rcB (fun j => gam hp j (kt (hg 0))) (fun j => gam hp (j + 1) (kt (hg 1))) (fun j => gam hp (j + 2) ig) (d + 1)) (acp (phS hp) (lop hp (kt (hg 0)) (kt (hg 1)) (kt (hg 2))) (rcB (fun j => gam hp j (kt (hg 0))) (fun j => gam hp (j + 1) (kt (hg 1))) (fun j => gam hp (j + 2) ig) d) (dlS hp 1)) := by
      rw [← hA.2.2.2, ← r1]
    have f2 : acp (phS hp) (lop hp (kt (hg 0)) (kt (hg 1)) (kt (hg 2))) (rcB (fun j => gam hp j (kt (hg 0))) (fun j => gam hp (j + 1) (kt (hg 1))) (fun j => gam hp (j + 2) ig) d) (dlS hp (d + 1)) = acp (phS hp) (lop hp (kt (hg 0)) (kt (hg 1)) (kt (hg 2))) (rcB (fun j => gam hp j (kt (hg 0))) (fun j => gam hp (j + 1) (kt (hg 1))) (fun j => gam hp (j + 2) ig) d) (acp (phS hp) (lop hp (kt (hg 0)) (kt (hg 1)) (kt (hg 2))) (rcA (fun j => gam hp j (kt (hg 0))) (fun j => gam hp (j + 1) (kt (hg 1))) (fun j => gam hp (j + 2) ig) (d + 1)) (dlS hp 0)) + acp (phS hp) (lop hp (kt (hg 0)) (kt (hg 1)) (kt (hg 2))) (rcB (fun j => gam hp j (kt (hg 0))) (fun j => gam hp (j + 1) (kt (hg 1))) (fun j => gam hp (j + 2) ig) d) (acp (phS hp) (lop hp (kt (hg 0)) (kt (hg 1)) (kt (hg 2))) (rcB (fun j => gam hp j (kt (hg 0))) (fun j => gam hp (j + 1) (kt (hg 1))) (fun j => gam hp (j + 2) ig) (d + 1)) (dlS hp 1)) := by
      rw [← hA.2.2.2, ← r2]
    rw [f1, f2]
    generalize rcA (fun j => gam hp j (kt (hg 0))) (fun j => gam hp (j + 1) (kt (hg 1))) (fun j => gam hp (j + 2) ig) d = Ad
    generalize rcB (fun j => gam hp j (kt (hg 0))) (fun j => gam hp (j + 1) (kt (hg 1))) (fun j => gam hp (j + 2) ig) d = Bd
    generalize rcA (fun j => gam hp j (kt (hg 0))) (fun j => gam hp (j + 1) (kt (hg 1))) (fun j => gam hp (j + 2) ig) (d + 1) = Ae
    generalize rcB (fun j => gam hp j (kt (hg 0))) (fun j => gam hp (j + 1) (kt (hg 1))) (fun j => gam hp (j + 2) ig) (d + 1) = Be
    have sw : ∀ (X Y : PL (KT n)) v, acp (phS hp) (lop hp (kt (hg 0)) (kt (hg 1)) (kt (hg 2))) X (acp (phS hp) (lop hp (kt (hg 0)) (kt (hg 1)) (kt (hg 2))) Y v) = acp (phS hp) (lop hp (kt (hg 0)) (kt (hg 1)) (kt (hg 2))) Y (acp (phS hp) (lop hp (kt (hg 0)) (kt (hg 1)) (kt (hg 2))) X v) := fun X Y v => by
      rw [← hA.2.1, ← hA.2.1]
      have e : X * Y = Y * X := by grind
      rw [e]
    rw [sw Ad Be, sw Be Bd]
    generalize acp (phS hp) (lop hp (kt (hg 0)) (kt (hg 1)) (kt (hg 2))) Be (acp (phS hp) (lop hp (kt (hg 0)) (kt (hg 1)) (kt (hg 2))) Ad (dlS hp 0)) = x1
    generalize acp (phS hp) (lop hp (kt (hg 0)) (kt (hg 1)) (kt (hg 2))) Bd (acp (phS hp) (lop hp (kt (hg 0)) (kt (hg 1)) (kt (hg 2))) Ae (dlS hp 0)) = x2
    generalize acp (phS hp) (lop hp (kt (hg 0)) (kt (hg 1)) (kt (hg 2))) Bd (acp (phS hp) (lop hp (kt (hg 0)) (kt (hg 1)) (kt (hg 2))) Be (dlS hp 1)) = x3
    generalize acp (phS hp) (lop hp (kt (hg 0)) (kt (hg 1)) (kt (hg 2))) Ad (dlS hp d) = x4
    exact rg_e4 x1 x2 x3 x4
  have hk := congrFun hCH (k + d)
  rw [upS_val] at hk
  have hk2 := congrArg Subtype.val hk
  rw [hAT k] at hk2
  have hk3 : cmb q 1 13 (acp (phS hp) (lop hp (kt (hg 0)) (kt (hg 1)) (kt (hg 2))) (rcW (fun j => gam hp j (kt (hg 0))) (fun j => gam hp (j + 2) ig) d) (dlS hp 0) (k + d)).1 (dlS hp (2 * d) (k + d)).1 = (trn q m d g (gtr q m d n g (mch q m d (g 0)))).2 k := hk2
  rw [hAN] at hk3
  have hk4 : cmb q 1 13 ((trn q m d g (gno q m d n g (mch q m d (g 0)))).2 (k + d)) (if k + d = 2 * d then 1 else 0) = (trn q m d g (gtr q m d n g (mch q m d (g 0)))).2 k := by
    have e : (dlS hp (2 * d) (k + d)).1 = if k + d = 2 * d then 1 else 0 := by
      show (if k + d = 2 * d then (1 : KT n) else 0).1 = _
      split <;> rfl
    rw [← e]
    exact hk3
  rw [← hk4]
  have hfl : ∀ j, (trn q m d g (gno q m d n g (mch q m d (g 0)))).2 j < q ^ 13 := fun j => by
    rw [hAc _ hNlt]
    exact lsm_lt13 h2 _ _ _
  have ev : trV q d (trn q m d g (gno q m d n g (mch q m d (g 0)))).2 k = if k + d < 25 then (if k + d = 2 * d then cmb q 1 13 ((trn q m d g (gno q m d n g (mch q m d (g 0)))).2 (2 * d)) 1 else (trn q m d g (gno q m d n g (mch q m d (g 0)))).2 (k + d)) else 0 := rfl
  rw [ev]
  by_cases c : k + d < 25
  · rw [if_pos c]
    by_cases c1 : k + d = 2 * d
    · rw [if_pos c1, if_pos c1, c1]
    · rw [if_neg c1, if_neg c1, cmb_0r h2 (hfl _)]
  · rw [if_neg c, if_neg (by omega), cmb_0r h2 (hfl _), hAc _ hNlt]
    unfold Ac
    rw [lsm_13 h2 (up _ hNlt)]
    refine (lsm_z w _ (fun i hi => (gpw_deg hp (D := 2) hg hled (fun i hi => hz i (by omega)) i).2 (k + d) ?_)).symm
    have := ln_le_lt (m := 13) h2 hNlt
    omega
end TRK
