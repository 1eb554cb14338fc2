/-! the points: a chain -/
section PTC
variable {q m d n : Nat}
/-- of the rests: a space as numbers -/
def Nu {n : Nat} (U : KT n → Prop) (x : Nat) : Prop := ∃ hx : x < n, U (kt hx)
/-- tag and rest: by v and U -/
def Tgu (w : Wd q m d n) {f : Nat → Nat} (hf : Ln q n f) (U : KT n → Prop) (v : KT n) (t x : Nat) : Prop := letI := kR (wd_q w); letI := kR w; t < q ^ 13 ∧ ∃ hx : x < n, U (kt hx - acp (fgm w) (lnm hf) (Pn w t) v)
theorem Tgu_add (w : Wd q m d n) {f : Nat → Nat} (hf : Ln q n f) {U : KT n → Prop} {v : KT n} (hU : letI := kR (wd_q w); letI := kR w; Sbm (acp (fgm w) (lnm hf)) U) (s t x t1 x1 : Nat) (h : Tgu w hf U v t x) (h1 : Tgu w hf U v t1 x1) : Tgu w hf U v (cmb q s 13 t t1) (cmb q s 13 x x1) := by
  letI iq := kR (wd_q w)
  letI ik := kR w
  have h2 := w.q2
  have hL := fgm_Lop w hf
  obtain ⟨a1, a2, a3⟩ := h
  obtain ⟨b1, b2, b3⟩ := h1
  refine ⟨cmb_lt _ h2 13 _ _, cmb_ltn w a2 b2, ?_⟩
  have hs1 : s % q < q := Nat.mod_lt _ (by omega)
  have e1 := pn_cmb w (kt hs1) t t1
  have e2 : cmb q (kt hs1 : KT q).1 13 t t1 = cmb q s 13 t t1 := cmb_mod h2 _ _
  rw [e2] at e1
  have e3 : (kt (cmb_ltn (s := s) w a2 b2) : KT n) = kt a2 + fgm w (kt hs1) * kt b2 := Subtype.ext (((k_fgm w (kt hs1) (kt a2) (kt b2)).trans (cmb_mod h2 _ _)).symm)
  rw [e1, e3, (acp_ok hL).1, acp_mn0 hL]
  have h5 := hU.2.2 (mnm (kt hs1) 0) _ b3
  rw [acp_mn hL] at h5
  have h6 := hU.2.1 _ _ a3 h5
  have e5 : ∀ X : KT n, itg (lnm hf) 0 X = X := fun _ => rfl
  rw [e5] at h6
  generalize acp (fgm w) (lnm hf) (Pn w t) v = A at *
  generalize acp (fgm w) (lnm hf) (Pn w t1) v = B at *
  generalize (kt a2 : KT n) = X at *
  generalize (kt b2 : KT n) = X1 at *
  generalize fgm w (kt hs1) = c at *
  have e : X + c * X1 - (A + c * B) = X - A + c * (X1 - B) := by grind
  rw [e]
  exact h6
/-- U and what polynomials of degree below k make of v -/
def Wup (w : Wd q m d n) {f : Nat → Nat} (hf : Ln q n f) (U : KT n → Prop) (v : KT n) (k : Nat) (x : KT n) : Prop := letI := kR (wd_q w); letI := kR w; ∃ u a, U u ∧ Dlt a k ∧ x = u + acp (fgm w) (lnm hf) a v
theorem ptl_gen (w : Wd q m d n) {g : Nat → Nat} (hg : ∀ k, g k < n) {U : KT n → Prop} {v : KT n} (hU : letI := kR (wd_q w); letI := kR w; Sbm (acp (fgm w) (lnm (vl_Ln w hg))) U) : ∀ (r k : Nat) (S : TSt), r + k ≤ 13 → Sok q d n k S → d < nfl S.1 7 + r → TSp q n S (Nu (Wup w (vl_Ln w hg) U v k)) → (∀ p, p < 7 → S.1 p = true → Tgu w (vl_Ln w hg) U v (S.2.2 p) (S.2.1 p)) → (letI := kR (wd_q w); letI := kR w; ∀ D a, D < k → Mnc a D → ¬ U (acp (fgm w) (lnm (vl_Ln w hg)) a v)) →
    letI := kR (wd_q w); letI := kR w; ∃ c k2, (ptl q m d g r k (itg (lnm (vl_Ln w hg)) k v).1 S).1 = some c ∧ k ≤ k2 ∧ c < q ^ (k2 + 1) ∧ dg q c k2 = 1 ∧ Sok q d n (k2 + 1) (ptl q m d g r k (itg (lnm (vl_Ln w hg)) k v).1 S).2 ∧ nfl (ptl q m d g r k (itg (lnm (vl_Ln w hg)) k v).1 S).2.1 7 = nfl S.1 7 + (k2 - k) ∧ Gen (acp (fgm w) (lnm (vl_Ln w hg))) U v (Pn w c) ∧ TSp q n (ptl q m d g r k (itg (lnm (vl_Ln w hg)) k v).1 S).2 (Nu (Adj (acp (fgm w) (lnm (vl_Ln w hg))) U v)) := by
  letI iq := kR (wd_q w)
  letI ik := kR w
  have h2 := w.q2
  have hL := fgm_Lop w (vl_Ln w hg)
  have hA := acp_ok hL
  intro r
  induction r with
  | zero =>
    intro k S hk hS hd _ _ _
    have := nfl_dpt (fun p hp => (hS p hp).1) 7
    omega
  | succ r ih =>
    intro k S hk hS hd hT hG hm
    have hx := (itg (lnm (vl_Ln w hg)) k v).2
    obtain ⟨f1, f2, f3⟩ := tie_feed w (t := q ^ k) hT hx
    obtain ⟨t1, t2, t3, t4⟩ := tS_ok w (hS.mono h2 (Nat.le_succ k)) hx (t := q ^ k) (Nat.pow_lt_pow_right (by omega) (by omega))
    have hlead := ta1_lead h2 (show k < 13 by omega) hS 7 (itg (lnm (vl_Ln w hg)) k v).1 _ (dg_pow h2 k)
    have hTk : Tgu w (vl_Ln w hg) U v (q ^ k) (itg (lnm (vl_Ln w hg)) k v).1 := by
      refine ⟨Nat.pow_lt_pow_right (by omega) (by omega), hx, ?_⟩
      rw [pn_pow w (show k < 13 by omega), acp_mn hL, hL.2.2.1]
      have e : (kt hx : KT n) - 1 * itg (lnm (vl_Ln w hg)) k v = 0 := by
        have e1 : (kt hx : KT n) = itg (lnm (vl_Ln w hg)) k v := rfl
        rw [e1]
        generalize itg (lnm (vl_Ln w hg)) k v = A
        grind
      rw [e]
      exact hU.1
    have e1 : ptl q m d g (r + 1) k (itg (lnm (vl_Ln w hg)) k v).1 S = if (tS q S (itg (lnm (vl_Ln w hg)) k v).1 (q ^ k)).1 = 0 then (some (tS q S (itg (lnm (vl_Ln w hg)) k v).1 (q ^ k)).2.1, (tS q S (itg (lnm (vl_Ln w hg)) k v).1 (q ^ k)).2.2) else ptl q m d g r (k + 1) (itg (lnm (vl_Ln w hg)) (k + 1) v).1 (tS q S (itg (lnm (vl_Ln w hg)) k v).1 (q ^ k)).2.2 := by
      rw [itg_s]
      rfl
    rw [e1]
    by_cases c : (tS q S (itg (lnm (vl_Ln w hg)) k v).1 (q ^ k)).1 = 0
    · rw [if_pos c]
      obtain ⟨g1, g2⟩ := f2 c
      have hmn : Mnc (Pn w (tS q S (itg (lnm (vl_Ln w hg)) k v).1 (q ^ k)).2.1) k := pn_mnc w (by omega) t2 hlead
      have hrel := ta1_rel (Tgu_add w (vl_Ln w hg) hU) hG 7 _ _ (Nat.le_refl _) hTk
      rw [g2] at hrel
      obtain ⟨r0, r1, r2⟩ := hrel
      have e4 : (tS q S (itg (lnm (vl_Ln w hg)) k v).1 (q ^ k)).2.1 = (ta1 q S.1 S.2.1 S.2.2 7 (itg (lnm (vl_Ln w hg)) k v).1 (q ^ k)).2.1 := rfl
      rw [← e4] at r2
      have hu : U (acp (fgm w) (lnm (vl_Ln w hg)) (Pn w (tS q S (itg (lnm (vl_Ln w hg)) k v).1 (q ^ k)).2.1) v) := by
        have h5 := hU.neg hA r2
        have e : -((kt r1 : KT n) - acp (fgm w) (lnm (vl_Ln w hg)) (Pn w (tS q S (itg (lnm (vl_Ln w hg)) k v).1 (q ^ k)).2.1) v) = acp (fgm w) (lnm (vl_Ln w hg)) (Pn w (tS q S (itg (lnm (vl_Ln w hg)) k v).1 (q ^ k)).2.1) v := by
          have e0 : (kt r1 : KT n) = 0 := rfl
          rw [e0]
          generalize acp (fgm w) (lnm (vl_Ln w hg)) (Pn w (tS q S (itg (lnm (vl_Ln w hg)) k v).1 (q ^ k)).2.1) v = A
          grind
        rw [e] at h5
        exact h5
      refine ⟨_, k, rfl, Nat.le_refl _, t2, hlead, t1, ?_, gen_min (q_ivs w) hA hU hmn hu (fun D a hD ha => hm D a hD ha), ?_⟩
      · show nfl (tS q S _ (q ^ k)).2.2.1 7 = _
        rw [t3 c]
        omega
      · show TSp q n (tS q S _ (q ^ k)).2.2 _
        rw [g1]
        refine hT.cg (fun x _ => ⟨fun ⟨hx, u, a, u1, u2⟩ => ?_, fun ⟨hx, u, a, u1, u2, u3⟩ => ⟨hx, u, a, u1, u3⟩⟩)
        obtain ⟨M0, hM0⟩ := Dlt.ex a
        obtain ⟨b, rr, b1, b2⟩ := pl_div hmn M0 a hM0
        refine ⟨hx, u + acp (fgm w) (lnm (vl_Ln w hg)) b (acp (fgm w) (lnm (vl_Ln w hg)) (Pn w (tS q S (itg (lnm (vl_Ln w hg)) k v).1 (q ^ k)).2.1) v), rr, hU.2.1 _ _ u1 (hU.2.2 _ _ hu), b2, ?_⟩
        rw [u2, b1, hA.1, hA.2.1]
        generalize acp (fgm w) (lnm (vl_Ln w hg)) b (acp (fgm w) (lnm (vl_Ln w hg)) (Pn w (tS q S (itg (lnm (vl_Ln w hg)) k v).1 (q ^ k)).2.1) v) = A
        generalize acp (fgm w) (lnm (vl_Ln w hg)) rr v = B
        grind
    · rw [if_neg c]
      have hn : ¬ Wup w (vl_Ln w hg) U v k (itg (lnm (vl_Ln w hg)) k v) := fun z => c (f1.mpr ⟨hx, z⟩)
      have e4 := t4 c
      have hT1 : TSp q n (tS q S (itg (lnm (vl_Ln w hg)) k v).1 (q ^ k)).2.2 (Nu (Wup w (vl_Ln w hg) U v (k + 1))) := by
        refine (f3 c).cg (fun x hx1 => ⟨fun ⟨hx2, u, a, u1, u2, u3⟩ => ?_, fun ⟨s, z, z1, z2, ⟨z3, u, a, u1, u2, u3⟩, z4⟩ => ?_⟩)
        · letI := plR (KT q)
          have hd1 : Dlt (a - mnm (a.1 k) k) k := fun j hj => by
            rw [pl_sub]
            show a.1 j - (if j = k then a.1 k else 0) = 0
            by_cases z : j = k
            · rw [if_pos z, z]
              grind
            · rw [if_neg z, u2 j (by omega)]
              grind
          refine ⟨(a.1 k).1, (u + acp (fgm w) (lnm (vl_Ln w hg)) (a - mnm (a.1 k) k) v).1, (a.1 k).2, (u + acp (fgm w) (lnm (vl_Ln w hg)) (a - mnm (a.1 k) k) v).2, ⟨(u + acp (fgm w) (lnm (vl_Ln w hg)) (a - mnm (a.1 k) k) v).2, u, _, u1, hd1, rfl⟩, ?_⟩
          rw [← k_fgm w (a.1 k)]
          have e : (kt hx2 : KT n) = u + acp (fgm w) (lnm (vl_Ln w hg)) (a - mnm (a.1 k) k) v + fgm w (a.1 k) * itg (lnm (vl_Ln w hg)) k v := by
            rw [u3, acp_sub hL, acp_mn hL]
            generalize fgm w (a.1 k) * itg (lnm (vl_Ln w hg)) k v = A
            generalize acp (fgm w) (lnm (vl_Ln w hg)) a v = B
            grind
          exact congrArg Subtype.val e
        · letI := plR (KT q)
          refine ⟨hx1, u, a + mnm (kt z1 : KT q) k, u1, fun j hj => ?_, Subtype.ext ?_⟩
          · rw [pl_add, u2 j (by omega)]
            show (0 : KT q) + (if j = k then (kt z1 : KT q) else 0) = 0
            rw [if_neg (by omega)]
            grind
          · have e : u + acp (fgm w) (lnm (vl_Ln w hg)) (a + mnm (kt z1 : KT q) k) v = (kt z3 : KT n) + fgm w (kt z1) * itg (lnm (vl_Ln w hg)) k v := by
              rw [u3, hA.1, acp_mn hL]
              generalize fgm w (kt z1 : KT q) * itg (lnm (vl_Ln w hg)) k v = A
              generalize acp (fgm w) (lnm (vl_Ln w hg)) a v = B
              grind
            rw [e, k_fgm w]
            exact z4
      have hm1 : ∀ D a, D < k + 1 → Mnc a D → ¬ U (acp (fgm w) (lnm (vl_Ln w hg)) a v) := fun D a hD ha hu => by
        by_cases cD : D < k
        · exact hm D a cD ha hu
        · have : D = k := by omega
          subst this
          apply hn
          letI := plR (KT q)
          refine ⟨acp (fgm w) (lnm (vl_Ln w hg)) a v, mnm 1 D - a, hu, fun j hj => ?_, ?_⟩
          · rw [pl_sub]
            show (if j = D then (1 : KT q) else 0) - a.1 j = 0
            by_cases z : j = D
            · rw [if_pos z, z, ha.1]
              grind
            · rw [if_neg z, ha.2 j (by omega)]
              grind
          · rw [acp_sub hL, acp_mn hL, hL.2.2.1]
            generalize itg (lnm (vl_Ln w hg)) D v = A
            generalize acp (fgm w) (lnm (vl_Ln w hg)) a v = B
            grind
      have h00 : Tgu w (vl_Ln w hg) U v 0 0 := by
        refine ⟨Nat.pow_pos (by omega), w.pos, ?_⟩
        rw [pn_0 w, ac_0 hA]
        have e : (kt w.pos : KT n) - 0 = 0 := by
          have e0 : (kt w.pos : KT n) = 0 := rfl
          rw [e0]
          grind
        rw [e]
        exact hU.1
      obtain ⟨y, k2, y1, y2, y3, y4, y5, y6, y7, y8⟩ := ih (k + 1) _ (by omega) t1 (by omega) hT1 (tS_rel h00 (Tgu_add w (vl_Ln w hg) hU) hG hTk) hm1
      exact ⟨y, k2, y1, by omega, y3, y4, y5, by omega, y7, y8⟩
end PTC
