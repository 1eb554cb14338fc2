/-! what is made, copied; a method from its entry -/
section MK
variable {G : GC} {e i j pc idx : Nat} {t : T3} {l : LV} {r As : List Value} {M : Mem} {Q : Option Value → Mem → Prop}
theorem copy_words : Jvm.Cond.methodLink RX9 178 arraycopyName ∈ lw_tbl ∧ Jvm.Cond.static arraycopyName ∈ gdt ∧ Jvm.Cond.initialized "java/lang/System" ∈ gdt ∧ Jvm.Cond.native arraycopyName ∈ gdt ∧ Jvm.Cond.methodLink RX9 178 arraycopyName ∈ gdt := by decide +kernel
theorem ur_off {α : Type} {f : Nat → Nat → α} {o j : Nat} {g : Nat → α} (h : j ≠ o) : ur f o g j = f j := if_neg h
theorem ur_on {α : Type} {f : Nat → Nat → α} {o : Nat} {g : Nat → α} : ur f o g o = g := if_pos rfl
theorem r_copy {c0 c1 : Nat} {n dp sp : Int32} (hd : decode (bC i) pc = .ok (.invokestatic 178, 3)) (how : ow i = RX9) (ho0 : ak c0 = 11) (hl0 : c0 < t.1) (ho1 : ak c1 = 11) (hl1 : c1 < t.1) (h1 : ¬ sp < 0) (h2 : ¬ dp < 0) (h3 : ¬ n < 0) (h4 : ix sp + ix n ≤ an c0) (h5 : ix dp + ix n ≤ an c1) (hdp : 1 ≤ dep i) (hcr : cats r ≤ 8)
    (k1 : wp G e t i (pc + 3) l r (ur M.1 c1 (va_cpy (M.1 c0) (M.1 c1) (ix sp) (ix dp) (ix n)), M.2) Q) : wp G e t i pc l (.int n :: .int dp :: .ref c1 :: .int sp :: .ref c0 :: r) M Q := by
  intro p lch e0 R s m args below meth c H locs cells slots Z ls mc ms cur C hc hR hlo hl2 g1 g2 g3 g4 hF
  obtain ⟨hx0, hb, hml, hown, hts, hret, hlocks, hini, hE, hfr, hlo2⟩ := id C
  obtain ⟨-, w2, w3, w4, w1⟩ := copy_words
  have hcur0 : c0 < cur := Nat.lt_of_lt_of_le hl0 hc.2
  have hcur1 : c1 < cur := Nat.lt_of_lt_of_le hl1 hc.2
  have hc0 := hR.at hcur0
  have hc1 := hR.at hcur1
  rw [cell_int ho0] at hc0
  rw [cell_int ho1] at hc1
  have hc0' : H[gb G + c0]? = some (vp_cell (gcy G 0) (an c0, .inl (M.1 c0))) := hc0
  have hc1' : H[gb G + c1]? = some (vp_cell (gcy G 0) (an c1, .inl (M.1 c1))) := hc1
  have hst : lst G (.int n :: .int dp :: .ref c1 :: .int sp :: .ref c0 :: r) = .int n :: .int dp :: .ref (gb G + c1) :: .int sp :: .ref (gb G + c0) :: lst G r := by
    show Value.int n :: Value.int dp :: Value.ref (adr G c1) :: Value.int sp :: Value.ref (adr G c0) :: _ = _
    rw [adr_lt (ak_lt ho0 (by omega)), adr_lt (ak_lt ho1 (by omega))]
    rfl
  rw [hst]
  have nn : ∀ z : Int32, ¬ z < 0 → z.toInt = (z.toNatClampNeg : Int) := by
    intro z hz
    have hz0 : (0 : Int) ≤ z.toInt := by
      have := Int32.not_lt.mp hz
      simpa using Int32.le_iff_toInt_le.mp this
    show z.toInt = ((z.toInt.toNat : Nat) : Int)
    omega
  intro T hT X
  obtain ⟨-, k0, hk0, cm0, hkk0⟩ := (hE.1.2 0 _ rfl).1 (an c0) (fun j => .int (M.1 c0 j))
  obtain ⟨-, k9, hk9, cm9, hkk9⟩ := (hE.1.2 0 _ rfl).1 (an c1) (fun j => .int (M.1 c1 j))
  rw [how] at hown
  obtain ⟨vm', X', step⟩ := X.arraycopy hx0 hown (hts _ w1) (hts _ w4) (hts _ w2) (hts _ w3) (src := gb G + c0) (dst := gb G + c1) (cs := vp_cell (gcy G 0) (an c0, .inl (M.1 c0))) (cd := vp_cell (gcy G 0) (an c1, .inl (M.1 c1))) (srcPos := sp) (destPos := dp) (n := n) (by rw [hT]; exact hc0') (by rw [hT]; exact hc1')
    (fun _ h => by cases h) (fun _ h => by cases h) (fun h => by cases h) (fun h => by cases h) hk0 hk9 hkk0 hkk9 rfl h1 h2 h3
    (by rw [nn sp h1, nn n h3]; show ¬ _ > ((arrV (gcy G 0) (an c0) (fun j => .int (M.1 c0 j))).slots.size : Int); rw [arrV_size]; unfold ix at h4; omega)
    (by rw [nn dp h2, nn n h3]; show ¬ _ > ((arrV (gcy G 0) (an c1) (fun j => .int (M.1 c1 j))).slots.size : Int); rw [arrV_size]; unfold ix at h5; omega)
    (fun vm₁ _ i hi => by
      have e : (vp_cell (gcy G 0) (an c0, .inl (M.1 c0))).slots.getD (sp.toNatClampNeg + i) .null = .int (M.1 c0 (sp.toNatClampNeg + i)) := by
        show (arrV (gcy G 0) (an c0) (fun j => .int (M.1 c0 j))).slots.getD _ _ = _
        rw [Array.getD_eq_getD_getElem?, arrV_read _ _ (by unfold ix at h4; omega)]
        rfl
      refine ⟨?_, ?_⟩
      · rw [e]
        rfl
      · rw [e]
        exact trivial)
    (g := F0 m pc ls (.int n :: .int dp :: .ref (gb G + c1) :: .int sp :: .ref (gb G + c0) :: lst G r)) rfl (by rw [hml]; exact hl2.1) (rest := lst G r) rfl (by rw [hb]; exact hd) (by omega) (by
      have hcl := cats_lst (G := G) (r := r)
      have hnw : nativeFrameWords "java/lang/System" "arraycopy" 5 ≤ 30 := by decide +kernel
      show 2 * 0 + _ + _ ≤ _
      rw [hcl]
      omega)
  have e1 : copied (vp_cell (gcy G 0) (an c0, .inl (M.1 c0))) (vp_cell (gcy G 0) (an c1, .inl (M.1 c1))) sp dp n = vp_cell (gcy G 0) (an c1, .inl (va_cpy (M.1 c0) (M.1 c1) (ix sp) (ix dp) (ix n))) := va_copied (fun z => .int z) (gcy G 0) (gcy G 0) (M.1 c0) (M.1 c1) h4
  rw [e1] at X' step
  have hl : gb G + c1 < H.size := (Array.getElem?_eq_some_iff.mp hc1').1
  have hheap : ((T.setVm vm').setCell (gb G + c1) (vp_cell (gcy G 0) (an c1, .inl (va_cpy (M.1 c0) (M.1 c1) (ix sp) (ix dp) (ix n))))).heap = H.setIfInBounds (gb G + c1) (vp_cell (gcy G 0) (an c1, .inl (va_cpy (M.1 c0) (M.1 c1) (ix sp) (ix dp) (ix n)))) := by rw [← hT]; rfl
  have hR1 : Rel G cur (ur M.1 c1 (va_cpy (M.1 c0) (M.1 c1) (ix sp) (ix dp) (ix n)), M.2) (H.setIfInBounds (gb G + c1) (vp_cell (gcy G 0) (an c1, .inl (va_cpy (M.1 c0) (M.1 c1) (ix sp) (ix dp) (ix n))))) := by
    refine hR.put hcur1 (by simp) (fun q hq => by simp [Array.getElem?_setIfInBounds, Ne.symm hq]) ?_ (fun q hq => ⟨ur_off hq, rfl, rfl⟩)
    rw [cell_int ho1]
    show (H.setIfInBounds (gb G + c1) _)[gb G + c1]? = some (vp_cell _ _)
    rw [Array.getElem?_setIfInBounds_self_of_lt hl, show ur M.1 c1 (va_cpy (M.1 c0) (M.1 c1) (ix sp) (ix dp) (ix n)) c1 = _ from ur_on]
  obtain ⟨t2, a1, b1⟩ := k1 p lch e0 R s m args below meth c _ _ cells slots Z ls mc ms cur C hc hR1 (by
    intro q hq
    rcases List.mem_append.mp hq with h | h
    · exact hlo q h
    · obtain ⟨z, -, hz⟩ := List.mem_map.mp h
      rw [← hz]
      exact Nat.le_add_right _ _) hl2 g1 g2 g3 g4 hF _ hheap X'
  exact ⟨t2, step t2 a1, b1⟩
theorem vwd_n {c : Nat} (h : c < 11) : ∀ o, o < 168 → ak o = c → an o = (vwd c).2.2 := by
  have hall : (List.range 168).all (fun o => decide (ak o < 11 → an o = (vwd (ak o)).2.2)) = true := by decide +kernel
  intro o ho hk
  have := List.all_eq_true.mp hall o (List.mem_range.mpr ho)
  simp only [decide_eq_true_eq] at this
  rw [← hk]
  exact this (by omega)
theorem Rel.push {cur n : Nat} {H H1 : Heap} (hR : Rel G cur M H) (hz : H1.size = H.size + n) (hq : ∀ q, q < H.size → H1[q]? = H[q]?) (ha : ∀ j, j < n → va_at (gD G) vwCl (gb G + (cur + j), cellOf G M (cur + j)) H1) : Rel G (cur + n) M H1 := by
  refine ⟨by rw [hz, hR.1]; omega, fun q h0 => ?_, fun j hj => ?_, fun j hj => hR.2.2.2 j (by omega)⟩
  · rw [hq q (by rw [hR.1]; omega)]
    exact hR.2.1 q h0
  · rcases Nat.lt_or_ge j cur with h | h
    · exact (hR.at h).kept (hq _ (by rw [hR.1]; show gb G + j < _; omega))
    · have := ha (j - cur) (by omega)
      rw [show cur + (j - cur) = j by omega] at this
      exact this
theorem fv_born {ci k o : Nat} (hci : ci < 11) (hk : k < (vwd ci).2.2) (h1 : M.1 o k = 0) (h2 : M.2.1 o k = 0) (h3 : M.2.2 o k = none) : defaultValue (tyc ci k) = fv G M ci o k := by
  obtain ⟨hty, -, -⟩ := vwd_k hci hk
  unfold fv
  cases htc : tyc ci k with
  | int => rw [htc] at hty; simp [tyk] at hty; rw [hty]; simp [h1, defaultValue]
  | long => rw [htc] at hty; simp [tyk] at hty; rw [hty]; simp [h2, defaultValue]
  | boolean => rw [htc] at hty; simp [tyk] at hty; rw [hty]; simp [h1, defaultValue]
  | object n => rw [htc] at hty; simp [tyk] at hty; rw [hty]; simp [h3, defaultValue, va_rf]
  | array n =>
    rw [htc] at hty
    simp [tyk] at hty
    rcases hty with q | q
    · rw [q]; simp [h3, defaultValue, va_rf]
    · rw [q]; simp [h1, defaultValue]
  | _ => rw [htc] at hty; simp [tyk] at hty
theorem r_new {ci : Nat} (hd : decode (bC i) pc = .ok (.new idx, 3)) (hci : ci < 11) (hk : ak t.1 = ci) (hcl : Jvm.Cond.classLink (ow i) idx (vwd ci).1 ∈ gdt) (hin : Jvm.Cond.instantiable (vwd ci).1 (vwd ci).2.2 ∈ gdt) (hit : Jvm.Cond.initialized (vwd ci).1 ∈ gdt) (hxi : mx i = true) (h1 : 1 ≤ t.2.1) (h2 : an t.1 ≤ t.2.2)
    (k1 : wp G e (t.1 + 1, t.2.1 - 1, t.2.2 - an t.1) i (pc + 3) l (.ref t.1 :: r) M Q) : wp G e t i pc l r M Q := by
  intro p lch e0 R s m args below meth c H locs cells slots Z ls mc ms cur C hc hR hlo hl2 g1 g2 g3 g4 hF
  obtain ⟨hx0, hb, hml, hown, hts, hret, hlocks, hini, hE, hfr, hlo2⟩ := id C
  have hct := hc.1 hxi
  have h168 : t.1 < 168 := ak_lt hk (by omega)
  have hn := vwd_n hci t.1 h168 hk
  have hKn := hE.1.1 ci _ (vwd_at hci)
  refine W.newcK hx0 hb hown (hts _ hcl) (hts _ hin) (hts _ hit) rfl hd (by omega) (by rw [← hn]; omega) hKn.2.1 rfl fun H1 kC hkC e1 z1 o1 => ?_
  have hR1 : Rel G (cur + 1) M H1 := by
    refine hR.push z1 o1 (fun j hj => ?_)
    rw [show cur + j = t.1 by omega, cell_obj hk hci]
    rw [hR.1, hct] at e1
    obtain ⟨b1, b2, b3⟩ := hR.2.2.2 t.1 (by omega)
    refine ⟨_, vwd_at hci, (u_born (tyc ci) hts (vwd_in hci) hKn hkC e1 (vwd_ty hci)).to (fun k hk9 => ?_)⟩
    rw [vp_V_range (by rw [hn]; exact hk9)]
    exact fv_born hci hk9 (b1 k) (b2 k) (b3 k)
  have hw := k1 p lch e0 R s m args below meth c H1 locs (cells + 1) (slots + an t.1) Z ls mc ms (cur + 1) C ⟨fun q => by rw [hct], by show t.1 + 1 ≤ _; omega⟩ hR1 hlo hl2 (by show cells + 1 + (t.2.1 - 1) ≤ _; omega) (by show slots + an t.1 + (t.2.2 - an t.1) ≤ _; omega) g3 g4
    (fun v M H locs cells slots pc ls a1 a2 a3 => hF v M H locs cells slots pc ls a1 a2 (by rw [show cur + 1 + (t.2.1 - 1) = cur + t.2.1 by omega] at a3; exact a3))
  rw [lst_ref h168] at hw
  rw [← hn, hR.1, hct]
  exact hw
theorem arr_words : Jvm.Cond.arrayClass .int ∈ gdt ∧ Jvm.Cond.arrayClass .boolean ∈ gdt := by decide +kernel
theorem an_lt {o : Nat} (h : o < 168) : an o < 20000 := by
  have hall : (List.range 168).all (fun o => decide (an o < 20000)) = true := by decide +kernel
  simpa using List.all_eq_true.mp hall o (List.mem_range.mpr h)
theorem arr_cls {cA cB : ClassId} {s : State} {nm : String} (h1 : s.vm.findClass nm = some cA) (h2 : s.vm.findClass nm = some cB) : cA = cB := Option.some.inj (h1.symm.trans h2)
theorem r_newarrayI (hd : decode (bC i) pc = .ok (.newarray .int, 2)) (hk : ak t.1 = 11) (hxi : mx i = true) (h1 : 1 ≤ t.2.1) (h2 : an t.1 ≤ t.2.2)
    (k1 : wp G e (t.1 + 1, t.2.1 - 1, t.2.2 - an t.1) i (pc + 2) l (.ref t.1 :: r) M Q) : wp G e t i pc l (.int (nI (an t.1)) :: r) M Q := by
  intro p lch e0 R s m args below meth c H locs cells slots Z ls mc ms cur C hc hR hlo hl2 g1 g2 g3 g4 hF
  obtain ⟨hx0, hb, hml, hown, hts, hret, hlocks, hini, hE, hfr, hlo2⟩ := id C
  have hct := hc.1 hxi
  have h168 : t.1 < 168 := ak_lt hk (by omega)
  have hb9 := an_lt h168
  refine va_newaK hx0 hb (hts _ arr_words.1) (g := F0 m pc ls (lst G (.int (nI (an t.1)) :: r))) rfl hd rfl (nI_pos (by omega)) (nI_clamp (by omega)) (by show an t.1 * 4 ≤ _; omega) (by omega) (by omega) rfl fun H1 cA e1 z1 o1 hAr hNm => ?_
  have hcA : cA = gcy G 0 := by
    have := (hE.1.2 0 _ rfl).2
    exact arr_cls hNm this
  subst hcA
  have hR1 : Rel G (cur + 1) M H1 := by
    refine hR.push z1 o1 (fun j hj => ?_)
    rw [show cur + j = t.1 by omega, cell_int hk]
    rw [hR.1, hct] at e1
    show H1[gb G + t.1]? = some (vp_cell _ _)
    rw [e1, vp_cell_i]
    congr 2
    funext k
    rw [(hR.2.2.2 t.1 (by omega)).1 k]
    rfl
  have hw := k1 p lch e0 R s m args below meth c H1 locs (cells + 1) (slots + an t.1) Z ls mc ms (cur + 1) C ⟨fun q => by rw [hct], by show t.1 + 1 ≤ _; omega⟩ hR1 hlo hl2 (by show cells + 1 + (t.2.1 - 1) ≤ _; omega) (by show slots + an t.1 + (t.2.2 - an t.1) ≤ _; omega) g3 g4
    (fun v M H locs cells slots pc ls a1 a2 a3 => hF v M H locs cells slots pc ls a1 a2 (by rw [show cur + 1 + (t.2.1 - 1) = cur + t.2.1 by omega] at a3; exact a3))
  rw [lst_ref h168] at hw
  rw [hR.1, hct]
  exact hw
theorem r_newarrayZ (hd : decode (bC i) pc = .ok (.newarray .boolean, 2)) (hk : ak t.1 = 12) (hxi : mx i = true) (h1 : 1 ≤ t.2.1) (h2 : an t.1 ≤ t.2.2)
    (k1 : wp G e (t.1 + 1, t.2.1 - 1, t.2.2 - an t.1) i (pc + 2) l (.ref t.1 :: r) M Q) : wp G e t i pc l (.int (nI (an t.1)) :: r) M Q := by
  intro p lch e0 R s m args below meth c H locs cells slots Z ls mc ms cur C hc hR hlo hl2 g1 g2 g3 g4 hF
  obtain ⟨hx0, hb, hml, hown, hts, hret, hlocks, hini, hE, hfr, hlo2⟩ := id C
  have hct := hc.1 hxi
  have h168 : t.1 < 168 := ak_lt hk (by omega)
  have hb9 := an_lt h168
  refine va_newaK hx0 hb (hts _ arr_words.2) (g := F0 m pc ls (lst G (.int (nI (an t.1)) :: r))) rfl hd rfl (nI_pos (by omega)) (nI_clamp (by omega)) (by show an t.1 * 1 ≤ _; omega) (by omega) (by omega) rfl fun H1 cA e1 z1 o1 hAr hNm => ?_
  have hcA : cA = gcy G 1 := by
    have := (hE.1.2 1 _ rfl).2
    exact arr_cls hNm this
  subst hcA
  have hR1 : Rel G (cur + 1) M H1 := by
    refine hR.push z1 o1 (fun j hj => ?_)
    rw [show cur + j = t.1 by omega, cell_bool hk]
    rw [hR.1, hct] at e1
    show H1[gb G + t.1]? = some (vp_cell _ _)
    rw [e1, vp_cell_i]
    congr 2
    funext k
    rw [(hR.2.2.2 t.1 (by omega)).1 k]
    rfl
  have hw := k1 p lch e0 R s m args below meth c H1 locs (cells + 1) (slots + an t.1) Z ls mc ms (cur + 1) C ⟨fun q => by rw [hct], by show t.1 + 1 ≤ _; omega⟩ hR1 hlo hl2 (by show cells + 1 + (t.2.1 - 1) ≤ _; omega) (by show slots + an t.1 + (t.2.2 - an t.1) ≤ _; omega) g3 g4
    (fun v M H locs cells slots pc ls a1 a2 a3 => hF v M H locs cells slots pc ls a1 a2 (by rw [show cur + 1 + (t.2.1 - 1) = cur + t.2.1 by omega] at a3; exact a3))
  rw [lst_ref h168] at hw
  rw [hR.1, hct]
  exact hw
end MK
