/-! what is made, copied; a method from its entry -/
section MK
variable {G : GC} {e i j pc idx : Nat} {t : T3} {l : LV} {r As : List Value} {M : Mem} {Q : Option Value → Mem → Prop}
theorem copy_words : Jvm.Cond.methodLink RX9 178 arraycopyName ∈ lw_tbl ∧ Jvm.Cond.static arraycopyName ∈ gdt ∧ Jvm.Cond.initialized "java/lang/System" ∈ gdt ∧ Jvm.Cond.native arraycopyName ∈ gdt ∧ Jvm.Cond.methodLink RX9 178 arraycopyName ∈ gdt := by decide +kernel
theorem ur_off {α : Type} {f : Nat → Nat → α} {o j : Nat} {g : Nat → α} (h : j ≠ o) : ur f o g j = f j := if_neg h
theorem ur_on {α : Type} {f : Nat → Nat → α} {o : Nat} {g : Nat → α} : ur f o g o = g := if_pos rfl
theorem r_copy {c0 c1 : Nat} {n dp sp : Int32} (hd : decode (bC i) pc = .ok (.invokestatic 178, 3)) (how : ow i = RX9) (ho0 : ak c0 = 11) (hl0 : c0 < t.1) (ho1 : ak c1 = 11) (hl1 : c1 < t.1) (h1 : ¬ sp < 0) (h2 : ¬ dp < 0) (h3 : ¬ n < 0) (h4 : ix sp + ix n ≤ an c0) (h5 : ix dp + ix n ≤ an c1) (hdp : 1 ≤ dep i) (hcr : cats r ≤ 8)
    (k1 : wp G e t i (pc + 3) l r (ur M.1 c1 (va_cpy (M.1 c0) (M.1 c1) (ix sp) (ix dp) (ix n)), M.2) Q) : wp G e t i pc l (.int n :: .int dp :: .ref c1 :: .int sp :: .ref c0 :: r) M Q := by
  intro p lch e0 R s m args below meth c H locs cells slots Z ls mc ms cur C hc hR hlo hl2 g1 g2 g3 g4 hF
  obtain ⟨hx0, hb, hml, hown, hts, hret, hlocks, hini, hE, hfr, hlo2⟩ := id C
  obtain ⟨-, w2, w3, w4, w1⟩ := copy_words
  have hcur0 : c0 < cur := Nat.lt_of_lt_of_le hl0 hc.2
  have hcur1 : c1 < cur := Nat.lt_of_lt_of_le hl1 hc.2
  have hc0 := hR.at hcur0
  have hc1 := hR.at hcur1
  rw [cell_int ho0] at hc0
  rw [cell_int ho1] at hc1
  have hc0' : H[gb G + c0]? = some (vp_cell (gcy G 0) (an c0, .inl (M.1 c0))) := hc0
  have hc1' : H[gb G + c1]? = some (vp_cell (gcy G 0) (an c1, .inl (M.1 c1))) := hc1
  have hst : lst G (.int n :: .int dp :: .ref c1 :: .int sp :: .ref c0 :: r) = .int n :: .int dp :: .ref (gb G + c1) :: .int sp :: .ref (gb G + c0) :: lst G r := by
    show Value.int n :: Value.int dp :: Value.ref (adr G c1) :: Value.int sp :: Value.ref (adr G c0) :: _ = _
    rw [adr_lt (ak_lt ho0 (by omega)), adr_lt (ak_lt ho1 (by omega))]
    rfl
  rw [hst]
  have nn : ∀ z : Int32, ¬ z < 0 → z.toInt = (z.toNatClampNeg : Int) := by
    intro z hz
    have hz0 : (0 : Int) ≤ z.toInt := by
      have := Int32.not_lt.mp hz
      simpa using Int32.le_iff_toInt_le.mp this
    show z.toInt = ((z.toInt.toNat : Nat) : Int)
    omega
  intro T hT X
  obtain ⟨-, k0, hk0, cm0, hkk0⟩ := (hE.1.2 0 _ rfl).1 (an c0) (fun j => .int (M.1 c0 j))
  obtain ⟨-, k9, hk9, cm9, hkk9⟩ := (hE.1.2 0 _ rfl).1 (an c1) (fun j => .int (M.1 c1 j))
  rw [how] at hown
  obtain ⟨vm', X', step⟩ := X.arraycopy hx0 hown (hts _ w1) (hts _ w4) (hts _ w2) (hts _ w3) (src := gb G + c0) (dst := gb G + c1) (cs := vp_cell (gcy G 0) (an c0, .inl (M.1 c0))) (cd := vp_cell (gcy G 0) (an c1, .inl (M.1 c1))) (srcPos := sp) (destPos := dp) (n := n) (by rw [hT]; exact hc0') (by rw [hT]; exact hc1')
    (fun _ h => by cases h) (fun _ h => by cases h) (fun h => by cases h) (fun h => by cases h) hk0 hk9 hkk0 hkk9 rfl h1 h2 h3
    (by rw [nn sp h1, nn n h3]; show ¬ _ > ((arrV (gcy G 0) (an c0) (fun j => .int (M.1 c0 j))).slots.size : Int); rw [arrV_size]; unfold ix at h4; omega)
    (by rw [nn dp h2, nn n h3]; show ¬ _ > ((arrV (gcy G 0) (an c1) (fun j => .int (M.1 c1 j))).slots.size : Int); rw [arrV_size]; unfold ix at h5; omega)
    (fun vm₁ _ i hi => by
      have e : (vp_cell (gcy G 0) (an c0, .inl (M.1 c0))).slots.getD (sp.toNatClampNeg + i) .null = .int (M.1 c0 (sp.toNatClampNeg + i)) := by
        show (arrV (gcy G 0) (an c0) (fun j => .int (M.1 c0 j))).slots.getD _ _ = _
        rw [Array.getD_eq_getD_getElem?, arrV_read _ _ (by unfold ix at h4; omega)]
        rfl
      refine ⟨?_, ?_⟩
      · rw [e]
        rfl
      · rw [e]
        exact trivial)
    (g := F0 m pc ls (.int n :: .int dp :: .ref (gb G + c1) :: .int sp :: .ref (gb G + c0) :: lst G r)) rfl (by rw [hml]; exact hl2.1) (rest := lst G r) rfl (by rw [hb]; exact hd) (by omega) (by
      have hcl := cats_lst (G := G) (r := r)
      have hnw : nativeFrameWords "java/lang/System" "arraycopy" 5 ≤ 30 := by decide +kernel
      show 2 * 0 + _ + _ ≤ _
      rw [hcl]
      omega)
  have e1 : copied (vp_cell (gcy G 0) (an c0, .inl (M.1 c0))) (vp_cell (gcy G 0) (an c1, .inl (M.1 c1))) sp dp n = vp_cell (gcy G 0) (an c1, .inl (va_cpy (M.1 c0) (M.1 c1) (ix sp) (ix dp) (ix n))) := va_copied (fun z => .int z) (gcy G 0) (gcy G 0) (M.1 c0) (M.1 c1) h4
  rw [e1] at X' step
  have hl : gb G + c1 < H.size := (Array.getElem?_eq_some_iff.mp hc1').1
  have hheap : ((T.setVm vm').setCell (gb G + c1) (vp_cell (gcy G 0) (an c1, .inl (va_cpy (M.1 c0) (M.1 c1) (ix sp) (ix dp) (ix n))))).heap = H.setIfInBounds (gb G + c1) (vp_cell (gcy G 0) (an c1, .inl (va_cpy (M.1 c0) (M.1 c1) (ix sp) (ix dp) (ix n)))) := by rw [← hT]; rfl
  have hR1 : Rel G cur (ur M.1 c1 (va_cpy (M.1 c0) (M.1 c1) (ix sp) (ix dp) (ix n)), M.2) (H.setIfInBounds (gb G + c1) (vp_cell (gcy G 0) (an c1, .inl (va_cpy (M.1 c0) (M.1 c1) (ix sp) (ix dp) (ix n))))) := by
    refine hR.put hcur1 (by simp) (fun q hq => by simp [Array.getElem?_setIfInBounds, Ne.symm hq]) ?_ (fun q hq => ⟨ur_off hq, rfl, rfl⟩)
    rw [cell_int ho1]
    show (H.setIfInBounds (gb G + c1) _)[gb G + c1]? = some (vp_cell _ _)
    rw [Array.getElem?_setIfInBounds_self_of_lt hl]
    dsimp only
    rw [ur_on]
  obtain ⟨t2, a1, b1⟩ := k1 p lch e0 R s m args below meth c _ _ cells slots Z ls mc ms cur C hc hR1 (by
    intro q hq
    rcases List.mem_append.mp hq with h | h
    · exact hlo q h
    · obtain ⟨z, -, hz⟩ := List.mem_map.mp h
      rw [← hz]
      exact Nat.le_add_right _ _) hl2 g1 g2 g3 g4 hF _ hheap X'
  exact ⟨t2, step t2 a1, b1⟩
theorem vwd_n {c : Nat} (h : c < 11) : ∀ o, o < 168 → ak o = c → an o = (vwd c).2.2 := by
  have hall : (List.range 168).all (fun o => decide (ak o < 11 → an o = (vwd (ak o)).2.2)) = true := by decide +kernel
  intro o ho hk
  have := List.all_eq_true.mp hall o (List.mem_range.mpr ho)
  simp only [decide_eq_true_eq] at this
  rw [← hk]
  exact this (by omega)
theorem Rel.push {cur n : Nat} {H H1 : Heap} (hR : Rel G cur M H) (hz : H1.size = H.size + n) (hq : ∀ q, q < H.size → H1[q]? = H[q]?) (ha : ∀ j, j < n → va_at (gD G) vwCl (gb G + (cur + j), cellOf G M (cur + j)) H1) : Rel G (cur + n) M H1 := by
  refine ⟨by rw [hz, hR.1]; omega, fun q h0 => ?_, fun j hj => ?_, fun j hj => hR.2.2.2 j (by omega)⟩
  · rw [hq q (by rw [hR.1]; omega)]
    exact hR.2.1 q h0
  · rcases Nat.lt_or_ge j cur with h | h
    · exact (hR.at h).kept (hq _ (by rw [hR.1]; show gb G + j < _; omega))
    · have := ha (j - cur) (by omega)
      rw [show cur + (j - cur) = j by omega] at this
      exact this
theorem fv_born {ci k o : Nat} (hci : ci < 11) (hk : k < (vwd ci).2.2) (h1 : M.1 o k = 0) (h2 : M.2.1 o k = 0) (h3 : M.2.2 o k = none) : defaultValue (tyc ci k) = fv G M ci o k := by
  obtain ⟨hty, -, -⟩ := vwd_k hci hk
  unfold fv
  cases htc : tyc ci k with
  | int => rw [htc] at hty; simp [tyk] at hty; rw [hty]; simp [h1, defaultValue]
  | long => rw [htc] at hty; simp [tyk] at hty; rw [hty]; simp [h2, defaultValue]
  | boolean => rw [htc] at hty; simp [tyk] at hty; rw [hty]; simp [h1, defaultValue]
  | object n => rw [htc] at hty; simp [tyk] at hty; rw [hty]; simp [h3, defaultValue, va_rf]
  | array n =>
    rw [htc] at hty
    simp [tyk] at hty
    rcases hty with q | q
    · rw [q]; simp [h3, defaultValue, va_rf]
    · rw [q]; simp [h1, defaultValue]
  | _ => rw [htc] at hty; simp [tyk] at hty
theorem r_new {ci : Nat} (hd : decode (bC i) pc = .ok (.new idx, 3)) (hci : ci < 11) (hk : ak t.1 = ci) (hcl : Jvm.Cond.classLink (ow i) idx (vwd ci).1 ∈ gdt) (hin : Jvm.Cond.instantiable (vwd ci).1 (vwd ci).2.2 ∈ gdt) (hit : Jvm.Cond.initialized (vwd ci).1 ∈ gdt) (hxi : mx i = true) (h1 : 1 ≤ t.2.1) (h2 : an t.1 ≤ t.2.2)
    (k1 : wp G e (t.1 + 1, t.2.1 - 1, t.2.2 - an t.1) i (pc + 3) l (.ref t.1 :: r) M Q) : wp G e t i pc l r M Q := by
  intro p lch e0 R s m args below meth c H locs cells slots Z ls mc ms cur C hc hR hlo hl2 g1 g2 g3 g4 hF
  obtain ⟨hx0, hb, hml, hown, hts, hret, hlocks, hini, hE, hfr, hlo2⟩ := id C
  have hct := hc.1 hxi
  have h168 : t.1 < 168 := ak_lt hk (by omega)
  have hn := vwd_n hci t.1 h168 hk
  have hKn := hE.1.1 ci _ (vwd_at hci)
  refine W.newcK hx0 hb hown (hts _ hcl) (hts _ hin) (hts _ hit) rfl hd (by omega) (by rw [← hn]; omega) hKn.2.1 rfl fun H1 kC hkC e1 z1 o1 => ?_
  have hR1 : Rel G (cur + 1) M H1 := by
    refine hR.push z1 o1 (fun j hj => ?_)
    rw [show cur + j = t.1 by omega, cell_obj hk hci]
    rw [hR.1, hct] at e1
    obtain ⟨b1, b2, b3⟩ := hR.2.2.2 t.1 (by omega)
    refine ⟨_, vwd_at hci, (u_born (tyc ci) hts (vwd_in hci) hKn hkC e1 (vwd_ty hci)).to (fun k hk9 => ?_)⟩
    rw [vp_V_range (by rw [hn]; exact hk9)]
    exact fv_born hci hk9 (b1 k) (b2 k) (b3 k)
  have hw := k1 p lch e0 R s m args below meth c H1 locs (cells + 1) (slots + an t.1) Z ls mc ms (cur + 1) C ⟨fun q => by rw [hct], by show t.1 + 1 ≤ _; omega⟩ hR1 hlo hl2 (by show cells + 1 + (t.2.1 - 1) ≤ _; omega) (by show slots + an t.1 + (t.2.2 - an t.1) ≤ _; omega) g3 g4
    (fun v M H locs cells slots pc ls a1 a2 a3 => hF v M H locs cells slots pc ls a1 a2 (by rw [show cur + 1 + (t.2.1 - 1) = cur + t.2.1 by omega] at a3; exact a3))
  rw [lst_ref h168] at hw
  rw [← hn, hR.1, hct]
  exact hw
theorem arr_words : Jvm.Cond.arrayClass .int ∈ gdt ∧ Jvm.Cond.arrayClass .boolean ∈ gdt := by decide +kernel
theorem an_lt {o : Nat} (h : o < 168) : an o < 20000 := by
  have hall : (List.range 168).all (fun o => decide (an o < 20000)) = true := by decide +kernel
  simpa using List.all_eq_true.mp hall o (List.mem_range.mpr h)
theorem arr_cls {cA cB : ClassId} {s : State} {nm : String} (h1 : s.vm.findClass nm = some cA) (h2 : s.vm.findClass nm = some cB) : cA = cB := Option.some.inj (h1.symm.trans h2)
theorem r_newarrayI (hd : decode (bC i) pc = .ok (.newarray .int, 2)) (hk : ak t.1 = 11) (hxi : mx i = true) (h1 : 1 ≤ t.2.1) (h2 : an t.1 ≤ t.2.2)
    (k1 : wp G e (t.1 + 1, t.2.1 - 1, t.2.2 - an t.1) i (pc + 2) l (.ref t.1 :: r) M Q) : wp G e t i pc l (.int (nI (an t.1)) :: r) M Q := by
  intro p lch e0 R s m args below meth c H locs cells slots Z ls mc ms cur C hc hR hlo hl2 g1 g2 g3 g4 hF
  obtain ⟨hx0, hb, hml, hown, hts, hret, hlocks, hini, hE, hfr, hlo2⟩ := id C
  have hct := hc.1 hxi
  have h168 : t.1 < 168 := ak_lt hk (by omega)
  have hb9 := an_lt h168
  refine va_newaK (atype := .int) hx0 hb (hts _ arr_words.1) (g := F0 m pc ls (lst G (.int (nI (an t.1)) :: r))) rfl hd rfl (nI_pos (by omega)) (nI_clamp (by omega)) (by show an t.1 * 4 ≤ _; omega) (by omega) (by omega) rfl fun H1 cA e1 z1 o1 hAr hNm => ?_
  have hcA : cA = gcy G 0 := by
    have := (hE.1.2 0 _ rfl).2
    exact arr_cls hNm this
  subst hcA
  have hR1 : Rel G (cur + 1) M H1 := by
    refine hR.push z1 o1 (fun j hj => ?_)
    rw [show cur + j = t.1 by omega, cell_int hk]
    rw [hR.1, hct] at e1
    show H1[gb G + t.1]? = some (vp_cell _ _)
    rw [e1, vp_cell_i]
    congr 2
    funext k
    rw [(hR.2.2.2 t.1 (by omega)).1 k]
    rfl
  have hw := k1 p lch e0 R s m args below meth c H1 locs (cells + 1) (slots + an t.1) Z ls mc ms (cur + 1) C ⟨fun q => by rw [hct], by show t.1 + 1 ≤ _; omega⟩ hR1 hlo hl2 (by show cells + 1 + (t.2.1 - 1) ≤ _; omega) (by show slots + an t.1 + (t.2.2 - an t.1) ≤ _; omega) g3 g4
    (fun v M H locs cells slots pc ls a1 a2 a3 => hF v M H locs cells slots pc ls a1 a2 (by rw [show cur + 1 + (t.2.1 - 1) = cur + t.2.1 by omega] at a3; exact a3))
  rw [lst_ref h168] at hw
  rw [hR.1, hct]
  exact hw
theorem r_newarrayZ (hd : decode (bC i) pc = .ok (.newarray .boolean, 2)) (hk : ak t.1 = 12) (hxi : mx i = true) (h1 : 1 ≤ t.2.1) (h2 : an t.1 ≤ t.2.2)
    (k1 : wp G e (t.1 + 1, t.2.1 - 1, t.2.2 - an t.1) i (pc + 2) l (.ref t.1 :: r) M Q) : wp G e t i pc l (.int (nI (an t.1)) :: r) M Q := by
  intro p lch e0 R s m args below meth c H locs cells slots Z ls mc ms cur C hc hR hlo hl2 g1 g2 g3 g4 hF
  obtain ⟨hx0, hb, hml, hown, hts, hret, hlocks, hini, hE, hfr, hlo2⟩ := id C
  have hct := hc.1 hxi
  have h168 : t.1 < 168 := ak_lt hk (by omega)
  have hb9 := an_lt h168
  refine va_newaK (atype := .boolean) hx0 hb (hts _ arr_words.2) (g := F0 m pc ls (lst G (.int (nI (an t.1)) :: r))) rfl hd rfl (nI_pos (by omega)) (nI_clamp (by omega)) (by show an t.1 * 1 ≤ _; omega) (by omega) (by omega) rfl fun H1 cA e1 z1 o1 hAr hNm => ?_
  have hcA : cA = gcy G 1 := by
    have := (hE.1.2 1 _ rfl).2
    exact arr_cls hNm this
  subst hcA
  have hR1 : Rel G (cur + 1) M H1 := by
    refine hR.push z1 o1 (fun j hj => ?_)
    rw [show cur + j = t.1 by omega, cell_bool hk]
    rw [hR.1, hct] at e1
    show H1[gb G + t.1]? = some (vp_cell _ _)
    rw [e1, vp_cell_i]
    congr 2
    funext k
    rw [(hR.2.2.2 t.1 (by omega)).1 k]
    rfl
  have hw := k1 p lch e0 R s m args below meth c H1 locs (cells + 1) (slots + an t.1) Z ls mc ms (cur + 1) C ⟨fun q => by rw [hct], by show t.1 + 1 ≤ _; omega⟩ hR1 hlo hl2 (by show cells + 1 + (t.2.1 - 1) ≤ _; omega) (by show slots + an t.1 + (t.2.2 - an t.1) ≤ _; omega) g3 g4
    (fun v M H locs cells slots pc ls a1 a2 a3 => hF v M H locs cells slots pc ls a1 a2 (by rw [show cur + 1 + (t.2.1 - 1) = cur + t.2.1 by omega] at a3; exact a3))
  rw [lst_ref h168] at hw
  rw [hR.1, hct]
  exact hw
theorem outerC_rows (c : ClassId) (N h0 : Nat) : ∀ i : Nat, Jvm.Free.Multi.outerC c N h0 i = arrV c N (fun j => va_rf (if j < i then some (h0 + 1 + j) else none))
  | 0 => by
    show ({ cls := c, slots := Array.replicate N .null, vm := .none } : Cell) = _
    rw [arrV_new]
    refine congrArg (arrV c N) (funext fun j => ?_)
    simp [va_rf]
  | i + 1 => by
    show (Jvm.Free.Multi.outerC c N h0 i).setSlot i (.ref (h0 + 1 + i)) = _
    rw [outerC_rows c N h0 i, arrV_store]
    refine congrArg (arrV c N) (funext fun j => ?_)
    by_cases e : j = i
    · subst e
      simp [updV, va_rf]
    · by_cases h : j < i
      · simp [updV, e, h, Nat.lt_succ_of_lt h]
      · simp [updV, e, h, show ¬ j < i + 1 by omega]
theorem arrV_cong {c : ClassId} {N : Nat} {f g : Nat → Value} (h : ∀ j, j < N → f j = g j) : arrV c N f = arrV c N g := by
  unfold arrV
  congr 1
  exact congrArg _ (funext fun j => h j.val j.isLt)
theorem r_mna (hd : decode (bC i) pc = .ok (.multianewarray idx 2, 4)) (hcl : Jvm.Cond.classLink (ow i) idx ("[" ++ (FieldType.array .int).toString) ∈ gdt) (hk : ak t.1 = 13) (hrb : rb t.1 = t.1 + 1) (hrow : ∀ j, j < an t.1 → ak (t.1 + 1 + j) = 11 ∧ an (t.1 + 1 + j) = an (t.1 + 1)) (hxi : mx i = true) (h1 : 1 + an t.1 ≤ t.2.1) (h2 : an t.1 + an t.1 * an (t.1 + 1) ≤ t.2.2) (h168 : t.1 + 1 < 168)
    (k1 : wp G e (t.1 + 1 + an t.1, t.2.1 - (1 + an t.1), t.2.2 - (an t.1 + an t.1 * an (t.1 + 1))) i (pc + 4) l (.ref t.1 :: r) M Q) : wp G e t i pc l (.int (nI (an (t.1 + 1))) :: .int (nI (an t.1)) :: r) M Q := by
  intro p lch e0 R s m args below meth c H locs cells slots Z ls mc ms cur C hc hR hlo hl2 g1 g2 g3 g4 hF
  obtain ⟨hx0, hb, hml, hown, hts, hret, hlocks, hini, hE, hfr, hlo2⟩ := id C
  have hct := hc.1 hxi
  have a1 := an_lt (show t.1 < 168 by omega)
  have a2 := an_lt h168
  have n1 : (nI (an t.1)).toNatClampNeg = an t.1 := nI_clamp (by omega)
  have n2 : (nI (an (t.1 + 1))).toNatClampNeg = an (t.1 + 1) := nI_clamp (by omega)
  intro T hT Xs
  obtain ⟨vm₁, cA, comp, -, fA, fC, hO, -, X', step⟩ := Xs.multianewarray2F hx0 hown (hts _ hcl) (hE.2.2.2.2.2.1.use) (hts _ arr_words.1) (g := F0 m pc ls (lst G (.int (nI (an (t.1 + 1))) :: .int (nI (an t.1)) :: r))) rfl (by rw [hb]; exact hd) (n := nI (an t.1)) (k := nI (an (t.1 + 1))) rfl (nI_pos (by omega)) (nI_pos (by omega)) (by rw [n1]; omega) (by rw [n2]; show _ * 4 ≤ _; omega) (by rw [n2]; omega) rfl rfl (by rw [n1]; omega) (by rw [n1, n2]; omega)
  rw [n1, n2] at X' step
  have hcA : cA = gcy G 2 := arr_cls fA (hE.1.2 2 _ rfl).2
  have hcB : comp = gcy G 0 := arr_cls fC (hE.1.2 0 _ rfl).2
  subst hcA
  subst hcB
  generalize hFF : Jvm.Free.Multi.fill (T.setVm vm₁) (gcy G 2) (gcy G 0) (an t.1) (an (t.1 + 1)) (defaultValue .int) (an t.1) = F at X' step
  have hTh : (T.setVm vm₁).heap = H := hT
  obtain ⟨f1, f2, -, -⟩ := Jvm.Free.Multi.fill_facts (T.setVm vm₁) (gcy G 2) (gcy G 0) (an t.1) (an (t.1 + 1)) (defaultValue .int) (an t.1)
  rw [hFF, hTh] at f1 f2
  have hold : ∀ x : Nat, x < H.size → F.heap[x]? = H[x]? := fun x hx => by
    have := Jvm.Free.Multi.fill_old (T.setVm vm₁) (gcy G 2) (gcy G 0) (an t.1) (an (t.1 + 1)) (defaultValue .int) (a := x) (by rw [hTh]; exact hx) (an t.1)
    rw [hFF, hTh] at this
    exact this
  have hrow2 : ∀ j : Nat, j < an t.1 → F.heap[H.size + 1 + j]? = some (Jvm.Free.Multi.innerC (gcy G 0) (an (t.1 + 1)) (defaultValue .int)) := fun j hj => by
    have := Jvm.Free.Multi.fill_inner (T.setVm vm₁) (gcy G 2) (gcy G 0) (an t.1) (an (t.1 + 1)) (defaultValue .int) (an t.1) j hj
    rw [hFF, hTh] at this
    exact this
  have hHs : H.size = gb G + t.1 := by rw [hR.1, hct]
  have hR1 : Rel G (cur + (1 + an t.1)) M F.heap := by
    refine hR.push (by rw [f1]; omega) hold (fun j hj => ?_)
    rcases Nat.eq_zero_or_pos j with rfl | hj0
    · rw [show cur + 0 = t.1 by omega, cell_rows hk]
      show F.heap[gb G + t.1]? = some (vp_cell _ _)
      rw [← hHs, f2, outerC_rows, vp_cell_q]
      refine congrArg some (arrV_cong (fun j hj => ?_))
      rw [if_pos hj, hHs, hrb]
      show Value.ref _ = Value.ref _
      congr 1
      try omega
    · obtain ⟨r1, r2⟩ := hrow (j - 1) (by omega)
      have ej : cur + j = t.1 + 1 + (j - 1) := by omega
      rw [ej, cell_int r1]
      have := hrow2 (j - 1) (by omega)
      rw [hHs, show gb G + t.1 + 1 + (j - 1) = gb G + (t.1 + 1 + (j - 1)) by omega] at this
      show F.heap[gb G + (t.1 + 1 + (j - 1))]? = some (vp_cell _ _)
      rw [this, vp_cell_i, r2]
      show some ({ cls := gcy G 0, slots := Array.replicate (an (t.1 + 1)) (.int 0), vm := .none } : Cell) = _
      rw [arrV_new]
      refine congrArg some (arrV_cong (fun k hk => ?_))
      rw [(hR.2.2.2 (t.1 + 1 + (j - 1)) (by omega)).1 k]
  have hw := k1 p lch e0 R s m args below meth c F.heap locs (cells + 1 + an t.1) (slots + an t.1 + an t.1 * an (t.1 + 1)) Z ls mc ms (cur + (1 + an t.1)) C ⟨fun q => by show _ = t.1 + 1 + an t.1; omega, by show t.1 + 1 + an t.1 ≤ _; omega⟩ hR1 hlo hl2 (by show cells + 1 + an t.1 + (t.2.1 - (1 + an t.1)) ≤ _; omega) (by show slots + an t.1 + an t.1 * an (t.1 + 1) + (t.2.2 - (an t.1 + an t.1 * an (t.1 + 1))) ≤ _; omega) g3 g4
    (fun v M H locs cells slots pc ls a1 a2 a3 => hF v M H locs cells slots pc ls a1 a2 (by rw [show cur + (1 + an t.1) + (t.2.1 - (1 + an t.1)) = cur + t.2.1 by omega] at a3; exact a3))
  rw [lst_ref (by omega)] at hw
  obtain ⟨t2, q1, q2⟩ := hw F rfl X'
  refine ⟨t2, step t2 ?_, q2⟩
  rw [hT, hHs]
  exact q1
/-- a method from its entry -/
theorem lv_args_lfl : ∀ (As : List Value) (n : Nat), lv_args n (lst G As) = lfl G (lv_args n As)
  | [], _ => rfl
  | v :: vs, n => by
    show (n, lf G v) :: lv_args (if (lf G v).category = 2 then n + 2 else n + 1) (lst G vs) = (n, lf G v) :: lfl G (lv_args (if v.category = 2 then n + 2 else n + 1) vs)
    rw [lf_cat, lv_args_lfl vs]
theorem sl_len : ∀ (As : List Value), (lg_sl (lst G As)).length = cats As
  | [] => rfl
  | v :: vs => by
    have ih := sl_len vs
    unfold cats lst at *
    rw [List.map_cons, List.map_cons, List.sum_cons, ← ih]
    cases v <;> simp [lg_sl, lf, Value.category] <;> omega
theorem wpc_of {lb : Nat} {As : List Value} {K : Option Value → Mem → Prop} (hp : plainName (yM j).cls = true) (hs : cats As ≤ nL j) (ho : (Jvm.Cond.code (yM j) (bC j) (nL j) (rT j)) = (Jvm.Cond.code (yM j) (bC j) (nL j) (rT j))) (hcl : (yM j).cls = ow j) (hnm : mx j = true → (yM j).name = "<init>") (k : wp G e (lb, (alc j).1, (alc j).2) j 0 (lv_args 0 As) [] M K) : wpc G e lb j As M K := by
  intro lch cur hcur
  refine Met.ofW (cc := bC j) (maxL := nL j) (ret := rT j) hp rfl ?_
  intro p e0 s m args below meth c s₁ B hml hv
  obtain ⟨rfl, hR, hE⟩ := hv
  have hts := atoms_spec (ws := wsM j) B.pre
  have hown : s.vm.findClass (yM j).cls = some m.cls := findClass_of_methodNamed B.named
  rw [hcl] at hown
  have hl := lv_entry (lst G As) (n := nL j) (by rw [sl_len]; exact hs)
  rw [lg_entry_eq]
  generalize (lg_sl (lst G As) ++ List.replicate (nL j - (lg_sl (lst G As)).length) Slot.unset).toArray = ls at hl ⊢
  rw [lv_args_lfl] at hl
  have hlocks := B.notSynchronized
  refine k p lch e0 (headSpec (wsM j) (rmM e j)).room s m _ below meth c s.heap [] 0 0 (MQ below _ _ s (alc j).1 (alc j).2 _) ls (alc j).1 (alc j).2 cur ⟨B.exec, B.bytes, hml, hown, fun w hw => hts w (List.mem_cons_of_mem _ hw), B.returns, hlocks, fun hmx _ => by rw [(name_of_methodNamed B.named B.method).1]; exact hnm hmx, hE, Nat.le_refl _, Nat.le_refl _⟩ hcur hR (fun z hz => by cases hz) hl (by show 0 + (alc j).1 ≤ _; omega) (by show 0 + (alc j).2 ≤ _; omega) (Nat.le_refl _) (Nat.le_refl _) ?_
  intro v M1 H1 locs1 cells slots pc1 ls1 hK hmr hR1 hlo1 hc1 hs1 hret
  refine W.widen (k := (alc j).1) (n := (alc j).2) hc1 hs1 ?_
  have hq : ∀ (t : State), t.heap = H1 → ∃ (v' : Option Value) (M1 : Mem), Outcome.returned (v.map (lf G)) = Outcome.returned (v'.map (lf G)) ∧ K v' M1 ∧ (mx j = false → M1.2.2 = M.2.2) ∧ Rel G (cur + (alc j).1) M1 t.heap := fun t ht => ⟨v, M1, rfl, hK, hmr, by rw [ht]; exact hR1⟩
  match v, hret, hq with
  | none, hret, hq => exact W.vret B.exec B.bytes (by rw [B.returns]; exact hret.2) (fun t ht hW => hq t ht) hlo1 hret.1
  | some (.int x), hret, hq =>
    rcases hret.2 with h | ⟨h, hx⟩
    · exact W.iret B.exec B.bytes (by rw [B.returns]; exact h) (fun t ht hW => hq t ht) hlo1 hret.1
    · exact W.zret B.exec B.bytes (by rw [B.returns]; exact h) (isB_zero hx) (fun t ht hW => hq t ht) hlo1 hret.1
  | some (.long x), hret, hq => exact W.lret B.exec B.bytes (by rw [B.returns]; exact hret.2) (fun t ht hW => hq t ht) hlo1 hret.1
  | some (.ref x), hret, hq => exact W.aret B.exec B.bytes (by rw [B.returns]; exact hret.2) (Or.inr ⟨_, rfl⟩) (Or.inr ⟨_, rfl⟩) (fun t ht hW => hq t ht) hlo1 hret.1
end MK
