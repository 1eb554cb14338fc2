/-! rules of 'wp' over memory: fields and arrays -/
def vwd (c : Nat) : vw_C := vwCl.getD c (RX0, TX0, 0)
def tyc (c : Nat) : Nat → FieldType := [tyX0, tyX1, tyX2, tyX3, tyX4, tyX5, tyX6, tyX7, tyX8, tyX9, tyX10].getD c tyX0
theorem vwd_at {c : Nat} (h : c < 11) : vwCl[c]? = some (vwd c) := by
  unfold vwd
  rw [List.getD_eq_getElem?_getD]
  have h1 : c < vwCl.length := h
  rw [List.getElem?_eq_getElem h1]
  rfl
theorem c11 {P : Nat → Prop} (h0 : P 0) (h1 : P 1) (h2 : P 2) (h3 : P 3) (h4 : P 4) (h5 : P 5) (h6 : P 6) (h7 : P 7) (h8 : P 8) (h9 : P 9) (h10 : P 10) {c : Nat} (h : c < 11) : P c := by
  rcases (show c = 0 ∨ c = 1 ∨ c = 2 ∨ c = 3 ∨ c = 4 ∨ c = 5 ∨ c = 6 ∨ c = 7 ∨ c = 8 ∨ c = 9 ∨ c = 10 by omega) with rfl | rfl | rfl | rfl | rfl | rfl | rfl | rfl | rfl | rfl | rfl <;> assumption
theorem in_gdt {ws : List Jvm.Cond} (h : ∀ w ∈ ws, w ∈ lw_tbl) (hg : ws.all goodWord = true) : ∀ w ∈ ws, w ∈ gdt := fun w hw => List.mem_filter.mpr ⟨h w hw, List.all_eq_true.mp hg w hw⟩
theorem vwd_in {c : Nat} (h : c < 11) : ∀ w ∈ u_ws (vwd c).1 (vwd c).2.1 (vwd c).2.2, w ∈ gdt :=
  c11 (P := fun c => ∀ w ∈ u_ws (vwd c).1 (vwd c).2.1 (vwd c).2.2, w ∈ gdt) (in_gdt inX0 (by decide +kernel)) (in_gdt inX1 (by decide +kernel)) (in_gdt inX2 (by decide +kernel)) (in_gdt inX3 (by decide +kernel)) (in_gdt inX4 (by decide +kernel)) (in_gdt inX5 (by decide +kernel)) (in_gdt inX6 (by decide +kernel)) (in_gdt inX7 (by decide +kernel)) (in_gdt inX8 (by decide +kernel)) (in_gdt inX9 (by decide +kernel)) (in_gdt inX10 (by decide +kernel)) h
theorem vwd_ty {c : Nat} (h : c < 11) : ∀ k, k < (vwd c).2.2 → parseFieldDescriptor ((vwd c).2.1 k).2.2.1 = some (tyc c k) :=
  c11 (P := fun c => ∀ k, k < (vwd c).2.2 → parseFieldDescriptor ((vwd c).2.1 k).2.2.1 = some (tyc c k)) tyX0_ok tyX1_ok tyX2_ok tyX3_ok tyX4_ok tyX5_ok tyX6_ok tyX7_ok tyX8_ok tyX9_ok tyX10_ok h
theorem vwd_nm {c : Nat} (h : c < 11) : ∀ a, a < (vwd c).2.2 → ∀ b, b < (vwd c).2.2 → a ≠ b → ((vwd c).2.1 a).2.1 ≠ ((vwd c).2.1 b).2.1 :=
  c11 (P := fun c => ∀ a, a < (vwd c).2.2 → ∀ b, b < (vwd c).2.2 → a ≠ b → ((vwd c).2.1 a).2.1 ≠ ((vwd c).2.1 b).2.1) nmX0 nmX1 nmX2 nmX3 nmX4 nmX5 nmX6 nmX7 nmX8 nmX9 nmX10 h
theorem RN_eq {c : Nat} (h : c < 11) : RN.getD c "" = (vwd c).1 :=
  c11 (P := fun c => RN.getD c "" = (vwd c).1) rfl rfl rfl rfl rfl rfl rfl rfl rfl rfl rfl h
/-- what kind of field it is: 0 int, 1 long, 2 a reference, 3 boolean, 4 a reference that changes -/
def tyk (ty : FieldType) (n : Nat) : Bool := match ty with
  | .int => n == 0
  | .long => n == 1
  | .boolean => n == 3
  | .object _ => n == 2
  | .array _ => n == 2 || n == 4
  | _ => false
def vwd_chk (c : Nat) : Bool := (List.range (vwd c).2.2).all (fun k => tyk (tyc c k) (fty c k) && (((vwd c).2.1 k).2.2.2 == ffi c k) && (((vwd c).2.1 k).1 == (vwd c).1))
theorem vwd_chk_ok : (List.range 11).all vwd_chk = true := by decide +kernel
theorem vwd_k {c k : Nat} (h : c < 11) (hk : k < (vwd c).2.2) : tyk (tyc c k) (fty c k) = true ∧ ((vwd c).2.1 k).2.2.2 = ffi c k ∧ ((vwd c).2.1 k).1 = (vwd c).1 := by
  have h1 := List.all_eq_true.mp vwd_chk_ok c (List.mem_range.mpr h)
  have h2 := List.all_eq_true.mp h1 k (List.mem_range.mpr hk)
  simp only [Bool.and_eq_true, beq_iff_eq] at h2
  exact ⟨h2.1.1, h2.1.2, h2.2⟩
def fOk (i idx ci k : Nat) : Prop := ci < 11 ∧ k < (vwd ci).2.2 ∧ Jvm.Cond.fieldLink (ow i) idx (vwd ci).1 ((vwd ci).2.1 k).2.1 ((vwd ci).2.1 k).2.2.1 ∈ gdt
theorem ak_lt {o n : Nat} (h : ak o = n) (hn : n < 99) : o < 168 := by
  rcases Nat.lt_or_ge o 168 with q | q
  · exact q
  · unfold ak at h
    rw [List.getElem?_eq_none (by show SH.length ≤ o; exact q)] at h
    simp at h
    omega
theorem adr_lt {G : GC} {o : Nat} (h : o < 168) : adr G o = gb G + o := if_pos (Nat.lt_of_lt_of_le h (Nat.le_of_ble_eq_true rfl))
theorem cell_obj {G : GC} {M : Mem} {o ci : Nat} (hk : ak o = ci) (hc : ci < 11) : cellOf G M o = .inr (ci, (List.range (an o)).map (fun k => fv G M ci o k)) := by
  unfold cellOf
  rw [hk, if_neg (by omega), if_neg (by omega), if_neg (by omega)]
theorem cell_int {G : GC} {M : Mem} {o : Nat} (hk : ak o = 11) : cellOf G M o = .inl (gcy G 0, an o, .inl (M.1 o)) := by
  unfold cellOf
  rw [if_pos hk]
theorem cell_bool {G : GC} {M : Mem} {o : Nat} (hk : ak o = 12) : cellOf G M o = .inl (gcy G 1, an o, .inl (M.1 o)) := by
  unfold cellOf
  rw [hk, if_neg (by decide), if_pos rfl]
theorem cell_rows {G : GC} {M : Mem} {o : Nat} (hk : ak o = 13) : cellOf G M o = .inl (gcy G 2, an o, .inr (.inr (.inr (.inr (fun i => some (gb G + rb o + i)))))) := by
  unfold cellOf
  rw [hk, if_neg (by decide), if_neg (by decide), if_pos rfl]
theorem P_one {D : va_G} {q : Nat × va_E} {H : Heap} (h : va_at D vwCl q H) : va_P D vwCl [q] H := by
  intro k x hx
  have h0 : k < 1 := (List.getElem?_eq_some_iff.mp hx).1
  rw [show k = 0 by omega] at hx
  cases hx
  exact h
theorem Rel.at {G : GC} {cur o : Nat} {M : Mem} {H : Heap} (h : Rel G cur M H) (ho : o < cur) : va_at (gD G) vwCl (gb G + o, cellOf G M o) H := h.2.2.1 o ho
theorem cell_same {G : GC} {M M1 : Mem} {j : Nat} (h1 : M1.1 j = M.1 j) (h2 : M1.2.1 j = M.2.1 j) (h3 : M1.2.2 j = M.2.2 j) : cellOf G M1 j = cellOf G M j := by
  unfold cellOf fv
  rw [h1, h2, h3]
/-- one cell of ours is written -/
theorem Rel.put {G : GC} {cur o : Nat} {M M1 : Mem} {H H1 : Heap} (h : Rel G cur M H) (ho : o < cur) (hz : H1.size = H.size) (hq : ∀ q, q ≠ gb G + o → H1[q]? = H[q]?) (ha : va_at (gD G) vwCl (gb G + o, cellOf G M1 o) H1)
    (hM : ∀ j, j ≠ o → M1.1 j = M.1 j ∧ M1.2.1 j = M.2.1 j ∧ M1.2.2 j = M.2.2 j) : Rel G cur M1 H1 := by
  refine ⟨by rw [hz]; exact h.1, fun q h0 => ?_, fun j hj => ?_, fun j hj => ?_⟩
  · rw [hq q (by omega)]
    exact h.2.1 q h0
  · by_cases e : j = o
    · subst e
      exact ha
    · obtain ⟨m1, m2, m3⟩ := hM j e
      rw [cell_same m1 m2 m3]
      exact (h.2.2.1 j hj).kept (hq _ (by omega))
  · obtain ⟨m1, m2, m3⟩ := hM j (by omega)
    rw [m1, m2, m3]
    exact h.2.2.2 j hj
theorem u2_off {α : Type} {f : Nat → Nat → α} {o k j : Nat} {v : α} (h : j ≠ o) : u2 f o k v j = f j := by
  funext k'
  simp [u2, h]
theorem u2_on {α : Type} {f : Nat → Nat → α} {o k : Nat} {v : α} : u2 f o k v o = fun k' => if k' = k then v else f o k' := by
  funext k'
  simp [u2]
theorem lst_ref {G : GC} {o : Nat} {r : List Value} (h : o < 168) : lst G (.ref o :: r) = .ref (gb G + o) :: lst G r := by
  show Value.ref (adr G o) :: _ = _
  rw [adr_lt h]
  rfl
theorem lst_ref2 {G : GC} {o : Nat} {v : Value} {r : List Value} (h : o < 168) : lst G (v :: .ref o :: r) = lf G v :: .ref (gb G + o) :: lst G r := by
  show lf G v :: Value.ref (adr G o) :: _ = _
  rw [adr_lt h]
  rfl
theorem lst_ref3 {G : GC} {o : Nat} {v w : Value} {r : List Value} (h : o < 168) : lst G (w :: v :: .ref o :: r) = lf G w :: lf G v :: .ref (gb G + o) :: lst G r := by
  show lf G w :: lf G v :: Value.ref (adr G o) :: _ = _
  rw [adr_lt h]
  rfl
theorem r_getfield {G : GC} {e i pc idx o ci k : Nat} {t : T3} {l : LV} {r : List Value} {M : Mem} {Q : Option Value → Mem → Prop} {v : Value} (hd : decode (bC i) pc = .ok (.getfield idx, 3)) (hf : fOk i idx ci k) (ho : ak o = ci) (hlb : o < t.1) (hn : k < an o)
    (hv : lf G v = fv G M ci o k) (k1 : wp G e t i (pc + 3) l (v :: r) M Q) : wp G e t i pc l (.ref o :: r) M Q := by
  intro p lch e0 R s m args below meth c H locs cells slots Z ls mc ms cur C hc hR hlo hl h1 h2 h3 h4 hF
  obtain ⟨hci, hk, hlink⟩ := hf
  have hcur : o < cur := Nat.lt_of_lt_of_le hlb hc.2
  have ha := hR.at hcur
  rw [cell_obj ho hci] at ha
  have hw := k1 p lch e0 R s m args below meth c H locs cells slots Z ls mc ms cur C hc hR hlo hl h1 h2 h3 h4 hF
  have hst : lst G (.ref o :: r) = .ref (gb G + o) :: lst G r := by
    show Value.ref (adr G o) :: _ = _
    rw [adr_lt (ak_lt ho (by omega))]
    rfl
  rw [hst]
  obtain ⟨hx, hb, hml, hown, hts, hret, hlocks, hin, hE, hfr, hlo2⟩ := C
  refine va_get (D := gD G) (cl := vwCl) (ws := [(gb G + o, .inr (ci, (List.range (an o)).map (fun k => fv G M ci o k)))]) (C := (vwd ci).1) (T := (vwd ci).2.1) (N := (vwd ci).2.2) hx hb hts (vwd_in hci) hown hE.1 (P_one ha) 0 rfl (vwd_at hci) k hk (hts _ hlink) (fun x h9 => by rw [(vwd_k hci hk).2.2] at h9; exact h9) (v := lf G v) ?_ hd ?_
  · rw [hv]
    simp [List.getElem?_range hn]
  · exact hw

theorem vp_V_range {n k : Nat} {g : Nat → Value} (h : k < n) : vp_V ((List.range n).map g) k = g k := by
  unfold vp_V
  rw [List.getD_eq_getElem?_getD, List.getElem?_map, List.getElem?_range h]
  rfl
theorem r_putfield {G : GC} {e i pc idx o ci k : Nat} {t : T3} {l : LV} {r : List Value} {M M1 : Mem} {Q : Option Value → Mem → Prop} {v : Value} (hd : decode (bC i) pc = .ok (.putfield idx, 3)) (hf : fOk i idx ci k) (ho : ak o = ci) (hlb : o < t.1) (hn : (vwd ci).2.2 = an o)
    (hfin : ffi ci k = true → mx i = true ∧ oC i = ci) (hna : narrow (tyc ci k) (lf G v) = lf G v) (hfit : fits (tyc ci k) (lf G v) = true)
    (hv : fv G M1 ci o k = lf G v) (hM : ∀ j, j ≠ o → M1.1 j = M.1 j ∧ M1.2.1 j = M.2.1 j ∧ M1.2.2 j = M.2.2 j) (hMk : ∀ j, j ≠ k → fv G M1 ci o j = fv G M ci o j) (hmr : mx i = false → M1.2.2 = M.2.2) (k1 : wp G e t i (pc + 3) l r M1 Q) : wp G e t i pc l (v :: .ref o :: r) M Q := by
  intro p lch e0 R s m args below meth c H locs cells slots Z ls mc ms cur C hc hR hlo hl h1 h2 h3 h4 hF
  obtain ⟨hci, hk, hlink⟩ := hf
  have hcur : o < cur := Nat.lt_of_lt_of_le hlb hc.2
  have ha := hR.at hcur
  rw [cell_obj ho hci] at ha
  have hw := fun (H1 : Heap) (locs1 : List Loc) (hR1 : Rel G cur M1 H1) (hlo1 : ∀ z ∈ locs1, gb G ≤ z.base) => k1 p lch e0 R s m args below meth c H1 locs1 cells slots Z ls mc ms cur C hc hR1 hlo1 hl h1 h2 h3 h4 (fun v M H locs cells slots pc ls a1 a2 => hF v M H locs cells slots pc ls a1 (fun h9 => (a2 h9).trans (hmr h9)))
  rw [lst_ref2 (ak_lt ho (by omega))]
  obtain ⟨hx, hb, hml, hown, hts, hret, hlocks, hin, hE, hfr, hlo2⟩ := C
  obtain ⟨hty, hff, hdecl⟩ := vwd_k hci hk
  have hK := hE.1
  have hap := va_apart (own := ow i) hts (vwd_in hci) (tyc ci) (vwd_ty hci) (vwd_nm hci) hK (vwd_at hci)
  obtain ⟨rr, g1, cell, q1, q2, q3, q4⟩ := ha
  cases g1.symm.trans (vwd_at hci)
  obtain ⟨hS, hfc, kC, hkC, hkind⟩ := hK.1 ci _ (vwd_at hci)
  obtain ⟨cf, kf, fi, f, hi, hsl⟩ := hS k hk
  have hst := (u_facts hfc hkC (u_lays hts (vwd_in hci) hk) hi).1
  have hsame : s.fieldFound? (vwd ci).1 ((vwd ci).2.1 k).2.1 ((vwd ci).2.1 k).2.2.1 = some (cf, kf, fi, f) := by rw [← hi, hdecl]
  have hlay := hts _ (vwd_in hci _ (u_in_lay hk))
  unfold u_lay at hlay
  have hslot : cell.slots[f.slot]? = some (vp_V ((List.range (an o)).map (fun k => fv G M ci o k)) k) := by rw [hsl]; exact q4 k hk
  have hend : ∀ H1 : Heap, H1[gb G + o]? = some (cell.setSlot f.slot (lf G v)) → H1.size = H.size → (∀ q, q ≠ gb G + o → H1[q]? = H[q]?) → Rel G cur M1 H1 := by
    intro H1 e1 e2 e3
    rw [hsl] at e1
    refine hR.put hcur e2 e3 ?_ hM
    rw [cell_obj ho hci]
    refine ⟨_, vwd_at hci, t_OB.to (V := updV (vp_V ((List.range (an o)).map (fun k => fv G M ci o k))) k (lf G v)) ⟨_, e1, q2, q3, t_set q4 hap hk (lf G v)⟩ (fun j hj => ?_)⟩
    have hj2 : j < an o := by rw [← hn]; exact hj
    rw [vp_V_range hj2]
    by_cases hjk : j = k
    · subst hjk
      simp [updV, hv]
    · simp [updV, hjk, vp_V_range hj2, hMk j hjk]
  have hlo9 : ∀ z ∈ locs ++ [(⟨gb G + o, f.slot⟩ : Loc)], gb G ≤ z.base := by
    intro z hz
    rcases List.mem_append.mp hz with h | h
    · exact hlo z h
    · rw [List.mem_singleton.mp h]
      exact Nat.le_add_right _ _
  by_cases hfl : ((vwd ci).2.1 k).2.2.2 = true
  · rw [if_pos hfl] at hlay
    obtain ⟨hmx, hoc⟩ := hfin (by rw [← hff]; exact hfl)
    have howC : (vwd ci).1 = ow i := by unfold ow; rw [hoc, RN_eq hci]
    have hcf : m.cls = cf := by
      obtain ⟨_, _, c', _, _, _, -, -, hf', -, -, -, hown2, -⟩ := Cond.laysFinal_spec hlay
      have e1 : c' = cf := by have := hi.symm.trans hf'; simp at this; exact this.1.symm
      rw [hdecl, howC] at hown2
      rw [← e1]
      exact Option.some.inj (hown.symm.trans hown2)
    have h6 := u_fits hfc hkC hkind (Or.inr hlay) hi (vwd_ty hci k hk) hna hfit
    exact W.putFinK hx hb hown (hts _ hlink) hsame hst hcf (hin hmx (by omega)) (by rw [q2]; exact h6) q1 q3 (k2_hasslot hslot) rfl rfl hd fun H1 e1 e2 e3 => hw H1 _ (hend H1 e1 e2 e3) hlo9
  · rw [if_neg hfl] at hlay
    have h6 := u_store hfc hkC hkind hlay hi (vwd_ty hci k hk) hna hfit
    exact W.putK hx hb (f := f) ⟨hown, hts _ hlink, ⟨_, _, _, hsame⟩, hst⟩ (by rw [q2]; exact h6) q1 q3 (k2_hasslot hslot) rfl rfl hd fun H1 e1 e2 e3 => hw H1 _ (hend H1 e1 e2 e3) hlo9
theorem isB_zero {x : Int32} (h : isB x) : narrow .boolean (.int x) = .int x := by rcases h with rfl | rfl <;> rfl
section ARR
variable {G : GC} {e i pc c : Nat} {t : T3} {l : LV} {r : List Value} {M : Mem} {Q : Option Value → Mem → Prop} {j x : Int32}
theorem r_iaload (hd : decode (bC i) pc = .ok (.iaload, 1)) (ho : ak c = 11) (hlb : c < t.1) (hj : vp_in j (an c)) (k1 : wp G e t i (pc + 1) l (.int (M.1 c (ix j)) :: r) M Q) : wp G e t i pc l (.int j :: .ref c :: r) M Q := by
  intro p lch e0 R s m args below meth cc H locs cells slots Z ls mc ms cur C hc hR hlo hl h1 h2 h3 h4 hF
  have ha := hR.at (Nat.lt_of_lt_of_le hlb hc.2)
  rw [cell_int ho] at ha
  rw [lst_ref2 (ak_lt ho (by omega))]
  exact va_iald (D := gD G) (cl := vwCl) (ws := [_]) C.1 C.2.1 C.2.2.2.2.2.2.2.2.1.1 (P_one ha) 0 0 rfl rfl hj hd (k1 p lch e0 R s m args below meth cc H locs cells slots Z ls mc ms cur C hc hR hlo hl h1 h2 h3 h4 hF)
theorem r_baload (hd : decode (bC i) pc = .ok (.baload, 1)) (ho : ak c = 12) (hlb : c < t.1) (hj : vp_in j (an c)) (k1 : wp G e t i (pc + 1) l (.int (M.1 c (ix j)) :: r) M Q) : wp G e t i pc l (.int j :: .ref c :: r) M Q := by
  intro p lch e0 R s m args below meth cc H locs cells slots Z ls mc ms cur C hc hR hlo hl h1 h2 h3 h4 hF
  have ha := hR.at (Nat.lt_of_lt_of_le hlb hc.2)
  rw [cell_bool ho] at ha
  rw [lst_ref2 (ak_lt ho (by omega))]
  exact va_zald (D := gD G) (cl := vwCl) (ws := [_]) C.1 C.2.1 C.2.2.2.2.2.2.2.2.1.1 (P_one ha) 0 1 rfl rfl hj hd (k1 p lch e0 R s m args below meth cc H locs cells slots Z ls mc ms cur C hc hR hlo hl h1 h2 h3 h4 hF)
theorem rows_ok : (List.range 168).all (fun c => decide (ak c = 13 → rb c + an c ≤ 168)) = true := by decide +kernel
theorem r_aaload (hd : decode (bC i) pc = .ok (.aaload, 1)) (ho : ak c = 13) (hlb : c < t.1) (hj : vp_in j (an c)) (k1 : wp G e t i (pc + 1) l (.ref (rb c + ix j) :: r) M Q) : wp G e t i pc l (.int j :: .ref c :: r) M Q := by
  intro p lch e0 R s m args below meth cc H locs cells slots Z ls mc ms cur C hc hR hlo hl h1 h2 h3 h4 hF
  have ha := hR.at (Nat.lt_of_lt_of_le hlb hc.2)
  have hc2 : c < 168 := ak_lt ho (by omega)
  have hr : rb c + an c ≤ 168 := by
    have := List.all_eq_true.mp rows_ok c (List.mem_range.mpr hc2)
    simp only [decide_eq_true_eq] at this
    exact this ho
  have hjl : ix j < an c := Nat.not_le.mp fun q => hj (Or.inr q)
  rw [cell_rows ho] at ha
  rw [lst_ref2 hc2]
  have hw := k1 p lch e0 R s m args below meth cc H locs cells slots Z ls mc ms cur C hc hR hlo hl h1 h2 h3 h4 hF
  rw [lst_ref (by omega), ← Nat.add_assoc] at hw
  obtain ⟨hA, hA2⟩ := C.2.2.2.2.2.2.2.2.1.1.2 2 _ rfl
  refine W.aald (v := .ref (gb G + rb c + ix j)) (ty := .array .int) C.1 C.2.1 ha (hA (an c) (fun i => va_rf (some (gb G + rb c + i)))) rfl (fun q => by cases q) (by show ¬ (j < 0 ∨ (arrV _ _ _).slots.size ≤ _); rw [arrV_size]; exact hj) (by show (arrV _ _ _).slots[_]? = _; rw [arrV_read _ _ hjl]; rfl) rfl rfl hd hw
theorem Rel.arr {cur : Nat} {H H1 : Heap} {f : Nat → Int32} {cA : ClassId} {n : Nat} (hR : Rel G cur M H) (hcur : c < cur) (hcell : ∀ M1 : Mem, cellOf G M1 c = .inl (cA, n, .inl (M1.1 c))) (e : H1[gb G + c]? = some ((arrV cA n (fun q => .int (M.1 c q))).setSlot (ix j) (.int x))) (z : H1.size = H.size) (oq : ∀ q, q ≠ gb G + c → H1[q]? = H[q]?) : Rel G cur (u2 M.1 c (ix j) x, M.2) H1 := by
  refine hR.put hcur z oq ?_ (fun q hq => ⟨u2_off hq, rfl, rfl⟩)
  rw [hcell]
  show H1[_]? = some (vp_cell _ _)
  rw [e, vp_cell_i, arrV_store]
  congr 2
  funext q
  by_cases h : q = ix j
  · subst h
    simp [updV, u2]
  · simp [updV, u2, h]
theorem r_iastore (hd : decode (bC i) pc = .ok (.iastore, 1)) (ho : ak c = 11) (hlb : c < t.1) (hj : vp_in j (an c)) (k1 : wp G e t i (pc + 1) l r (u2 M.1 c (ix j) x, M.2) Q) : wp G e t i pc l (.int x :: .int j :: .ref c :: r) M Q := by
  intro p lch e0 R s m args below meth cc H locs cells slots Z ls mc ms cur C hc hR hlo hl h1 h2 h3 h4 hF
  have hcur : c < cur := Nat.lt_of_lt_of_le hlb hc.2
  have ha := hR.at hcur
  rw [cell_int ho] at ha
  rw [lst_ref3 (ak_lt ho (by omega))]
  obtain ⟨hA, hA2⟩ := C.2.2.2.2.2.2.2.2.1.1.2 0 _ rfl
  refine W.iast C.1 C.2.1 ha (hA (an c) (fun q => .int (M.1 c q))) (fun q => by cases q) (by show ¬ (j < 0 ∨ (arrV _ _ _).slots.size ≤ _); rw [arrV_size]; exact hj) rfl rfl hd fun H1 e z oq => ?_
  refine k1 p lch e0 R s m args below meth cc H1 _ cells slots Z ls mc ms cur C hc (hR.arr (f := fun _ => 0) hcur (fun M1 => cell_int ho) e z oq) ?_ hl h1 h2 h3 h4 hF
  intro q hq
  rcases List.mem_append.mp hq with h | h
  · exact hlo q h
  · rw [List.mem_singleton.mp h]
    exact Nat.le_add_right _ _
theorem r_bastore (hd : decode (bC i) pc = .ok (.bastore, 1)) (ho : ak c = 12) (hlb : c < t.1) (hj : vp_in j (an c)) (hx : isB x) (k1 : wp G e t i (pc + 1) l r (u2 M.1 c (ix j) x, M.2) Q) : wp G e t i pc l (.int x :: .int j :: .ref c :: r) M Q := by
  intro p lch e0 R s m args below meth cc H locs cells slots Z ls mc ms cur C hc hR hlo hl h1 h2 h3 h4 hF
  have hcur : c < cur := Nat.lt_of_lt_of_le hlb hc.2
  have ha := hR.at hcur
  rw [cell_bool ho] at ha
  rw [lst_ref3 (ak_lt ho (by omega))]
  obtain ⟨hA, hA2⟩ := C.2.2.2.2.2.2.2.2.1.1.2 1 _ rfl
  refine W.zast C.1 C.2.1 ha (hA (an c) (fun q => .int (M.1 c q))) (fun q => by cases q) (by show ¬ (j < 0 ∨ (arrV _ _ _).slots.size ≤ _); rw [arrV_size]; exact hj) rfl rfl hd fun H1 e z oq => ?_
  rw [isB_zero hx] at e
  refine k1 p lch e0 R s m args below meth cc H1 _ cells slots Z ls mc ms cur C hc (hR.arr (f := fun _ => 0) hcur (fun M1 => cell_bool ho) e z oq) ?_ hl h1 h2 h3 h4 hF
  intro q hq
  rcases List.mem_append.mp hq with h | h
  · exact hlo q h
  · rw [List.mem_singleton.mp h]
    exact Nat.le_add_right _ _
theorem r_alen (hd : decode (bC i) pc = .ok (.arraylength, 1)) (ho : (ak c = 11 ∨ ak c = 12) ∨ ak c = 13) (hlb : c < t.1) (k1 : wp G e t i (pc + 1) l (.int (nI (an c)) :: r) M Q) : wp G e t i pc l (.ref c :: r) M Q := by
  intro p lch e0 R s m args below meth cc H locs cells slots Z ls mc ms cur C hc hR hlo hl h1 h2 h3 h4 hF
  have ha := hR.at (Nat.lt_of_lt_of_le hlb hc.2)
  have hw := k1 p lch e0 R s m args below meth cc H locs cells slots Z ls mc ms cur C hc hR hlo hl h1 h2 h3 h4 hF
  rw [lst_ref (by rcases ho with (h | h) | h <;> exact ak_lt h (by omega))]
  rcases ho with (ho | ho) | ho
  · rw [cell_int ho] at ha
    exact va_alen (D := gD G) (cl := vwCl) (ws := [_]) C.1 C.2.1 C.2.2.2.2.2.2.2.2.1.1 (P_one ha) 0 0 rfl rfl rfl hd hw
  · rw [cell_bool ho] at ha
    exact va_alen (D := gD G) (cl := vwCl) (ws := [_]) C.1 C.2.1 C.2.2.2.2.2.2.2.2.1.1 (P_one ha) 0 1 rfl rfl rfl hd hw
  · rw [cell_rows ho] at ha
    exact va_alen (D := gD G) (cl := vwCl) (ws := [_]) C.1 C.2.1 C.2.2.2.2.2.2.2.2.1.1 (P_one ha) 0 2 rfl rfl rfl hd hw
theorem adr_sp {k : Nat} : adr G (SP + k) = gsp G k := by
  unfold adr
  rw [if_neg (by omega), Nat.add_sub_cancel_left]
theorem Rel.scr {cur : Nat} {H : Heap} (hR : Rel G cur M H) : va_S (fun q => gb G ≤ q) (gH G) H [] → True := fun _ => trivial
theorem r_sload (hd : decode (bC i) pc = .ok (.iaload, 1)) (hj : vp_in j (gLn G)) (k1 : wp G e t i (pc + 1) l (.int (gxs G (ix j)) :: r) M Q) : wp G e t i pc l (.int j :: .ref SP :: r) M Q := by
  intro p lch e0 R s m args below meth cc H locs cells slots Z ls mc ms cur C hc hR hlo hl h1 h2 h3 h4 hF
  have hw := k1 p lch e0 R s m args below meth cc H locs cells slots Z ls mc ms cur C hc hR hlo hl h1 h2 h3 h4 hF
  have hst : lst G (.int j :: .ref SP :: r) = .int j :: .ref (gsp G 0) :: lst G r := by
    show Value.int j :: Value.ref (adr G (SP + 0)) :: _ = _
    rw [adr_sp]
    rfl
  rw [hst]
  obtain ⟨-, hX, hb0, hz0, -⟩ := C.2.2.2.2.2.2.2.2.1
  exact va_sld (A := fun q => gb G ≤ q) (H0 := gH G) (locs := locs) C.1 C.2.1 hX (by rw [hz0]; exact hb0) (by omega) ⟨by rw [hz0, hR.1]; omega, fun q h1 h2 => hR.2.1 q (by omega), hlo⟩ hj hd hw
theorem r_slen (hd : decode (bC i) pc = .ok (.arraylength, 1)) (k1 : wp G e t i (pc + 1) l (.int (nI (gLn G)) :: r) M Q) : wp G e t i pc l (.ref SP :: r) M Q := by
  intro p lch e0 R s m args below meth cc H locs cells slots Z ls mc ms cur C hc hR hlo hl h1 h2 h3 h4 hF
  have hw := k1 p lch e0 R s m args below meth cc H locs cells slots Z ls mc ms cur C hc hR hlo hl h1 h2 h3 h4 hF
  have hst : lst G (.ref SP :: r) = .ref (gsp G 0) :: lst G r := by
    show Value.ref (adr G (SP + 0)) :: _ = _
    rw [adr_sp]
    rfl
  rw [hst]
  obtain ⟨-, hX, hb0, hz0, -⟩ := C.2.2.2.2.2.2.2.2.1
  exact va_slen (A := fun q => gb G ≤ q) (H0 := gH G) (locs := locs) C.1 C.2.1 hX (by rw [hz0]; exact hb0) (by omega) ⟨by rw [hz0, hR.1]; omega, fun q h1 h2 => hR.2.1 q (by omega), hlo⟩ hd hw
end ARR
