/-! calls, and what is made -/
theorem good_wsM {j : Nat} (h : Jvm.Cond.code (yM j) (bC j) (nL j) (rT j) ∈ gdt) : GoodIn gdt (wsM j) := by
  intro w hw
  have hm : w ∈ gdt := by
    rcases List.mem_cons.mp hw with rfl | q
    · exact h
    · exact q
  exact ⟨hm, good_of_word (List.mem_filter.mp hm).2⟩
theorem EF.to {G : GC} {s U : State} (h : EF G s) (hA : s.vm.Alike U.vm) (hk : ∀ (own : String) (k : Nat) (tx : String) (a : Nat), vk_R own k tx a s → vk_R own k tx a U) (hk2 : ∀ (a : String) (i : Nat) (x : MethodName) (h : String), va_Nw (.methodLinkNest a i x h) s → va_Nw (.methodLinkNest a i x h) U) : EF G U := by
  obtain ⟨h1, h2, h3, h4, ⟨g1, g2, g3, ⟨adV, g4⟩, g5, g6⟩, g7, g8⟩ := h
  exact ⟨h1.moved hA, h2.moved hA, h3, h4, ⟨hk _ _ _ _ g1, hk _ _ _ _ g2, hk _ _ _ _ g3, ⟨adV, g4.moved hA⟩, g5.moved hA, g6.moved hA⟩, g7.moved hA, hk2 _ _ _ _ g8⟩
theorem EF.warm {G : GC} {s U : State} (h : EF G s) (hW : s.WarmedH U.vm) : EF G U := h.to hW.alike (fun _ _ _ _ q => q.warm hW) (fun _ _ _ _ q => q.warmM hW)
theorem EF.same {G : GC} {s U : State} (h : EF G s) (hv : U.vm = s.vm) : EF G U := h.to (by rw [hv]; exact Vm.Alike.refl _) (fun _ _ _ _ q => q.same hv) (fun _ _ _ _ q => q.same rfl hv.symm)
/-- what the tables say of the method j -/
def jOk (j : Nat) : Prop := Jvm.Cond.code (yM j) (bC j) (nL j) (rT j) ∈ gdt ∧ Jvm.Cond.initialized (yM j).cls ∈ gdt ∧ ((yM j).cls ≠ "java/lang/invoke/MethodHandle" ∧ (yM j).cls ≠ "java/lang/invoke/VarHandle" ∧ (parseMethodDescriptor (yM j).desc).map (fun d => d.parameters.length) = some (na j)) ∧ nL j ≤ 30
theorem cats_lst {G : GC} {r : List Value} : ((lst G r).map fun v => v.category).sum = cats r := by
  unfold lst cats
  rw [List.map_map]
  congr 2
  funext v
  exact lf_cat G v
theorem blindM {G : GC} {cur : Nat} {M : Mem} {av : List Value} : FrameBlind (va_Pc av (fun U => Rel G cur M U.heap ∧ EF G U)) := fun a U g mk q => by
  obtain ⟨q0, q1, q2⟩ := q
  exact ⟨q0, q1, q2.same rfl⟩
section CB
variable {G : GC} {e e1 i j pc idx : Nat} {t : T3} {l : LV} {r As : List Value} {M : Mem} {Q : Option Value → Mem → Prop}
/-- behind a call: its answer on the stack, its memory -/
theorem wp_back {p : Program} {lch : Launch} {e0 : Env} {R : Room} {s : State} {m : MethodId} {args : Array Value} {below : List Frame} {meth : Method} {c : Code} {H : Heap} {locs : List Loc} {cells slots : Nat} {Z : State → Prop} {ls : Array Slot} {cur : Nat} {st0 : List Value} {K : Option Value → Mem → Prop}
    (hr : va_Run p lch e0 R s m args below meth c H locs cells slots (alc j).1 (alc j).2 (F0 m pc ls st0) (lst G r) (fun _ o u => ∃ (v : Option Value) (M1 : Mem), o = .returned (v.map (lf G)) ∧ K v M1 ∧ (mx j = false → M1.2.2 = M.2.2) ∧ Rel G (cur + (alc j).1) M1 u.heap) (fun q => gb G ≤ q))
    (hlo : ∀ z ∈ locs, gb G ≤ z.base)
    (kk : ∀ (v : Option Value) (M1 : Mem) (H1 : Heap) (locs1 : List Loc), K v M1 → (mx j = false → M1.2.2 = M.2.2) → Rel G (cur + (alc j).1) M1 H1 → (∀ z ∈ locs1, gb G ≤ z.base) → W p lch e0 R s m args below meth c H1 locs1 (cells + (alc j).1) (slots + (alc j).2) Z (F0 m (pc + 3) ls (lst G (v.toList ++ r)))) :
    W p lch e0 R s m args below meth c H locs cells slots Z (F0 m pc ls st0) := by
  intro T hT X
  obtain ⟨v, st₀, u, T', L, h0, X', hL, e1, e2, ⟨v1, M1, hv, hK, hmr, hR1⟩, st⟩ := hr T hT X
  cases hv
  obtain ⟨t2, a1, b1⟩ := kk v1 M1 T'.heap (locs ++ L) hK hmr (by rw [e1]; exact hR1) (fun z hz => by
    rcases List.mem_append.mp hz with h | h
    · exact hlo z h
    · exact hL z h) T' rfl X'
  refine ⟨t2, st t2 ?_, b1⟩
  have e3 : (v1.map (lf G)).toList ++ lst G r = lst G (v1.toList ++ r) := by
    cases v1 with
    | none => rfl
    | some w => rfl
  rw [e3]
  exact a1
theorem mem_words {args : Array Value} {s : State} {w : Jvm.Cond} (hts : ∀ w ∈ gdt, w.before args s = true) (h : w ∈ gdt) : w.before args s = true := hts w h
/-- the words and the room of a call from i with e to j with e1 -/
theorem callB_M {R : Room} {s : State} {args : Array Value} (hts : ∀ w ∈ gdt, w.before args s = true) (hj : jOk j) (hl : Jvm.Cond.methodLink (ow i) idx (yM j) ∈ gdt) (hd : dep j + e1 + 1 ≤ dep i + e) (hfr : dep i + e ≤ R.frames) (hlo : 60 * (dep i + e) ≤ R.locals) :
    CallB R s args (ow i) idx (yM j) (bC j) (nL j) (rT j) (wsM j) (rmM e1 j) (alc j).1 (alc j).2 (na j) := by
  obtain ⟨h1, h2, h3, h4⟩ := hj
  exact callB_of (na j) hts (good_wsM h1) (ws' := gdt) rfl rfl rfl (hts _ h2) (hts _ hl) h3 ⟨by show dep j + e1 + 1 ≤ _; omega, by show 8 + (nL j + 11) + 60 * (dep j + e1) ≤ _; omega⟩
theorem curOk.call {cur : Nat} (h : curOk i t.1 cur) (hx : mx j = true → mx i = true) : curOk j t.1 cur := ⟨fun q => h.1 (hx q), h.2⟩
theorem curOk.past {cur : Nat} (h : curOk i t.1 cur) (hx : (alc j).1 = 0 ∨ mx i = true) : curOk i (t.1 + (alc j).1) (cur + (alc j).1) := ⟨fun q => by rw [h.1 q], by have := h.2; omega⟩
theorem r_invV {o : Nat} (hd : decode (bC i) pc = .ok (.invokevirtual idx, 3)) (hj : jOk j) (hl : Jvm.Cond.methodLink (ow i) idx (yM j) ∈ gdt) (hin : Jvm.Cond.instanceMethod (yM j) ∈ gdt) (hsel : Jvm.Cond.selects (ow j) (yM j) (yM j) ∈ gdt) (hoc : oC j < 11) (ho : ak o = oC j) (hlb : o < t.1) (hx : mx j = false) (ha : alc j = (0, 0))
    (hdp : dep j + e1 + 1 ≤ dep i + e) (hn : As.length = na j) (hcr : cats r ≤ 8) (k1 : wpc G e1 t.1 j (.ref o :: As) M (fun v M1 => M1.2.2 = M.2.2 → wp G e t i (pc + 3) l (v.toList ++ r) M1 Q)) : wp G e t i pc l (As.reverse ++ .ref o :: r) M Q := by
  intro p lch e0 R s m args below meth c H locs cells slots Z ls mc ms cur C hc hR hlo hl2 h1 h2 h3 h4 hF
  obtain ⟨hx0, hb, hml, hown, hts, hret, hlocks, hini, hE, hfr, hlo2⟩ := id C
  have hcell := hR.at (Nat.lt_of_lt_of_le hlb hc.2)
  rw [cell_obj ho hoc] at hcell
  have hst : lst G (As.reverse ++ .ref o :: r) = (lst G As).reverse ++ .ref (gb G + o) :: lst G r := by
    rw [← lst_ref (r := r) (ak_lt ho (by omega))]
    unfold lst
    rw [List.map_append, List.map_reverse]
  rw [hst]
  have hM := k1 lch cur (hc.call (fun q => by rw [hx] at q; cases q))
  have hrun := va_runV (As := lst G As) (rest := lst G r) (g := F0 m pc ls ((lst G As).reverse ++ .ref (gb G + o) :: lst G r)) (b := gb G + o) (l := lch) (R := R) (e := e0) (below := below) (meth := meth) (H := H) (locs := locs) (cells := cells) (slots := slots) (C := ow j) ⟨hx0, hb, hml, hown, hts⟩ hM ⟨callB_M (i := i) (e := e) (e1 := e1) (idx := idx) hts hj hl hdp hfr hlo2, hts _ hin, hts _ hsel⟩
    ⟨blindM, by
      have := va_recv hE.1 (P_one hcell) (vwd_at hoc) (q0 := 0) rfl
      unfold ow
      rw [RN_eq hoc]
      exact this, fun U hU hW => ⟨by rw [lst_ref (ak_lt ho (by omega))], by rw [hU]; exact hR, hE.warm hW⟩⟩ rfl (by unfold lst; rw [List.length_map]; exact hn) hl2.1 rfl (lv_room (by rw [cats_lst]; exact hcr)) hd ⟨by rw [ha]; show cells + 0 ≤ _; omega, by rw [ha]; show slots + 0 ≤ _; omega⟩
  refine wp_back (K := fun v M1 => M1.2.2 = M.2.2 → wp G e t i (pc + 3) l (v.toList ++ r) M1 Q) hrun hlo ?_
  intro v M1 H1 locs1 hK hmr hR1 hlo1
  have hmr2 := hmr hx
  rw [ha] at hR1 ⊢
  exact hK hmr2 p lch e0 R s m args below meth c H1 locs1 _ _ Z ls mc ms cur C hc hR1 hlo1 hl2 (by show cells + 0 + _ ≤ _; omega) (by show slots + 0 + _ ≤ _; omega) h3 h4 (by rw [hmr2]; exact hF)
theorem r_invS (hd : decode (bC i) pc = .ok (.invokestatic idx, 3)) (hj : jOk j) (hl : Jvm.Cond.methodLink (ow i) idx (yM j) ∈ gdt) (hin : Jvm.Cond.static (yM j) ∈ gdt) (hx : mx j = false) (ha : alc j = (0, 0))
    (hdp : dep j + e1 + 1 ≤ dep i + e) (hn : As.length = na j) (hcr : cats r ≤ 8) (k1 : wpc G e1 t.1 j As M (fun v M1 => M1.2.2 = M.2.2 → wp G e t i (pc + 3) l (v.toList ++ r) M1 Q)) : wp G e t i pc l (As.reverse ++ r) M Q := by
  intro p lch e0 R s m args below meth c H locs cells slots Z ls mc ms cur C hc hR hlo hl2 h1 h2 h3 h4 hF
  obtain ⟨hx0, hb, hml, hown, hts, hret, hlocks, hini, hE, hfr, hlo2⟩ := id C
  have hst : lst G (As.reverse ++ r) = (lst G As).reverse ++ lst G r := by
    unfold lst
    rw [List.map_append, List.map_reverse]
  rw [hst]
  have hM := k1 lch cur (hc.call (fun q => by rw [hx] at q; cases q))
  have hrun := va_runS (As := lst G As) (rest := lst G r) (g := F0 m pc ls ((lst G As).reverse ++ lst G r)) (l := lch) (R := R) (e := e0) (below := below) (meth := meth) (H := H) (locs := locs) (cells := cells) (slots := slots) ⟨hx0, hb, hml, hown, hts⟩ hM ⟨callB_M (i := i) (e := e) (e1 := e1) (idx := idx) hts hj hl hdp hfr hlo2, hts _ hin⟩
    ⟨blindM, fun U hU hW => ⟨rfl, by rw [hU]; exact hR, hE.warm hW⟩⟩ rfl (by unfold lst; rw [List.length_map]; exact hn) hl2.1 rfl (lv_room (by rw [cats_lst]; exact hcr)) hd ⟨by rw [ha]; show cells + 0 ≤ _; omega, by rw [ha]; show slots + 0 ≤ _; omega⟩
  refine wp_back (K := fun v M1 => M1.2.2 = M.2.2 → wp G e t i (pc + 3) l (v.toList ++ r) M1 Q) hrun hlo ?_
  intro v M1 H1 locs1 hK hmr hR1 hlo1
  have hmr2 := hmr hx
  rw [ha] at hR1 ⊢
  exact hK hmr2 p lch e0 R s m args below meth c H1 locs1 _ _ Z ls mc ms cur C hc hR1 hlo1 hl2 (by show cells + 0 + _ ≤ _; omega) (by show slots + 0 + _ ≤ _; omega) h3 h4 (by rw [hmr2]; exact hF)
end CB
