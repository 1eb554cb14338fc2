/-! 'vc' says enough -/
theorem wpc_mono {G : GC} {e lb j : Nat} {As : List Value} {M : Mem} {K K' : Option Value → Mem → Prop} (hK : ∀ v M1, K v M1 → K' v M1) (h : wpc G e lb j As M K) : wpc G e lb j As M K' := fun lch cur hc =>
  MetFree.mono (h lch cur hc) (fun _ _ q => q) (fun _ _ _ _ _ q => q) (fun a st o t _ q => ⟨by obtain ⟨v, M1, q1, q2, q3⟩ := q.1; exact ⟨v, M1, q1, hK v M1 q2, q3⟩, q.2⟩)
theorem sw_mono {x : Int32} {P P' : Nat → Prop} (h : ∀ tg, P tg → P' tg) {d : Nat} : ∀ {tb : List Nat}, sw x P d tb → sw x P' d tb
  | [], q => h _ q
  | [_], q => h _ q
  | _ :: _ :: _, q => ⟨fun e => h _ (q.1 e), fun e => sw_mono h (q.2 e)⟩
theorem fv_int {G : GC} {M : Mem} {c o k : Nat} (h : fty c k = 0 ∨ fty c k = 3) : lf G (.int (M.1 o k)) = fv G M c o k := by
  unfold fv
  rcases h with h | h <;> rw [h] <;> rfl
theorem fv_long {G : GC} {M : Mem} {c o k : Nat} (h : fty c k = 1) : lf G (.long (M.2.1 o k)) = fv G M c o k := by
  unfold fv
  rw [h]
  rfl
theorem fv_ref {G : GC} {M : Mem} {c o k q : Nat} (h : fty c k = 2) (hq : M.2.2 o k = some q) : lf G (.ref q) = fv G M c o k := by
  unfold fv
  rw [h]
  simp only [hq]
  rfl
theorem fv_mut {G : GC} {M : Mem} {c o k : Nat} (h : fty c k ≠ 0 ∧ fty c k ≠ 1 ∧ fty c k ≠ 2 ∧ fty c k ≠ 3) (h0 : ¬ M.1 o k = 0) (hq : ix (M.1 o k) < SP) : lf G (.ref (ix (M.1 o k))) = fv G M c o k := by
  unfold fv
  split
  · exact absurd ‹_› h.1
  · exact absurd ‹_› h.2.1
  · exact absurd ‹_› h.2.2.1
  · exact absurd ‹_› h.2.2.2
  · rw [if_neg h0]
    show Value.ref (adr G (ix (M.1 o k))) = _
    unfold adr
    rw [if_pos hq]
theorem fv_row {G : GC} {M M1 : Mem} {c o j : Nat} (h1 : M1.1 o j = M.1 o j) (h2 : M1.2.1 o j = M.2.1 o j) (h3 : M1.2.2 o j = M.2.2 o j) : fv G M1 c o j = fv G M c o j := by
  unfold fv
  rw [h1, h2, h3]
theorem u2_at {α : Type} {f : Nat → Nat → α} {o k : Nat} {v : α} : u2 f o k v o k = v := by simp [u2]
theorem u2_ne {α : Type} {f : Nat → Nat → α} {o k j : Nat} {v : α} (h : j ≠ k) : u2 f o k v o j = f o j := by simp [u2, h]
theorem tyk_of {ci k : Nat} (hci : ci < 11) (hk : k < (vwd ci).2.2) {v : Value} (h : (fty ci k = 0 ∧ ∃ x, v = .int x) ∨ (fty ci k = 1 ∧ ∃ x, v = .long x) ∨ ((fty ci k = 2 ∨ fty ci k = 4) ∧ ∃ a, v = .ref a) ∨ (fty ci k = 3 ∧ ∃ x, v = .int x ∧ isB x)) : narrow (tyc ci k) v = v ∧ fits (tyc ci k) v = true := by
  obtain ⟨hty, -, -⟩ := vwd_k hci hk
  rcases h with ⟨h, x, rfl⟩ | ⟨h, x, rfl⟩ | ⟨h, x, rfl⟩ | ⟨h, x, rfl, hx⟩
  · rw [h] at hty
    cases htc : tyc ci k <;> rw [htc] at hty <;> simp [tyk] at hty
    exact ⟨rfl, rfl⟩
  · rw [h] at hty
    cases htc : tyc ci k <;> rw [htc] at hty <;> simp [tyk] at hty
    exact ⟨rfl, rfl⟩
  · rcases h with h | h <;> rw [h] at hty <;> cases htc : tyc ci k <;> rw [htc] at hty <;> simp [tyk] at hty <;> exact ⟨rfl, rfl⟩
  · rw [h] at hty
    cases htc : tyc ci k <;> rw [htc] at hty <;> simp [tyk] at hty
    refine ⟨isB_zero hx, ?_⟩
    rcases hx with rfl | rfl <;> rfl
theorem an_of {o a b : Nat} (h : (Nat.beq (ak o) a && Nat.ble (o + 1) b) = true) : ak o = a ∧ o < b := by
  simp only [Bool.and_eq_true, nbq, nbl] at h
  exact ⟨h.1, h.2⟩
theorem arP_of {b c lb n0 : Nat} {P : Prop} (h : arP b c lb n0 P) : ak c = n0 ∧ c < lb ∧ P := by
  unfold arP at h
  split at h
  · exact ⟨h.1.1, h.1.2, h.2⟩
  · split at h
    next e => exact ⟨(an_of e).1, (an_of e).2, h⟩
    next => exact h.elim
theorem ivk_of {dec e : Nat} {K : Nat → Prop} (h : ivk dec e K) : dec ≤ e ∧ K (e - dec) := by
  cases dec with
  | zero => exact ⟨Nat.zero_le _, h⟩
  | succ d => exact h
theorem jc_of {j : Nat} (hj : j < 271) : jOk j ∧ (if stt j then Jvm.Cond.static (yM j) ∈ gdt else Jvm.Cond.instanceMethod (yM j) ∈ gdt) ∧ (stt j = false → mx j = false → Jvm.Cond.selects (ow j) (yM j) (yM j) ∈ gdt) ∧ (mx j = true → (yM j).name = "<init>" ∧ rT j = none) ∧ (yM j).cls = ow j ∧ plainName (yM j).cls = true ∧ oC j < 11 ∧ (mx j = false → alc j = (0, 0)) := by
  have h := jc_all hj
  have hc := cw_all hj
  unfold jchk at h
  simp only [Bool.and_eq_true, decide_eq_true_eq, nbl, Bool.or_eq_true, Bool.not_eq_true'] at h
  obtain ⟨⟨⟨⟨⟨⟨⟨⟨⟨h1, h2⟩, h3⟩, h4⟩, h5⟩, h6⟩, h7⟩, h8⟩, h9⟩, h10⟩ := h
  have hcode : Jvm.Cond.code (yM j) (bC j) (nL j) (rT j) ∈ gdt := List.mem_filter.mpr ⟨List.mem_of_getElem? hc, by rfl⟩
  refine ⟨⟨hcode, gW_mem h1, h2, h3⟩, ?_, ?_, ?_, h7, h8, h9, ?_⟩
  · by_cases hs : stt j = true
    · rw [if_pos hs] at h4 ⊢
      exact gW_mem h4
    · rw [if_neg hs] at h4 ⊢
      exact gW_mem h4
  · intro a b
    rcases h5 with (q | q) | q
    · rw [a] at q; cases q
    · rw [b] at q; cases q
    · exact gW_mem q
  · intro a
    rcases h6 with q | q
    · rw [a] at q; cases q
    · exact q
  · intro a
    rcases h10 with q | q
    · rw [a] at q; cases q
    · exact q
theorem nOk {i idx a : Nat} (h : nT.any (fun x => Nat.beq x.1 (oC i) && Nat.beq x.2.1 idx && Nat.beq x.2.2.1 a) = true) : a < 11 ∧ Jvm.Cond.classLink (ow i) idx (vwd a).1 ∈ gdt ∧ Jvm.Cond.instantiable (vwd a).1 (vwd a).2.2 ∈ gdt ∧ Jvm.Cond.initialized (vwd a).1 ∈ gdt := by
  obtain ⟨x, hx, h⟩ := List.any_eq_true.mp h
  simp only [Bool.and_eq_true, nbq] at h
  obtain ⟨⟨e1, e2⟩, e3⟩ := h
  have h1 := List.all_eq_true.mp nT_ok x hx
  simp only [Bool.and_eq_true, nbl] at h1
  obtain ⟨h1, h2⟩ := h1
  have h3 := gW_mem h1
  rw [e1, e2, e3] at h3
  rw [e3] at h2
  have h4 := List.all_eq_true.mp cT_ok a (List.mem_range.mpr (by omega))
  simp only [Bool.and_eq_true] at h4
  exact ⟨by omega, h3, gW_mem h4.1, gW_mem h4.2⟩
theorem xOk {i idx : Nat} (h : xT.any (fun x => Nat.beq x.1 (oC i) && Nat.beq x.2.1 idx) = true) : Jvm.Cond.classLink (ow i) idx ("[" ++ (FieldType.array .int).toString) ∈ gdt := by
  obtain ⟨x, hx, h⟩ := List.any_eq_true.mp h
  simp only [Bool.and_eq_true, nbq] at h
  have h3 := gW_mem (List.all_eq_true.mp xT_ok x hx)
  rw [h.1, h.2] at h3
  exact h3
theorem rows_next {o : Nat} (h : ak o = 13) : o + 1 < 168 := by
  have h1 := ak_lt h (by omega)
  have hall : (List.range 168).all (fun o => decide (ak o = 13 → o + 1 < 168)) = true := by decide +kernel
  have := List.all_eq_true.mp hall o (List.mem_range.mpr h1)
  simp only [decide_eq_true_eq] at this
  exact this h
set_option maxHeartbeats 4000000 in
theorem vi_sound {G : GC} {e i pc len a b : Nat} {Q : Option Value → Mem → Prop} {I : Instr} {tb : List Nat} {t : T3} {l : LV} {st : List Value} {M : Mem} {kn : T3 → LV → List Value → Mem → Prop} {kj : Nat → T3 → LV → List Value → Mem → Prop} (hchk : chk1 i (pc, len, I, a, b, tb) = true)
    (hkn : falls I = true → ∀ (t : T3) (l : LV) (st : List Value) (M : Mem), kn t l st M → wp G e t i (pc + len) l st M Q) (hkj : ∀ (tg : Nat) (t : T3) (l : LV) (st : List Value) (M : Mem), kj tg t l st M → wp G e t i tg l st M Q)
    (h : vi G e i Q pc kn kj I a b tb t l st M) : wp G e t i pc l st M Q := by
  unfold chk1 at hchk
  simp only [Bool.and_eq_true, Bool.or_eq_true, decide_eq_true_eq] at hchk
  obtain ⟨hd, hs⟩ := hchk
  cases I
  case nop =>
    exact wp_sub (fun q hq => pick_mem hq) h
  case aload k =>
    replace hd := hd.resolve_left (by simp [isNop])
    obtain rfl : len = 2 := nbq.mp hs
    unfold vi at h
    dsimp only at h
    split at h
    next x hg => exact r_aload hd hg (hkn rfl _ _ _ _ h)
    next => exact h.elim
  case aload_n k =>
    replace hd := hd.resolve_left (by simp [isNop])
    obtain rfl : len = 1 := nbq.mp hs
    unfold vi at h
    dsimp only at h
    split at h
    next x hg => exact r_aload_n hd hg (hkn rfl _ _ _ _ h)
    next => exact h.elim
  case iload k =>
    replace hd := hd.resolve_left (by simp [isNop])
    obtain rfl : len = 2 := nbq.mp hs
    unfold vi at h
    dsimp only at h
    split at h
    next x hg => exact r_iload hd hg (hkn rfl _ _ _ _ h)
    next => exact h.elim
  case iload_n k =>
    replace hd := hd.resolve_left (by simp [isNop])
    obtain rfl : len = 1 := nbq.mp hs
    unfold vi at h
    dsimp only at h
    split at h
    next x hg => exact r_iload_n hd hg (hkn rfl _ _ _ _ h)
    next => exact h.elim
  case lload k =>
    replace hd := hd.resolve_left (by simp [isNop])
    obtain rfl : len = 2 := nbq.mp hs
    unfold vi at h
    dsimp only at h
    split at h
    next x hg => exact r_lload hd hg (hkn rfl _ _ _ _ h)
    next => exact h.elim
  case lload_n k =>
    replace hd := hd.resolve_left (by simp [isNop])
    obtain rfl : len = 1 := nbq.mp hs
    unfold vi at h
    dsimp only at h
    split at h
    next x hg => exact r_lload_n hd hg (hkn rfl _ _ _ _ h)
    next => exact h.elim
  case astore k =>
    replace hd := hd.resolve_left (by simp [isNop])
    unfold sdk at hs
    simp only [Bool.and_eq_true, nbq, nbl, decide_eq_true_eq] at hs
    obtain ⟨rfl, hs⟩ := hs
    unfold vi at h
    dsimp only at h
    split at h
    next x r => exact r_astore hd (by omega) (hkn rfl _ _ _ _ h)
    next => exact h.elim
  case astore_n k =>
    replace hd := hd.resolve_left (by simp [isNop])
    unfold sdk at hs
    simp only [Bool.and_eq_true, nbq, nbl, decide_eq_true_eq] at hs
    obtain ⟨rfl, hs⟩ := hs
    unfold vi at h
    dsimp only at h
    split at h
    next x r => exact r_astore_n hd (by omega) (hkn rfl _ _ _ _ h)
    next => exact h.elim
  case istore k =>
    replace hd := hd.resolve_left (by simp [isNop])
    unfold sdk at hs
    simp only [Bool.and_eq_true, nbq, nbl, decide_eq_true_eq] at hs
    obtain ⟨rfl, hs⟩ := hs
    unfold vi at h
    dsimp only at h
    split at h
    next x r => exact r_istore hd (by omega) (hkn rfl _ _ _ _ h)
    next => exact h.elim
  case istore_n k =>
    replace hd := hd.resolve_left (by simp [isNop])
    unfold sdk at hs
    simp only [Bool.and_eq_true, nbq, nbl, decide_eq_true_eq] at hs
    obtain ⟨rfl, hs⟩ := hs
    unfold vi at h
    dsimp only at h
    split at h
    next x r => exact r_istore_n hd (by omega) (hkn rfl _ _ _ _ h)
    next => exact h.elim
  case lstore k =>
    replace hd := hd.resolve_left (by simp [isNop])
    unfold sdk at hs
    simp only [Bool.and_eq_true, nbq, nbl, decide_eq_true_eq] at hs
    obtain ⟨rfl, hs⟩ := hs
    unfold vi at h
    dsimp only at h
    split at h
    next x r => exact r_lstore hd (by omega) (hkn rfl _ _ _ _ h)
    next => exact h.elim
  case lstore_n k =>
    replace hd := hd.resolve_left (by simp [isNop])
    unfold sdk at hs
    simp only [Bool.and_eq_true, nbq, nbl, decide_eq_true_eq] at hs
    obtain ⟨rfl, hs⟩ := hs
    unfold vi at h
    dsimp only at h
    split at h
    next x r => exact r_lstore_n hd (by omega) (hkn rfl _ _ _ _ h)
    next => exact h.elim
  case iconst n =>
    replace hd := hd.resolve_left (by simp [isNop])
    obtain rfl : len = 1 := nbq.mp hs
    exact r_iconst hd (hkn rfl _ _ _ _ h)
  case lconst n =>
    replace hd := hd.resolve_left (by simp [isNop])
    obtain rfl : len = 1 := nbq.mp hs
    exact r_lconst hd (hkn rfl _ _ _ _ h)
  case bipush n =>
    replace hd := hd.resolve_left (by simp [isNop])
    unfold sdk at hs
    simp only [Bool.and_eq_true, nbq, nbl, decide_eq_true_eq] at hs
    obtain ⟨rfl, hs⟩ := hs
    exact r_bipush hd hs (hkn rfl _ _ _ _ h)
  case sipush n =>
    replace hd := hd.resolve_left (by simp [isNop])
    unfold sdk at hs
    simp only [Bool.and_eq_true, nbq, nbl, decide_eq_true_eq] at hs
    obtain ⟨rfl, hs⟩ := hs
    exact r_sipush hd hs (hkn rfl _ _ _ _ h)
  case ldc2_w n =>
    replace hd := hd.resolve_left (by simp [isNop])
    unfold sdk at hs
    simp only [Bool.and_eq_true, nbq, nbl, decide_eq_true_eq] at hs
    obtain ⟨rfl, hs⟩ := hs
    exact r_ldc2 hd hs (hkn rfl _ _ _ _ h)
  case ldc n =>
    replace hd := hd.resolve_left (by simp [isNop])
    unfold sdk at hs
    simp only [Bool.and_eq_true, nbq] at hs
    obtain ⟨rfl, hs⟩ := hs
    unfold vi at h
    dsimp only at h
    split at h
    next => exact r_ldcS hd (of_decide_eq_true hs).1 (of_decide_eq_true hs).2 (hkn rfl _ _ _ _ h)
    next hb => 
      have hs2 : Jvm.Cond.constant (ow i) n (nI a) ∈ gdt := by
        split at hs
        next => exact absurd rfl hb
        next => exact of_decide_eq_true hs
      exact r_ldcI hd hs2 (hkn rfl _ _ _ _ h)
  case iadd =>
    replace hd := hd.resolve_left (by simp [isNop])
    obtain rfl : len = 1 := nbq.mp hs
    unfold vi at h
    dsimp only at h
    split at h
    next y x r => exact r_iadd hd (hkn rfl _ _ _ _ h)
    next => exact h.elim
  case isub =>
    replace hd := hd.resolve_left (by simp [isNop])
    obtain rfl : len = 1 := nbq.mp hs
    unfold vi at h
    dsimp only at h
    split at h
    next y x r => exact r_isub hd (hkn rfl _ _ _ _ h)
    next => exact h.elim
  case imul =>
    replace hd := hd.resolve_left (by simp [isNop])
    obtain rfl : len = 1 := nbq.mp hs
    unfold vi at h
    dsimp only at h
    split at h
    next y x r => exact r_imul hd (hkn rfl _ _ _ _ h)
    next => exact h.elim
  case iand =>
    replace hd := hd.resolve_left (by simp [isNop])
    obtain rfl : len = 1 := nbq.mp hs
    unfold vi at h
    dsimp only at h
    split at h
    next y x r => exact r_iand hd (hkn rfl _ _ _ _ h)
    next => exact h.elim
  case ixor =>
    replace hd := hd.resolve_left (by simp [isNop])
    obtain rfl : len = 1 := nbq.mp hs
    unfold vi at h
    dsimp only at h
    split at h
    next y x r => exact r_ixor hd (hkn rfl _ _ _ _ h)
    next => exact h.elim
  case iushr =>
    replace hd := hd.resolve_left (by simp [isNop])
    obtain rfl : len = 1 := nbq.mp hs
    unfold vi at h
    dsimp only at h
    split at h
    next y x r => exact r_iushr hd (hkn rfl _ _ _ _ h)
    next => exact h.elim
  case ishr =>
    replace hd := hd.resolve_left (by simp [isNop])
    obtain rfl : len = 1 := nbq.mp hs
    unfold vi at h
    dsimp only at h
    split at h
    next y x r => exact r_ishr hd (hkn rfl _ _ _ _ h)
    next => exact h.elim
  case ladd =>
    replace hd := hd.resolve_left (by simp [isNop])
    obtain rfl : len = 1 := nbq.mp hs
    unfold vi at h
    dsimp only at h
    split at h
    next y x r => exact r_ladd hd (hkn rfl _ _ _ _ h)
    next => exact h.elim
  case lmul =>
    replace hd := hd.resolve_left (by simp [isNop])
    obtain rfl : len = 1 := nbq.mp hs
    unfold vi at h
    dsimp only at h
    split at h
    next y x r => exact r_lmul hd (hkn rfl _ _ _ _ h)
    next => exact h.elim
  case lshl =>
    replace hd := hd.resolve_left (by simp [isNop])
    obtain rfl : len = 1 := nbq.mp hs
    unfold vi at h
    dsimp only at h
    split at h
    next y x r => exact r_lshl hd (hkn rfl _ _ _ _ h)
    next => exact h.elim
  case lor =>
    replace hd := hd.resolve_left (by simp [isNop])
    obtain rfl : len = 1 := nbq.mp hs
    unfold vi at h
    dsimp only at h
    split at h
    next y x r => exact r_lor hd (hkn rfl _ _ _ _ h)
    next => exact h.elim
  case lcmp =>
    replace hd := hd.resolve_left (by simp [isNop])
    obtain rfl : len = 1 := nbq.mp hs
    unfold vi at h
    dsimp only at h
    split at h
    next y x r => exact r_lcmp hd (hkn rfl _ _ _ _ h)
    next => exact h.elim
  case idiv =>
    replace hd := hd.resolve_left (by simp [isNop])
    obtain rfl : len = 1 := nbq.mp hs
    unfold vi at h
    dsimp only at h
    split at h
    next y x r => exact r_idiv hd h.1 (hkn rfl _ _ _ _ h.2)
    next => exact h.elim
  case irem =>
    replace hd := hd.resolve_left (by simp [isNop])
    obtain rfl : len = 1 := nbq.mp hs
    unfold vi at h
    dsimp only at h
    split at h
    next y x r => exact r_irem hd h.1 (hkn rfl _ _ _ _ h.2)
    next => exact h.elim
  case ldiv =>
    replace hd := hd.resolve_left (by simp [isNop])
    obtain rfl : len = 1 := nbq.mp hs
    unfold vi at h
    dsimp only at h
    split at h
    next y x r => exact r_ldiv hd h.1 (hkn rfl _ _ _ _ h.2)
    next => exact h.elim
  case i2l =>
    replace hd := hd.resolve_left (by simp [isNop])
    obtain rfl : len = 1 := nbq.mp hs
    unfold vi at h
    dsimp only at h
    split at h
    next x r => exact r_i2l hd (hkn rfl _ _ _ _ h)
    next => exact h.elim
  case l2i =>
    replace hd := hd.resolve_left (by simp [isNop])
    obtain rfl : len = 1 := nbq.mp hs
    unfold vi at h
    dsimp only at h
    split at h
    next x r => exact r_l2i hd (hkn rfl _ _ _ _ h)
    next => exact h.elim
  case goto off =>
    replace hd := hd.resolve_left (by simp [isNop])
    unfold sdk at hs
    simp only [Bool.and_eq_true, nbq, nbl, decide_eq_true_eq] at hs
    obtain ⟨rfl, hs⟩ := hs
    exact r_goto hd hs (hkj _ _ _ _ _ h)
  case if_icmp c off =>
    replace hd := hd.resolve_left (by simp [isNop])
    unfold sdk at hs
    simp only [Bool.and_eq_true, nbq, nbl, decide_eq_true_eq] at hs
    obtain ⟨rfl, hs⟩ := hs
    unfold vi at h
    dsimp only at h
    split at h
    next y x r => exact r_if_icmp hd hs (fun q => hkj _ _ _ _ _ (h.1 q)) (fun q => hkn rfl _ _ _ _ (h.2 q))
    next => exact h.elim
  case ifCond c off =>
    replace hd := hd.resolve_left (by simp [isNop])
    unfold sdk at hs
    simp only [Bool.and_eq_true, nbq, nbl, decide_eq_true_eq] at hs
    obtain ⟨rfl, hs⟩ := hs
    unfold vi at h
    dsimp only at h
    split at h
    next x r => exact r_ifCond hd hs (fun q => hkj _ _ _ _ _ (h.1 q)) (fun q => hkn rfl _ _ _ _ (h.2 q))
    next => exact h.elim
  case tableswitch d lo hi offs =>
    replace hd := hd.resolve_left (by simp [isNop])
    unfold vi at h
    dsimp only at h
    split at h
    next x r => exact r_tsw hd hs (sw_mono (fun tg q => hkj _ _ _ _ _ q) h)
    next => exact h.elim
  case lookupswitch d ps =>
    replace hd := hd.resolve_left (by simp [isNop])
    unfold vi at h
    dsimp only at h
    split at h
    next x r => exact r_lsw hd hs (sw_mono (fun tg q => hkj _ _ _ _ _ q) h)
    next => exact h.elim
  case iinc k n =>
    replace hd := hd.resolve_left (by simp [isNop])
    unfold sdk at hs
    simp only [Bool.and_eq_true, nbq, nbl, decide_eq_true_eq] at hs
    obtain ⟨rfl, hs⟩ := hs
    unfold vi at h
    dsimp only at h
    split at h
    next x hg => exact r_iinc hd (by omega) hg (hkn rfl _ _ _ _ h)
    next => exact h.elim
  case getfield idx =>
    replace hd := hd.resolve_left (by simp [isNop])
    unfold sdk at hs
    simp only [Bool.and_eq_true, nbq] at hs
    obtain ⟨rfl, hs⟩ := hs
    have hf := fOk_of hs
    unfold vi at h
    dsimp only at h
    split at h
    next o r =>
      split at h
      next hc =>
        simp only [Bool.and_eq_true, nbq, nbl] at hc
        obtain ⟨⟨c1, c2⟩, c3⟩ := hc
        split at h
        next hk => exact r_getfield hd hf c1 c2 c3 (fv_int (Or.inl hk)) (hkn rfl _ _ _ _ h)
        next hk => exact r_getfield hd hf c1 c2 c3 (fv_long hk) (hkn rfl _ _ _ _ h)
        next hk =>
          split at h
          next q hq => exact r_getfield hd hf c1 c2 c3 (fv_ref hk hq) (hkn rfl _ _ _ _ h)
          next => exact h.elim
        next hk => exact r_getfield hd hf c1 c2 c3 (fv_int (Or.inr hk)) (hkn rfl _ _ _ _ h)
        next k0 k1 k2 k3 => exact r_getfield hd hf c1 c2 c3 (fv_mut ⟨k0, k1, k2, k3⟩ h.1.1 h.1.2) (hkn rfl _ _ _ _ h.2)
      next => exact h.elim
    next => exact h.elim
  case putfield idx =>
    replace hd := hd.resolve_left (by simp [isNop])
    unfold sdk at hs
    simp only [Bool.and_eq_true, nbq] at hs
    obtain ⟨⟨⟨rfl, hs⟩, hfi⟩, hm2⟩ := hs
    have hf := fOk_of hs
    unfold vi at h
    dsimp only at h
    split at h
    next v o r =>
      split at h
      next hc =>
        simp only [Bool.and_eq_true, nbq, nbl, Bool.or_eq_true, Bool.not_eq_true'] at hc hfi
        obtain ⟨⟨⟨c1, c2⟩, c3⟩, c4⟩ := hc
        have hn := (vwd_n hf.1 o (ak_lt c1 (by have := hf.1; omega)) c1).symm
        have hfin : ffi a b = true → mx i = true ∧ oC i = a := fun q => ⟨c4.resolve_right (by rw [q]; simp), hfi.resolve_left (by rw [q]; simp)⟩
        split at h
        next x hk =>
          have hz := tyk_of hf.1 hf.2.1 (v := .int x) (Or.inl ⟨hk, x, rfl⟩)
          exact r_putfield (M1 := (u2 M.1 o b x, M.2)) hd hf c1 c2 hn hfin hz.1 hz.2 (by rw [← fv_int (G := G) (Or.inl hk)]; show Value.int (u2 M.1 o b x o b) = _; rw [u2_at]; rfl) (fun j hj => ⟨u2_off hj, rfl, rfl⟩) (fun j hj => fv_row (u2_ne hj) rfl rfl) (fun _ => rfl) (hkn rfl _ _ _ _ h)
        next x hk =>
          have hz := tyk_of hf.1 hf.2.1 (v := .long x) (Or.inr (Or.inl ⟨hk, x, rfl⟩))
          exact r_putfield (M1 := (M.1, u2 M.2.1 o b x, M.2.2)) hd hf c1 c2 hn hfin hz.1 hz.2 (by rw [← fv_long (G := G) hk]; show Value.long (u2 M.2.1 o b x o b) = _; rw [u2_at]; rfl) (fun j hj => ⟨rfl, u2_off hj, rfl⟩) (fun j hj => fv_row rfl (u2_ne hj) rfl) (fun _ => rfl) (hkn rfl _ _ _ _ h)
        next x hk =>
          have hz := tyk_of hf.1 hf.2.1 (v := .ref (adr G x)) (Or.inr (Or.inr (Or.inl ⟨Or.inl hk, _, rfl⟩)))
          exact r_putfield (M1 := (M.1, M.2.1, u2 M.2.2 o b (some x))) hd hf c1 c2 hn hfin hz.1 hz.2 (by rw [← fv_ref (G := G) (q := x) hk]; show u2 M.2.2 o b (some x) o b = _; exact u2_at) (fun j hj => ⟨rfl, rfl, u2_off hj⟩) (fun j hj => fv_row rfl rfl (u2_ne hj)) (fun q => absurd hm2 (by rw [hk, q]; decide)) (hkn rfl _ _ _ _ h)
        next x hk =>
          have hz := tyk_of hf.1 hf.2.1 (v := .int x) (Or.inr (Or.inr (Or.inr ⟨hk, x, rfl, h.1⟩)))
          exact r_putfield (M1 := (u2 M.1 o b x, M.2)) hd hf c1 c2 hn hfin hz.1 hz.2 (by rw [← fv_int (G := G) (Or.inr hk)]; show Value.int (u2 M.1 o b x o b) = _; rw [u2_at]; rfl) (fun j hj => ⟨u2_off hj, rfl, rfl⟩) (fun j hj => fv_row (u2_ne hj) rfl rfl) (fun _ => rfl) (hkn rfl _ _ _ _ h.2)
        next x hk =>
          have hz := tyk_of hf.1 hf.2.1 (v := .ref (adr G x)) (Or.inr (Or.inr (Or.inl ⟨Or.inr hk, _, rfl⟩)))
          have hx2 : x < 2 ^ 31 := Nat.lt_of_lt_of_le h.1.2 (Nat.le_of_ble_eq_true rfl)
          have hcl : ix (nI x) = x := nI_clamp hx2
          exact r_putfield (M1 := (u2 M.1 o b (nI x), M.2)) hd hf c1 c2 hn hfin hz.1 hz.2 (by
        have h5 : (u2 M.1 o b (nI x), M.2).1 o b = nI x := u2_at
        rw [← fv_mut (G := G) (M := (u2 M.1 o b (nI x), M.2)) (by rw [hk]; decide) (by rw [h5]; exact nI_ne0 h.1.1 hx2) (by rw [h5, hcl]; exact h.1.2), h5, hcl]) (fun j hj => ⟨u2_off hj, rfl, rfl⟩) (fun j hj => fv_row (u2_ne hj) rfl rfl) (fun _ => rfl) (hkn rfl _ _ _ _ h.2)
        next => exact h.elim
      next => exact h.elim
    next => exact h.elim
  case iaload =>
    replace hd := hd.resolve_left (by simp [isNop])
    obtain rfl : len = 1 := nbq.mp hs
    unfold vi at h
    dsimp only at h
    split at h
    next j c r =>
      split at h
      next hc =>
        obtain rfl := nbq.mp hc
        exact r_sload hd h.1 (hkn rfl _ _ _ _ h.2)
      next => exact h.elim
    next j c r _ =>
      obtain ⟨h1, h2, h3, h4⟩ := arP_of h
      exact r_iaload hd h1 h2 h3 (hkn rfl _ _ _ _ h4)
    next => exact h.elim
  case baload =>
    replace hd := hd.resolve_left (by simp [isNop])
    obtain rfl : len = 1 := nbq.mp hs
    unfold vi at h
    dsimp only at h
    split at h
    next j c r =>
      obtain ⟨h1, h2, h3, h4⟩ := arP_of h
      exact r_baload hd h1 h2 h3 (hkn rfl _ _ _ _ h4)
    next => exact h.elim
  case aaload =>
    replace hd := hd.resolve_left (by simp [isNop])
    obtain rfl : len = 1 := nbq.mp hs
    unfold vi at h
    dsimp only at h
    split at h
    next j c r =>
      obtain ⟨h1, h2, h3, h4⟩ := arP_of h
      exact r_aaload hd h1 h2 h3 (hkn rfl _ _ _ _ h4)
    next => exact h.elim
  case iastore =>
    replace hd := hd.resolve_left (by simp [isNop])
    obtain rfl : len = 1 := nbq.mp hs
    unfold vi at h
    dsimp only at h
    split at h
    next x j c r =>
      obtain ⟨h1, h2, h3, h4⟩ := arP_of h
      exact r_iastore hd h1 h2 h3 (hkn rfl _ _ _ _ h4)
    next => exact h.elim
  case bastore =>
    replace hd := hd.resolve_left (by simp [isNop])
    obtain rfl : len = 1 := nbq.mp hs
    unfold vi at h
    dsimp only at h
    split at h
    next x j c r =>
      obtain ⟨h1, h2, h3, h4, h5⟩ := arP_of h
      exact r_bastore hd h1 h2 h3 h4 (hkn rfl _ _ _ _ h5)
    next => exact h.elim
  case arraylength =>
    replace hd := hd.resolve_left (by simp [isNop])
    obtain rfl : len = 1 := nbq.mp hs
    unfold vi at h
    dsimp only at h
    split at h
    next c r =>
      split at h
      next hc =>
        obtain rfl := nbq.mp hc
        exact r_slen hd (hkn rfl _ _ _ _ h)
      next => exact h.elim
    next c r =>
      split at h
      next hc =>
        simp only [Bool.and_eq_true, Bool.or_eq_true, nbq, nbl] at hc
        exact r_alen hd hc.1 hc.2 (hkn rfl _ _ _ _ h)
      next => exact h.elim
    next c r _ _ => exact r_alen hd (Or.inl (Or.inl h.1.1)) h.1.2 (hkn rfl _ _ _ _ h.2)
    next => exact h.elim
  case dup =>
    replace hd := hd.resolve_left (by simp [isNop])
    obtain rfl : len = 1 := nbq.mp hs
    unfold vi at h
    dsimp only at h
    split at h
    next v r =>
      split at h
      next hc => exact r_dup hd (nbq.mp hc) (hkn rfl _ _ _ _ h)
      next => exact h.elim
    next => exact h.elim
  case pop =>
    replace hd := hd.resolve_left (by simp [isNop])
    obtain rfl : len = 1 := nbq.mp hs
    unfold vi at h
    dsimp only at h
    split at h
    next v r =>
      split at h
      next hc => exact r_pop hd (nbq.mp hc) (hkn rfl _ _ _ _ h)
      next => exact h.elim
    next => exact h.elim
  case dup2 =>
    replace hd := hd.resolve_left (by simp [isNop])
    obtain rfl : len = 1 := nbq.mp hs
    unfold vi at h
    dsimp only at h
    split at h
    next v w r =>
      split at h
      next hc =>
        simp only [Bool.and_eq_true, nbq] at hc
        exact r_dup2 hd hc.1 hc.2 (hkn rfl _ _ _ _ h)
      next => exact h.elim
    next => exact h.elim
  case ireturn =>
    replace hd := hd.resolve_left (by simp [isNop])
    unfold sdk at hs
    simp only [Bool.and_eq_true, nbq, decide_eq_true_eq] at hs
    obtain ⟨rfl, hs⟩ := hs
    unfold vi at h
    dsimp only at h
    split at h
    next x ht =>
      split at h
      next hz => exact r_ret (v := some (.int x)) ⟨hd, Or.inr ⟨(hs.resolve_right (fun q => by rw [hz] at q; cases q.1)).2, h.1⟩⟩ ht h.2
      next hz => exact r_ret (v := some (.int x)) ⟨hd, Or.inl (hs.resolve_left (fun q => by rw [hz] at q; cases q.1)).2⟩ ht h
    next => exact h.elim
  case lreturn =>
    replace hd := hd.resolve_left (by simp [isNop])
    unfold sdk at hs
    simp only [Bool.and_eq_true, nbq, decide_eq_true_eq] at hs
    obtain ⟨rfl, hs⟩ := hs
    unfold vi at h
    dsimp only at h
    split at h
    next x ht => exact r_ret (v := some (.long x)) ⟨hd, hs⟩ ht h
    next => exact h.elim
  case areturn =>
    replace hd := hd.resolve_left (by simp [isNop])
    unfold sdk at hs
    simp only [Bool.and_eq_true, nbq, decide_eq_true_eq] at hs
    obtain ⟨rfl, hs⟩ := hs
    unfold vi at h
    dsimp only at h
    split at h
    next x ht => exact r_ret (v := some (.ref x)) ⟨hd, hs⟩ ht h
    next => exact h.elim
  case return_ =>
    replace hd := hd.resolve_left (by simp [isNop])
    unfold sdk at hs
    simp only [Bool.and_eq_true, nbq, decide_eq_true_eq] at hs
    obtain ⟨rfl, hs⟩ := hs
    unfold vi at h
    dsimp only at h
    split at h
    next ht => exact r_ret (v := none) ⟨hd, hs⟩ ht h
    next => exact h.elim
  case invokevirtual idx =>
    replace hd := hd.resolve_left (by simp [isNop])
    unfold sdk at hs
    simp only [Bool.and_eq_true, nbq] at hs
    obtain ⟨rfl, hs⟩ := hs
    unfold vi at h
    dsimp only at h
    split at h
    next n rt dec =>
      simp only [Bool.and_eq_true, nbq, nbl, Bool.not_eq_true'] at hs
      obtain ⟨⟨⟨⟨⟨s1, s2⟩, s3⟩, s4⟩, s5⟩, s6⟩ := hs
      obtain ⟨j1, j2, j3, j4, j5, j6, j7, j8⟩ := jc_of (j := a) (by omega)
      rw [s3] at j2
      have hl := mOk_of s1
      split at h
      next o r hdr =>
        split at h
        next hc =>
          simp only [Bool.and_eq_true, nbq, nbl] at hc
          obtain ⟨⟨⟨c1, c2⟩, c3⟩, c4⟩ := hc
          have hst : st = (st.take n).reverse.reverse ++ .ref o :: r := by rw [List.reverse_reverse, ← hdr, List.take_append_drop]
          have hlen : (st.take n).reverse.length = na a := by rw [List.length_reverse, List.length_take]; omega
          split at h
          next =>
            obtain ⟨d1, d2⟩ := ivk_of h
            rw [hst]
            refine r_invV (e1 := e - dec) hd j1 hl j2 (j3 s3 s4) j7 c1 c2 s4 (j8 s4) (by omega) hlen c3 (wpc_mono (fun v M1 hK hmr => ?_) d2)
            obtain ⟨mi, ml, mr⟩ := M1
            cases v with
            | none => dsimp only at hmr; subst hmr; exact hkn rfl _ _ _ _ hK
            | some w => exact hK.elim
          next =>
            obtain ⟨d1, d2⟩ := ivk_of h
            rw [hst]
            refine r_invV (e1 := e - dec) hd j1 hl j2 (j3 s3 s4) j7 c1 c2 s4 (j8 s4) (by omega) hlen c3 (wpc_mono (fun v M1 hK hmr => ?_) d2)
            obtain ⟨mi, ml, mr⟩ := M1
            cases v with
            | none => exact hK.elim
            | some w => cases w <;> first | exact False.elim hK | (dsimp only at hmr; subst hmr; exact hkn rfl _ _ _ _ hK)
          next =>
            obtain ⟨d1, d2⟩ := ivk_of h
            rw [hst]
            refine r_invV (e1 := e - dec) hd j1 hl j2 (j3 s3 s4) j7 c1 c2 s4 (j8 s4) (by omega) hlen c3 (wpc_mono (fun v M1 hK hmr => ?_) d2)
            obtain ⟨mi, ml, mr⟩ := M1
            cases v with
            | none => exact hK.elim
            | some w => cases w <;> first | exact False.elim hK | (dsimp only at hmr; subst hmr; exact hkn rfl _ _ _ _ hK)
          next =>
            obtain ⟨d1, d2⟩ := ivk_of h
            rw [hst]
            refine r_invV (e1 := e - dec) hd j1 hl j2 (j3 s3 s4) j7 c1 c2 s4 (j8 s4) (by omega) hlen c3 (wpc_mono (fun v M1 hK hmr => ?_) d2)
            obtain ⟨mi, ml, mr⟩ := M1
            cases v with
            | none => exact hK.elim
            | some w => cases w <;> first | exact False.elim hK | (dsimp only at hmr; subst hmr; exact hkn rfl _ _ _ _ hK)
          next => exact h.elim
        next => exact h.elim
      next => exact h.elim
    next =>
      split at h
      next c r =>
        split at h
        next hcr => exact r_strlen hd hs (nbl.mp hcr) h.1.1 h.1.2 (hkn rfl _ _ _ _ h.2)
        next => exact h.elim
      next => exact h.elim
    next =>
      split at h
      next j c r =>
        split at h
        next hcr => exact r_charAt hd hs (nbl.mp hcr) h.1.1 h.1.2 h.2.1 (hkn rfl _ _ _ _ h.2.2)
        next => exact h.elim
      next => exact h.elim
    next => exact h.elim
  case invokestatic idx =>
    replace hd := hd.resolve_left (by simp [isNop])
    unfold sdk at hs
    simp only [Bool.and_eq_true, nbq] at hs
    obtain ⟨rfl, hs⟩ := hs
    unfold vi at h
    dsimp only at h
    split at h
    next n rt dec =>
      simp only [Bool.and_eq_true, nbq, nbl, Bool.not_eq_true'] at hs
      obtain ⟨⟨⟨⟨⟨s1, s2⟩, s3⟩, s4⟩, s5⟩, s6⟩ := hs
      obtain ⟨j1, j2, j3, j4, j5, j6, j7, j8⟩ := jc_of (j := a) (by omega)
      rw [s3] at j2
      have hl := mOk_of s1
      split at h
      next hc =>
        simp only [Bool.and_eq_true, nbl] at hc
        have hst : st = (st.take n).reverse.reverse ++ st.drop n := by rw [List.reverse_reverse, List.take_append_drop]
        have hlen : (st.take n).reverse.length = na a := by rw [List.length_reverse, List.length_take]; omega
        split at h
        next =>
          rw [hst]
          refine r_invS (e1 := e) hd j1 hl j2 s4 (j8 s4) (by omega) hlen hc.1 (wpc_mono (fun v M1 hK hmr => ?_) h)
          obtain ⟨mi, ml, mr⟩ := M1
          cases v with
          | none => dsimp only at hmr; subst hmr; exact hkn rfl _ _ _ _ hK
          | some w => exact hK.elim
        next =>
          rw [hst]
          refine r_invS (e1 := e) hd j1 hl j2 s4 (j8 s4) (by omega) hlen hc.1 (wpc_mono (fun v M1 hK hmr => ?_) h)
          obtain ⟨mi, ml, mr⟩ := M1
          cases v with
          | none => exact hK.elim
          | some w => cases w <;> first | exact False.elim hK | (dsimp only at hmr; subst hmr; exact hkn rfl _ _ _ _ hK)
        next =>
          rw [hst]
          refine r_invS (e1 := e) hd j1 hl j2 s4 (j8 s4) (by omega) hlen hc.1 (wpc_mono (fun v M1 hK hmr => ?_) h)
          obtain ⟨mi, ml, mr⟩ := M1
          cases v with
          | none => exact hK.elim
          | some w => cases w <;> first | exact False.elim hK | (dsimp only at hmr; subst hmr; exact hkn rfl _ _ _ _ hK)
        next => exact h.elim
      next => exact h.elim
    next =>
      simp only [Bool.and_eq_true, decide_eq_true_eq, nbl] at hs
      split at h
      next y x r =>
        split at h
        next hc => exact r_min hd hs.1 hs.2 (nbl.mp hc) (hkn rfl _ _ _ _ h)
        next => exact h.elim
      next => exact h.elim
    next =>
      simp only [Bool.and_eq_true, decide_eq_true_eq, nbq, nbl] at hs
      obtain ⟨⟨rfl, s2⟩, s3⟩ := hs
      split at h
      next n dp c1 sp c0 r =>
        split at h
        next hc =>
          obtain ⟨⟨⟨a1, a2⟩, a3, a4⟩, ⟨b1, b2, b3, b4, b5⟩, h9⟩ := h
          exact r_copy hd s2 a1 a2 a3 a4 b1 b2 b3 b4 b5 s3 (nbl.mp hc) (hkn rfl _ _ _ _ h9)
        next => exact h.elim
      next => exact h.elim
    next => exact h.elim
  case invokespecial idx =>
    replace hd := hd.resolve_left (by simp [isNop])
    unfold sdk at hs
    simp only [Bool.and_eq_true, nbq] at hs
    obtain ⟨rfl, hs⟩ := hs
    unfold vi at h
    dsimp only at h
    split at h
    next n rt dec =>
      simp only [Bool.and_eq_true, nbq, nbl, Bool.not_eq_true', Bool.or_eq_true, decide_eq_true_eq] at hs
      obtain ⟨⟨⟨⟨⟨⟨s1, s2⟩, s3⟩, s4⟩, s5⟩, s6⟩, s7⟩ := hs
      obtain ⟨j1, j2, j3, j4, j5, j6, j7, j8⟩ := jc_of (j := a) (by omega)
      rw [s3] at j2
      split at h
      next o r hdr =>
        split at h
        next hc =>
          have hst : st = (st.take n).reverse.reverse ++ .ref o :: r := by rw [List.reverse_reverse, ← hdr, List.take_append_drop]
          have hlen2 : n < st.length := by
            rcases Nat.lt_or_ge n st.length with q | q
            · exact q
            · rw [List.drop_eq_nil_of_le q] at hdr; cases hdr
          have hlen : (st.take n).reverse.length = na a := by rw [List.length_reverse, List.length_take]; omega
          obtain ⟨⟨a1, a2⟩, h9⟩ := h
          rw [hst]
          rcases s1 with s1 | ⟨⟨rfl, s8⟩, s9⟩
          · exact r_invI hd j1 (mOk_of s1) j2 (j4 s4).1 (j4 s4).2 s5 a1 a2 (by omega) hlen (nbl.mp hc) h9
          · exact r_invIN hd s8 s9 j1 j2 (j4 s4).1 (j4 s4).2 s5 a1 a2 (by omega) hlen (nbl.mp hc) h9
        next => exact h.elim
      next => exact h.elim
    next =>
      simp only [Bool.and_eq_true, nbl] at hs
      split at h
      next o r =>
        split at h
        next hc => exact r_objInit hd (oOk hs.1) hs.2 (nbl.mp hc) (hkn rfl _ _ _ _ h)
        next => exact h.elim
      next => exact h.elim
    next => exact h.elim
  case new idx =>
    replace hd := hd.resolve_left (by simp [isNop])
    unfold sdk at hs
    simp only [Bool.and_eq_true, nbq] at hs
    obtain ⟨rfl, hs⟩ := hs
    unfold vi at h
    dsimp only at h
    split at h
    next hc =>
      simp only [Bool.and_eq_true, nbq, nbl] at hc
      obtain ⟨⟨⟨c1, c2⟩, c3⟩, c4⟩ := hc
      obtain ⟨n1, n2, n3, n4⟩ := nOk hs
      exact r_new hd n1 c2 n2 n3 n4 c1 c3 c4 (hkn rfl _ _ _ _ h)
    next => exact h.elim
  case newarray ty =>
    replace hd := hd.resolve_left (by simp [isNop])
    obtain rfl : len = 2 := nbq.mp hs
    unfold vi at h
    dsimp only at h
    split at h
    next n r =>
      split at h
      next hc =>
        simp only [Bool.and_eq_true, nbl] at hc
        obtain ⟨⟨⟨c1, c2⟩, c3⟩, c4⟩ := hc
        obtain ⟨rfl, h9⟩ := h
        cases ty <;> first | exact r_newarrayI hd (nbq.mp c2) c1 c3 c4 (hkn rfl _ _ _ _ h9) | exact r_newarrayZ hd (nbq.mp c2) c1 c3 c4 (hkn rfl _ _ _ _ h9) | exact absurd (show false = true from c2) Bool.false_ne_true
      next => exact h.elim
    next => exact h.elim
  case multianewarray idx d =>
    replace hd := hd.resolve_left (by simp [isNop])
    unfold sdk at hs
    simp only [Bool.and_eq_true, nbq] at hs
    obtain ⟨⟨rfl, rfl⟩, hs⟩ := hs
    unfold vi at h
    dsimp only at h
    split at h
    next k n r =>
      split at h
      next hc =>
        simp only [Bool.and_eq_true, nbq, nbl] at hc
        obtain ⟨⟨⟨⟨⟨c1, c2⟩, c3⟩, c4⟩, c5⟩, c6⟩ := hc
        obtain ⟨⟨rfl, rfl⟩, h9⟩ := h
        have hrow : ∀ j, j < an t.1 → ak (t.1 + 1 + j) = 11 ∧ an (t.1 + 1 + j) = an (t.1 + 1) := fun j hj => by
          have := List.all_eq_true.mp c6 j (List.mem_range.mpr hj)
          simp only [Bool.and_eq_true, nbq] at this
          exact this
        exact r_mna hd (xOk hs) c2 c3 hrow c1 c4 c5 (rows_next c2) (hkn rfl _ _ _ _ h9)
      next => exact h.elim
    next => exact h.elim
  all_goals exact False.elim h
theorem sfx_head {i tg : Nat} {x : RI} {rs : List RI} (h : sfx i tg = x :: rs) : x.1 = tg := by
  have h1 : (cd i).dropWhile (fun x => x.1 != tg) = x :: rs := h
  have h2 := List.head?_dropWhile_not (fun x : RI => x.1 != tg) (cd i)
  rw [h1] at h2
  simpa using h2
theorem vc_sound0 {G : GC} {e i : Nat} (hi : i < 272) {Q : Option Value → Mem → Prop} : ∀ (f : Nat) {x : RI} {rs : List RI} {t : T3} {l : LV} {st : List Value} {M : Mem}, chkL i (x :: rs) = true → vc G e i Q f (x :: rs) t l st M → wp G e t i x.1 l st M Q
  | 0, _, _, _, _, _, _, _, h => False.elim h
  | f + 1, x, rs, t, l, st, M, hc, h => by
    have hc0 := hc
    unfold chkL at hc
    simp only [Bool.and_eq_true] at hc
    obtain ⟨⟨h1, h2⟩, h3⟩ := hc
    refine vi_sound (len := x.2.1) (kn := vc G e i Q f rs) (kj := fun tg => vc G e i Q f (sfx i tg)) h1 (fun hf t l st M hk => ?_) (fun tg t l st M hk => ?_) h
    · unfold nxt at h2
      rw [hf] at h2
      cases rs with
      | nil => simp at h2
      | cons y ys =>
        simp at h2
        rw [← h2]
        exact vc_sound0 hi f h3 hk
    · cases hs : sfx i tg with
      | nil => 
        rw [hs] at hk
        cases f <;> exact False.elim hk
      | cons y ys =>
        rw [hs] at hk
        have hy := sfx_head hs
        rw [← hy]
        refine vc_sound0 hi f ?_ hk
        rw [← hs]
        exact chkL_drop _ (ck_all hi)
/-- a block of the method i, from the mark at pc -/
theorem vc_at {G : GC} {e i pc : Nat} {Q : Option Value → Mem → Prop} {t : T3} {l : LV} {st : List Value} {M : Mem} (f : Nat) (hi : i < 272) {x : RI} {rs : List RI} (hs : sfx i pc = x :: rs) (y : RI) (ys : List RI) (hr : rs = y :: ys) (hpc : y.1 = pc) (h : vc G e i Q f (y :: ys) t l st M) : wp G e t i pc l st M Q := by
  rw [← hpc]
  refine vc_sound0 hi f ?_ h
  rw [← hr]
  refine chkL_tail (x := x) ?_
  rw [← hs]
  exact chkL_drop _ (ck_all hi)
/-- a method from its entry -/
theorem vc_in {G : GC} {e j lb : Nat} {As : List Value} {M : Mem} {K : Option Value → Mem → Prop} (f : Nat) (hj : j < 271) (hs : Nat.ble (cats As) (nL j) = true) (x : RI) (rs : List RI) (hc : cd j = x :: rs) (h0 : x.1 = 0) (h : vc G e j K f (x :: rs) (lb, (alc j).1, (alc j).2) (lv_args 0 As) [] M) : wpc G e lb j As M K := by
  obtain ⟨j1, j2, j3, j4, j5, j6, j7, j8⟩ := jc_of hj
  refine wpc_of j6 (nbl.mp hs) rfl j5 (fun q => (j4 q).1) ?_
  have h9 := vc_sound0 (by omega) f (by rw [← hc]; exact ck_all (by omega)) h
  rw [h0] at h9
  exact h9
