/-! what the text of a method must pass, and: 'vc' says enough -/
theorem nbq {a b : Nat} : Nat.beq a b = true ↔ a = b := ⟨Nat.eq_of_beq_eq_true, fun h => by rw [h]; exact Nat.beq_refl b⟩
theorem nbl {a b : Nat} : Nat.ble a b = true ↔ a ≤ b := ⟨Nat.le_of_ble_eq_true, Nat.ble_eq_true_of_le⟩
def inT5 (T : List (Nat × Nat × Nat × Nat × Nat)) (o idx a b : Nat) : Bool := T.any (fun x => Nat.beq x.1 o && Nat.beq x.2.1 idx && Nat.beq x.2.2.1 a && Nat.beq x.2.2.2.1 b)
def gW (pos : Nat) (w : Jvm.Cond) : Bool := decide (lw_tbl[pos]? = some w) && goodWord w
theorem gW_mem {pos : Nat} {w : Jvm.Cond} (h : gW pos w = true) : w ∈ gdt := by
  unfold gW at h
  simp only [Bool.and_eq_true, decide_eq_true_eq] at h
  exact List.mem_filter.mpr ⟨List.mem_of_getElem? h.1, h.2⟩
theorem fT_ok : fT.all (fun x => gW x.2.2.2.2 (.fieldLink (RN.getD x.1 "") x.2.1 (vwd x.2.2.1).1 ((vwd x.2.2.1).2.1 x.2.2.2.1).2.1 ((vwd x.2.2.1).2.1 x.2.2.2.1).2.2.1) && Nat.ble (x.2.2.1 + 1) 11 && Nat.ble (x.2.2.2.1 + 1) (vwd x.2.2.1).2.2) = true := by decide +kernel
theorem mT_ok : mT.all (fun x => Nat.beq x.2.2.2.2 1 || gW x.2.2.2.1 (.methodLink (RN.getD x.1 "") x.2.1 (yM x.2.2.1))) = true := by decide +kernel
theorem oT_ok : oT.all (fun x => gW x.2.2 (.methodLink (RN.getD x.1 "") x.2.1 objectInit)) = true := by decide +kernel
theorem xT_ok : xT.all (fun x => gW x.2.2 (.classLink (RN.getD x.1 "") x.2.1 ("[" ++ (FieldType.array .int).toString))) = true := by decide +kernel
theorem nT_ok : nT.all (fun x => gW x.2.2.2 (.classLink (RN.getD x.1 "") x.2.1 (vwd x.2.2.1).1) && Nat.ble (x.2.2.1 + 1) 11) = true := by decide +kernel
theorem cT_ok : (List.range 11).all (fun c => gW (cT.getD c (0, 0)).1 (.instantiable (vwd c).1 (vwd c).2.2) && gW (cT.getD c (0, 0)).2 (.initialized (vwd c).1)) = true := by decide +kernel
def jchk (j : Nat) : Bool :=
  let q := jT.getD j (0, 0, 0, 0)
  gW q.2.1 (.initialized (yM j).cls) && decide ((yM j).cls ≠ "java/lang/invoke/MethodHandle" ∧ (yM j).cls ≠ "java/lang/invoke/VarHandle" ∧ (parseMethodDescriptor (yM j).desc).map (fun d => d.parameters.length) = some (na j)) && Nat.ble (nL j) 30 &&
  (if stt j then gW q.2.2.1 (.static (yM j)) else gW q.2.2.1 (.instanceMethod (yM j))) && (stt j || mx j || gW q.2.2.2 (.selects (ow j) (yM j) (yM j))) && (!(mx j) || decide ((yM j).name = "<init>" ∧ rT j = none)) && decide ((yM j).cls = ow j) && plainName (yM j).cls && Nat.ble (oC j + 1) 11 && (mx j || decide (alc j = (0, 0)))
def cwP (j : Nat) : Prop := lw_tbl[(jT.getD j (0, 0, 0, 0)).1]? = some (Jvm.Cond.code (yM j) (bC j) (nL j) (rT j))
theorem oOk {i idx : Nat} (h : oT.any (fun x => Nat.beq x.1 (oC i) && Nat.beq x.2.1 idx) = true) : Jvm.Cond.methodLink (ow i) idx objectInit ∈ gdt := by
  obtain ⟨x, hx, h⟩ := List.any_eq_true.mp h
  simp only [Bool.and_eq_true, nbq] at h
  have := gW_mem (List.all_eq_true.mp oT_ok x hx)
  rw [h.1, h.2] at this
  exact this
theorem fOk_of {i idx a b : Nat} (h : inT5 fT (oC i) idx a b = true) : fOk i idx a b := by
  obtain ⟨x, hx, h⟩ := List.any_eq_true.mp h
  simp only [Bool.and_eq_true, nbq] at h
  obtain ⟨⟨⟨e1, e2⟩, e3⟩, e4⟩ := h
  have := List.all_eq_true.mp fT_ok x hx
  simp only [Bool.and_eq_true] at this
  obtain ⟨⟨h1, h2⟩, h3⟩ := this
  rw [e3, e4] at h3
  rw [e3] at h2
  have h4 := gW_mem h1
  rw [e1, e2, e3, e4] at h4
  exact ⟨Nat.le_of_ble_eq_true h2, Nat.le_of_ble_eq_true h3, h4⟩
theorem mOk_of {i idx a : Nat} (h2 : mT.any (fun x => Nat.beq x.1 (oC i) && Nat.beq x.2.1 idx && Nat.beq x.2.2.1 a && Nat.beq x.2.2.2.2 0) = true) : Jvm.Cond.methodLink (ow i) idx (yM a) ∈ gdt := by
  obtain ⟨x, hx, h⟩ := List.any_eq_true.mp h2
  simp only [Bool.and_eq_true, nbq] at h
  obtain ⟨⟨⟨e1, e2⟩, e3⟩, e4⟩ := h
  have := List.all_eq_true.mp mT_ok x hx
  rw [Bool.or_eq_true] at this
  rcases this with q | q
  · rw [e4] at q; cases q
  · have h4 := gW_mem q
    rw [e1, e2, e3] at h4
    exact h4
def mIn (i idx a : Nat) : Bool := mT.any (fun x => Nat.beq x.1 (oC i) && Nat.beq x.2.1 idx && Nat.beq x.2.2.1 a && Nat.beq x.2.2.2.2 0)
/-- what is asked of an instruction's text -/
def sdk (i pc len : Nat) (I : Instr) (a b : Nat) (tb : List Nat) : Bool := match I with
  | .nop => Nat.beq len 0
  | .aload _ | .iload _ | .lload _ => Nat.beq len 2
  | .aload_n _ | .iload_n _ | .lload_n _ => Nat.beq len 1
  | .astore k | .istore k => Nat.beq len 2 && Nat.ble (k + 1) (nL i)
  | .astore_n k | .istore_n k => Nat.beq len 1 && Nat.ble (k.val + 1) (nL i)
  | .lstore k => Nat.beq len 2 && Nat.ble (k + 2) (nL i)
  | .lstore_n k => Nat.beq len 1 && Nat.ble (k.val + 2) (nL i)
  | .iconst _ | .lconst _ => Nat.beq len 1
  | .bipush n => Nat.beq len 2 && decide ((Int8.ofInt n).toInt32 = ic n)
  | .sipush n => Nat.beq len 3 && decide ((Int16.ofInt n).toInt32 = ic n)
  | .ldc2_w idx => Nat.beq len 3 && decide (Jvm.Cond.constantLong (ow i) idx (lN a) ∈ gdt)
  | .ldc idx => Nat.beq len 2 && (match b with
    | 0 => decide (ow i = "PowersForTimes$Reader" ∧ ((idx = 94 ∧ a = 1) ∨ (idx = 100 ∧ a = 2) ∨ (idx = 126 ∧ a = 3)))
    | _ => decide (Jvm.Cond.constant (ow i) idx (nI a) ∈ gdt))
  | .iadd | .isub | .imul | .idiv | .irem | .iand | .ixor | .iushr | .ishr | .ladd | .lmul | .ldiv | .lshl | .lor | .lcmp | .i2l | .l2i | .dup | .dup2 | .pop | .iaload | .baload | .aaload | .iastore | .bastore | .arraylength => Nat.beq len 1
  | .goto off => Nat.beq len 3 && decide ((pc : Int) + off = (a : Int))
  | .if_icmp _ off => Nat.beq len 3 && decide ((pc : Int) + off = (a : Int))
  | .ifCond _ off => Nat.beq len 3 && decide ((pc : Int) + off = (a : Int))
  | .tableswitch d lo hi offs => tswOk pc a tb d lo hi offs
  | .lookupswitch d ps => lswOk pc a tb d ps
  | .iinc k _ => Nat.beq len 3 && Nat.ble (k + 1) (nL i)
  | .getfield idx => Nat.beq len 3 && inT5 fT (oC i) idx a b
  | .putfield idx => Nat.beq len 3 && inT5 fT (oC i) idx a b && (!ffi a b || Nat.beq (oC i) a) && (!Nat.beq (fty a b) 2 || mx i)
  | .ireturn => Nat.beq len 1 && decide ((rz i = true ∧ rT i = some .boolean) ∨ (rz i = false ∧ rT i = some .int))
  | .lreturn => Nat.beq len 1 && decide (rT i = some .long)
  | .areturn => Nat.beq len 1 && decide (rT i = some (.array .int))
  | .return_ => Nat.beq len 1 && decide (rT i = none)
  | .invokevirtual idx => Nat.beq len 3 && (match tb with
    | [n, _, dec] => mIn i idx a && Nat.beq n (na a) && !stt a && !mx a && Nat.ble (dep a + 1) (dep i + dec) && Nat.ble (a + 1) 271
    | [3] => Nat.beq idx 169 && decide (ow i = "PowersForTimes$Reader") && Nat.ble 5 (dep i)
    | [4] => Nat.beq idx 176 && decide (ow i = "PowersForTimes$Reader") && Nat.ble 5 (dep i)
    | _ => false)
  | .invokestatic idx => Nat.beq len 3 && (match tb with
    | [n, _, _] => mIn i idx a && Nat.beq n (na a) && stt a && !mx a && Nat.ble (dep a + 1) (dep i) && Nat.ble (a + 1) 271
    | [1] => decide ((ow i = RX4 ∧ idx = 71) ∨ (ow i = RX7 ∧ idx = 41)) && Nat.ble 1 (dep i)
    | [2] => Nat.beq idx 178 && decide (ow i = RX9) && Nat.ble 1 (dep i)
    | _ => false)
  | .invokespecial idx => Nat.beq len 3 && (match tb with
    | [n, _, _] => (mIn i idx a || (Nat.beq idx 70 && decide (ow i = RX9) && decide (yM a = yX6_init))) && Nat.beq n (na a) && !stt a && mx a && mx i && Nat.ble (dep a + 1) (dep i) && Nat.ble (a + 1) 271
    | [] => oT.any (fun x => Nat.beq x.1 (oC i) && Nat.beq x.2.1 idx) && Nat.ble 1 (dep i)
    | _ => false)
  | .new idx => Nat.beq len 3 && nT.any (fun x => Nat.beq x.1 (oC i) && Nat.beq x.2.1 idx && Nat.beq x.2.2.1 a)
  | .newarray _ => Nat.beq len 2
  | .multianewarray idx d => Nat.beq len 4 && Nat.beq d 2 && xT.any (fun x => Nat.beq x.1 (oC i) && Nat.beq x.2.1 idx)
  | _ => false
/-- does it go on to the next one -/
def falls (I : Instr) : Bool := match I with
  | .goto _ | .ireturn | .lreturn | .areturn | .return_ | .tableswitch _ _ _ _ | .lookupswitch _ _ => false
  | _ => true
def isNop (I : Instr) : Bool := match I with
  | .nop => true
  | _ => false
def chk1 (i : Nat) (x : RI) : Bool := (isNop x.2.2.1 || decide (decode (bC i) x.1 = .ok (x.2.2.1, x.2.1))) && sdk i x.1 x.2.1 x.2.2.1 x.2.2.2.1 x.2.2.2.2.1 x.2.2.2.2.2
def nxt (x : RI) (rs : List RI) : Bool := !falls x.2.2.1 || (match rs with
  | [] => false
  | y :: _ => Nat.beq y.1 (x.1 + x.2.1))
def chN : List RI → Bool
  | [] => true
  | x :: rs => nxt x rs && chN rs
def chkL (i : Nat) : List RI → Bool
  | [] => true
  | x :: rs => chk1 i x && nxt x rs && chkL i rs
theorem chkL_tail {i : Nat} {x : RI} {rs : List RI} (h : chkL i (x :: rs) = true) : chkL i rs = true := by
  unfold chkL at h
  simp only [Bool.and_eq_true] at h
  exact h.2
theorem chkL_drop {i : Nat} (p : RI → Bool) : ∀ {is : List RI}, chkL i is = true → chkL i (is.dropWhile p) = true
  | [], h => h
  | x :: rs, h => by
    rw [List.dropWhile_cons]
    split
    · exact chkL_drop p (chkL_tail h)
    · exact h
