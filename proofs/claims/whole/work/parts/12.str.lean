/-! the JDK's own methods over the String constants: length, charAt -/
def RJ0 : String := "java/lang/String"
def RJ1 : String := "java/lang/StringLatin1"
def RJ3 : String := "jdk/internal/util/Preconditions"
abbrev cJ0_length_8abf5 : ByteArray := prog_14_method_54_code
def yJ0_length_8abf5 : MethodName := ⟨RJ0, "length", "()I"⟩
theorem dJ0_length_8abf5_0 : decode cJ0_length_8abf5 0 = .ok (.aload_n 0, 1) := by decide +kernel
theorem dJ0_length_8abf5_1 : decode cJ0_length_8abf5 1 = .ok (.getfield 9, 3) := by decide +kernel
theorem dJ0_length_8abf5_4 : decode cJ0_length_8abf5 4 = .ok (.arraylength, 1) := by decide +kernel
theorem dJ0_length_8abf5_5 : decode cJ0_length_8abf5 5 = .ok (.aload_n 0, 1) := by decide +kernel
theorem dJ0_length_8abf5_6 : decode cJ0_length_8abf5 6 = .ok (.invokevirtual 335, 3) := by decide +kernel
theorem dJ0_length_8abf5_9 : decode cJ0_length_8abf5 9 = .ok (.ishr, 1) := by decide +kernel
theorem dJ0_length_8abf5_10 : decode cJ0_length_8abf5 10 = .ok (.ireturn, 1) := by decide +kernel
abbrev cJ0_charAt_5068e : ByteArray := prog_14_method_56_code
def yJ0_charAt_5068e : MethodName := ⟨RJ0, "charAt", "(I)C"⟩
theorem dJ0_charAt_5068e_0 : decode cJ0_charAt_5068e 0 = .ok (.aload_n 0, 1) := by decide +kernel
theorem dJ0_charAt_5068e_1 : decode cJ0_charAt_5068e 1 = .ok (.invokevirtual 492, 3) := by decide +kernel
theorem dJ0_charAt_5068e_4 : decode cJ0_charAt_5068e 4 = .ok (.ifCond .eq 12, 3) := by decide +kernel
theorem dJ0_charAt_5068e_7 : decode cJ0_charAt_5068e 7 = .ok (.aload_n 0, 1) := by decide +kernel
theorem dJ0_charAt_5068e_8 : decode cJ0_charAt_5068e 8 = .ok (.getfield 9, 3) := by decide +kernel
theorem dJ0_charAt_5068e_11 : decode cJ0_charAt_5068e 11 = .ok (.iload_n 1, 1) := by decide +kernel
theorem dJ0_charAt_5068e_12 : decode cJ0_charAt_5068e 12 = .ok (.invokestatic 495, 3) := by decide +kernel
theorem dJ0_charAt_5068e_15 : decode cJ0_charAt_5068e 15 = .ok (.ireturn, 1) := by decide +kernel
theorem dJ0_charAt_5068e_16 : decode cJ0_charAt_5068e 16 = .ok (.aload_n 0, 1) := by decide +kernel
theorem dJ0_charAt_5068e_17 : decode cJ0_charAt_5068e 17 = .ok (.getfield 9, 3) := by decide +kernel
theorem dJ0_charAt_5068e_20 : decode cJ0_charAt_5068e 20 = .ok (.iload_n 1, 1) := by decide +kernel
theorem dJ0_charAt_5068e_21 : decode cJ0_charAt_5068e 21 = .ok (.invokestatic 498, 3) := by decide +kernel
theorem dJ0_charAt_5068e_24 : decode cJ0_charAt_5068e 24 = .ok (.ireturn, 1) := by decide +kernel
abbrev cJ0_coder_7d493 : ByteArray := prog_14_method_152_code
def yJ0_coder_7d493 : MethodName := ⟨RJ0, "coder", "()B"⟩
theorem dJ0_coder_7d493_0 : decode cJ0_coder_7d493 0 = .ok (.getstatic 38, 3) := by decide +kernel
theorem dJ0_coder_7d493_3 : decode cJ0_coder_7d493 3 = .ok (.ifCond .eq 10, 3) := by decide +kernel
theorem dJ0_coder_7d493_6 : decode cJ0_coder_7d493 6 = .ok (.aload_n 0, 1) := by decide +kernel
theorem dJ0_coder_7d493_7 : decode cJ0_coder_7d493 7 = .ok (.getfield 15, 3) := by decide +kernel
theorem dJ0_coder_7d493_10 : decode cJ0_coder_7d493 10 = .ok (.goto 4, 3) := by decide +kernel
theorem dJ0_coder_7d493_13 : decode cJ0_coder_7d493 13 = .ok (.iconst 1, 1) := by decide +kernel
theorem dJ0_coder_7d493_14 : decode cJ0_coder_7d493 14 = .ok (.ireturn, 1) := by decide +kernel
abbrev cJ0_isLatin1_aae02 : ByteArray := prog_14_method_154_code
def yJ0_isLatin1_aae02 : MethodName := ⟨RJ0, "isLatin1", "()Z"⟩
theorem dJ0_isLatin1_aae02_0 : decode cJ0_isLatin1_aae02 0 = .ok (.getstatic 38, 3) := by decide +kernel
theorem dJ0_isLatin1_aae02_3 : decode cJ0_isLatin1_aae02 3 = .ok (.ifCond .eq 14, 3) := by decide +kernel
theorem dJ0_isLatin1_aae02_6 : decode cJ0_isLatin1_aae02 6 = .ok (.aload_n 0, 1) := by decide +kernel
theorem dJ0_isLatin1_aae02_7 : decode cJ0_isLatin1_aae02 7 = .ok (.getfield 15, 3) := by decide +kernel
theorem dJ0_isLatin1_aae02_10 : decode cJ0_isLatin1_aae02 10 = .ok (.ifCond .ne 7, 3) := by decide +kernel
theorem dJ0_isLatin1_aae02_13 : decode cJ0_isLatin1_aae02 13 = .ok (.iconst 1, 1) := by decide +kernel
theorem dJ0_isLatin1_aae02_14 : decode cJ0_isLatin1_aae02 14 = .ok (.goto 4, 3) := by decide +kernel
theorem dJ0_isLatin1_aae02_17 : decode cJ0_isLatin1_aae02 17 = .ok (.iconst 0, 1) := by decide +kernel
theorem dJ0_isLatin1_aae02_18 : decode cJ0_isLatin1_aae02 18 = .ok (.ireturn, 1) := by decide +kernel
abbrev cJ0_checkIndex_df160 : ByteArray := prog_14_method_155_code
def yJ0_checkIndex_df160 : MethodName := ⟨RJ0, "checkIndex", "(II)V"⟩
theorem dJ0_checkIndex_df160_0 : decode cJ0_checkIndex_df160 0 = .ok (.iload_n 0, 1) := by decide +kernel
theorem dJ0_checkIndex_df160_1 : decode cJ0_checkIndex_df160 1 = .ok (.iload_n 1, 1) := by decide +kernel
theorem dJ0_checkIndex_df160_2 : decode cJ0_checkIndex_df160 2 = .ok (.getstatic 1053, 3) := by decide +kernel
theorem dJ0_checkIndex_df160_5 : decode cJ0_checkIndex_df160 5 = .ok (.invokestatic 1059, 3) := by decide +kernel
theorem dJ0_checkIndex_df160_8 : decode cJ0_checkIndex_df160 8 = .ok (.pop, 1) := by decide +kernel
theorem dJ0_checkIndex_df160_9 : decode cJ0_checkIndex_df160 9 = .ok (.return_, 1) := by decide +kernel
abbrev cJ1_charAt_3b067 : ByteArray := prog_15_method_2_code
def yJ1_charAt_3b067 : MethodName := ⟨RJ1, "charAt", "([BI)C"⟩
theorem dJ1_charAt_3b067_0 : decode cJ1_charAt_3b067 0 = .ok (.iload_n 1, 1) := by decide +kernel
theorem dJ1_charAt_3b067_1 : decode cJ1_charAt_3b067 1 = .ok (.aload_n 0, 1) := by decide +kernel
theorem dJ1_charAt_3b067_2 : decode cJ1_charAt_3b067 2 = .ok (.arraylength, 1) := by decide +kernel
theorem dJ1_charAt_3b067_3 : decode cJ1_charAt_3b067 3 = .ok (.invokestatic 9, 3) := by decide +kernel
theorem dJ1_charAt_3b067_6 : decode cJ1_charAt_3b067 6 = .ok (.aload_n 0, 1) := by decide +kernel
theorem dJ1_charAt_3b067_7 : decode cJ1_charAt_3b067 7 = .ok (.iload_n 1, 1) := by decide +kernel
theorem dJ1_charAt_3b067_8 : decode cJ1_charAt_3b067 8 = .ok (.baload, 1) := by decide +kernel
theorem dJ1_charAt_3b067_9 : decode cJ1_charAt_3b067 9 = .ok (.sipush 255, 3) := by decide +kernel
theorem dJ1_charAt_3b067_12 : decode cJ1_charAt_3b067 12 = .ok (.iand, 1) := by decide +kernel
theorem dJ1_charAt_3b067_13 : decode cJ1_charAt_3b067 13 = .ok (.i2c, 1) := by decide +kernel
theorem dJ1_charAt_3b067_14 : decode cJ1_charAt_3b067 14 = .ok (.ireturn, 1) := by decide +kernel
abbrev cJ3_checkIndex_8e157 : ByteArray := prog_18_method_11_code
def yJ3_checkIndex_8e157 : MethodName := ⟨RJ3, "checkIndex", "(IILjava/util/function/BiFunction;)I"⟩
theorem dJ3_checkIndex_8e157_0 : decode cJ3_checkIndex_8e157 0 = .ok (.iload_n 0, 1) := by decide +kernel
theorem dJ3_checkIndex_8e157_1 : decode cJ3_checkIndex_8e157 1 = .ok (.ifCond .lt 8, 3) := by decide +kernel
theorem dJ3_checkIndex_8e157_4 : decode cJ3_checkIndex_8e157 4 = .ok (.iload_n 0, 1) := by decide +kernel
theorem dJ3_checkIndex_8e157_5 : decode cJ3_checkIndex_8e157 5 = .ok (.iload_n 1, 1) := by decide +kernel
theorem dJ3_checkIndex_8e157_6 : decode cJ3_checkIndex_8e157 6 = .ok (.if_icmp .lt 10, 3) := by decide +kernel
theorem dJ3_checkIndex_8e157_9 : decode cJ3_checkIndex_8e157 9 = .ok (.aload_n 2, 1) := by decide +kernel
theorem dJ3_checkIndex_8e157_10 : decode cJ3_checkIndex_8e157 10 = .ok (.iload_n 0, 1) := by decide +kernel
theorem dJ3_checkIndex_8e157_11 : decode cJ3_checkIndex_8e157 11 = .ok (.iload_n 1, 1) := by decide +kernel
theorem dJ3_checkIndex_8e157_12 : decode cJ3_checkIndex_8e157 12 = .ok (.invokestatic 95, 3) := by decide +kernel
theorem dJ3_checkIndex_8e157_15 : decode cJ3_checkIndex_8e157 15 = .ok (.athrow, 1) := by decide +kernel
theorem dJ3_checkIndex_8e157_16 : decode cJ3_checkIndex_8e157 16 = .ok (.iload_n 0, 1) := by decide +kernel
theorem dJ3_checkIndex_8e157_17 : decode cJ3_checkIndex_8e157 17 = .ok (.ireturn, 1) := by decide +kernel
section STRJ
variable {G : GC} {lch : Launch} {cur : Nat} {M : Mem}
def jM (G : GC) (lch : Launch) (cur : Nat) (M : Mem) (E : State → Prop) (y : MethodName) (cc : ByteArray) (ml : Nat) (ret : Option FieldType) (d : Nat) (As : List Value) (K : Option Value → Prop) : Prop :=
  Met lch y (Jvm.Cond.code y cc ml ret :: gdt) { frames := d, cells := 0, slots := 0, locals := 60 * d } (va_Pc As (fun U => Rel G cur M U.heap ∧ E U)) (fun _ _ o u => ∃ v : Option Value, o = .returned v ∧ K v ∧ Rel G cur M u.heap) 0 0 (fun q => gb G ≤ q)
def jC (E : State → Prop) (p : Program) (R : Room) (s : State) (m : MethodId) (args : Array Value) (meth : Method) (c : Code) (y : MethodName) (cc : ByteArray) (ml : Nat) (ret : Option FieldType) (d : Nat) : Prop :=
  CallFix p m c cc ml s args gdt y.cls ∧ meth.sig.returnType = ret ∧ meth.locks = false ∧ E s ∧ d ≤ R.frames ∧ 60 * d ≤ R.locals
theorem j_good {w0 : Jvm.Cond} (h : w0 ∈ gdt) : GoodIn gdt (w0 :: gdt) := by
  intro w hw
  have hm : w ∈ gdt := by
    rcases List.mem_cons.mp hw with rfl | q
    · exact h
    · exact q
  exact ⟨hm, good_of_word (List.mem_filter.mp hm).2⟩
theorem j_blind {E : State → Prop} {av : List Value} (hs : ∀ s U : State, U.vm = s.vm → E s → E U) : FrameBlind (va_Pc av (fun U => Rel G cur M U.heap ∧ E U)) := fun a U g mk q => by
  obtain ⟨q0, q1, q2⟩ := q
  exact ⟨q0, q1, hs U _ rfl q2⟩
theorem j_met {E : State → Prop} {y : MethodName} {cc : ByteArray} {ml d : Nat} {ret : Option FieldType} {As : List Value} {K : Option Value → Prop} (hp : plainName y.cls = true) (hs : (lg_sl As).length ≤ ml)
    (k : ∀ (p : Program) (e0 : Env) (R : Room) (s : State) (m : MethodId) (args : Array Value) (below : List Frame) (meth : Method) (c : Code) (ls : Array Slot), jC E p R s m args meth c y cc ml ret d → Rel G cur M s.heap → lv_has ls ml (lv_args 0 As) →
      W p lch e0 R s m args below meth c s.heap [] 0 0 (MQ below (fun _ _ o u => ∃ v : Option Value, o = .returned v ∧ K v ∧ Rel G cur M u.heap) args s 0 0 (fun q => gb G ≤ q)) (F0 m 0 ls [])) : jM G lch cur M E y cc ml ret d As K := by
  refine Met.ofW (cc := cc) (maxL := ml) (ret := ret) hp rfl ?_
  intro p e0 s m args below meth c s₁ B hml hv
  obtain ⟨rfl, hR, hE⟩ := hv
  have hts := atoms_spec (ws := Jvm.Cond.code y cc ml ret :: gdt) B.pre
  have hown : s.vm.findClass y.cls = some m.cls := findClass_of_methodNamed B.named
  have hl := lv_entry As (n := ml) hs
  rw [lg_entry_eq]
  exact k p e0 _ s m _ below meth c _ ⟨⟨B.exec, B.bytes, hml, hown, fun w hw => hts w (List.mem_cons_of_mem _ hw)⟩, B.returns, B.notSynchronized, hE, Nat.le_refl _, Nat.le_refl _⟩ hR hl
section JF
variable {p : Program} {e0 : Env} {R : Room} {s : State} {m : MethodId} {args : Array Value} {below : List Frame} {meth : Method} {c : Code} {H : Heap} {locs : List Loc} {cells slots : Nat} {Z : State → Prop} {ls : Array Slot} {pc idx n : Nat} {rest : List Value}
theorem j_back {st0 r : List Value} {K : Option Value → Prop} (hr : va_Run p lch e0 R s m args below meth c H locs cells slots 0 0 (F0 m pc ls st0) r (fun _ o u => ∃ v : Option Value, o = .returned v ∧ K v ∧ Rel G cur M u.heap) (fun q => gb G ≤ q))
    (hlo : ∀ z ∈ locs, gb G ≤ z.base) (kk : ∀ (v : Option Value) (H1 : Heap) (locs1 : List Loc), K v → Rel G cur M H1 → (∀ z ∈ locs1, gb G ≤ z.base) → W p lch e0 R s m args below meth c H1 locs1 cells slots Z (F0 m (pc + 3) ls (v.toList ++ r))) :
    W p lch e0 R s m args below meth c H locs cells slots Z (F0 m pc ls st0) := by
  intro T hT X
  obtain ⟨v, st₀, u, T', L, h0, X', hL, e1, e2, ⟨v1, hv, hK, hR1⟩, st⟩ := hr T hT X
  cases hv
  obtain ⟨t2, a1, b1⟩ := kk v T'.heap (locs ++ L) hK (by rw [e1]; exact hR1) (fun z hz => by
    rcases List.mem_append.mp hz with h | h
    · exact hlo z h
    · exact hL z h) T' rfl X'
  exact ⟨t2, st t2 a1, b1⟩
theorem j_S {E : State → Prop} {own : String} {cc cc2 : ByteArray} {ml ml2 d2 : Nat} {y2 : MethodName} {ret2 : Option FieldType} {As : List Value} {K : Option Value → Prop} (S : CallFix p m c cc ml s args gdt own) (hEs : ∀ s U : State, U.vm = s.vm → E s → E U) (hEw : ∀ U : State, s.WarmedH U.vm → E U) (hM : jM G lch cur M E y2 cc2 ml2 ret2 d2 As K)
    (hw : Jvm.Cond.code y2 cc2 ml2 ret2 ∈ gdt) (hi : Jvm.Cond.initialized y2.cls ∈ gdt) (hl : Jvm.Cond.methodLink own idx y2 ∈ gdt) (hst : Jvm.Cond.static y2 ∈ gdt)
    (hd2 : y2.cls ≠ "java/lang/invoke/MethodHandle" ∧ y2.cls ≠ "java/lang/invoke/VarHandle" ∧ (parseMethodDescriptor y2.desc).map (fun d => d.parameters.length) = some n) (hm2 : ml2 ≤ 10) (hfr : d2 + 1 ≤ R.frames) (hlo2 : 60 * (d2 + 1) ≤ R.locals)
    (hR : Rel G cur M H) (hlo : ∀ z ∈ locs, gb G ≤ z.base) (hls : ls.size = ml) (hn : As.length = n) (hcr : (rest.map fun v => v.category).sum ≤ 8) (hc1 : cells ≤ R.cells) (hc2 : slots ≤ R.slots) (hdg : decode cc pc = .ok (.invokestatic idx, 3))
    (kk : ∀ (v : Option Value) (H1 : Heap) (locs1 : List Loc), K v → Rel G cur M H1 → (∀ z ∈ locs1, gb G ≤ z.base) → W p lch e0 R s m args below meth c H1 locs1 cells slots Z (F0 m (pc + 3) ls (v.toList ++ rest))) :
    W p lch e0 R s m args below meth c H locs cells slots Z (F0 m pc ls (As.reverse ++ rest)) := by
  have hts := S.2.2.2.2
  have cb : CallB R s args own idx y2 cc2 ml2 ret2 (Jvm.Cond.code y2 cc2 ml2 ret2 :: gdt) { frames := d2, cells := 0, slots := 0, locals := 60 * d2 } 0 0 n := callB_of n hts (j_good hw) (ws' := gdt) rfl rfl rfl (hts _ hi) (hts _ hl) hd2 ⟨hfr, by show 8 + (ml2 + 11) + 60 * d2 ≤ _; omega⟩
  have hrun := va_runS (As := As) (rest := rest) (g := F0 m pc ls (As.reverse ++ rest)) (l := lch) (R := R) (e := e0) (below := below) (meth := meth) (H := H) (locs := locs) (cells := cells) (slots := slots) S hM ⟨cb, hts _ hst⟩ ⟨j_blind hEs, fun U hU hW => ⟨rfl, by rw [hU]; exact hR, hEw _ hW⟩⟩ rfl hn hls rfl (lv_room hcr) hdg ⟨hc1, hc2⟩
  exact j_back hrun hlo kk
theorem j_V {E : State → Prop} {own C : String} {cc cc2 : ByteArray} {ml ml2 d2 b : Nat} {y2 : MethodName} {ret2 : Option FieldType} {As : List Value} {K : Option Value → Prop} (S : CallFix p m c cc ml s args gdt own) (hEs : ∀ s U : State, U.vm = s.vm → E s → E U) (hEw : ∀ U : State, s.WarmedH U.vm → E U) (hM : jM G lch cur M E y2 cc2 ml2 ret2 d2 (.ref b :: As) K)
    (hw : Jvm.Cond.code y2 cc2 ml2 ret2 ∈ gdt) (hi : Jvm.Cond.initialized y2.cls ∈ gdt) (hl : Jvm.Cond.methodLink own idx y2 ∈ gdt) (hin : Jvm.Cond.instanceMethod y2 ∈ gdt) (hse : Jvm.Cond.selects C y2 y2 ∈ gdt)
    (hd2 : y2.cls ≠ "java/lang/invoke/MethodHandle" ∧ y2.cls ≠ "java/lang/invoke/VarHandle" ∧ (parseMethodDescriptor y2.desc).map (fun d => d.parameters.length) = some n) (hm2 : ml2 ≤ 10) (hfr : d2 + 1 ≤ R.frames) (hlo2 : 60 * (d2 + 1) ≤ R.locals)
    (hrc : ∃ cellB : Cell, H[b]? = some cellB ∧ cellB.vm.isStatics = false ∧ s.vm.findClass C = some cellB.cls)
    (hR : Rel G cur M H) (hlo : ∀ z ∈ locs, gb G ≤ z.base) (hls : ls.size = ml) (hn : As.length = n) (hcr : (rest.map fun v => v.category).sum ≤ 8) (hc1 : cells ≤ R.cells) (hc2 : slots ≤ R.slots) (hdg : decode cc pc = .ok (.invokevirtual idx, 3))
    (kk : ∀ (v : Option Value) (H1 : Heap) (locs1 : List Loc), K v → Rel G cur M H1 → (∀ z ∈ locs1, gb G ≤ z.base) → W p lch e0 R s m args below meth c H1 locs1 cells slots Z (F0 m (pc + 3) ls (v.toList ++ rest))) :
    W p lch e0 R s m args below meth c H locs cells slots Z (F0 m pc ls (As.reverse ++ .ref b :: rest)) := by
  have hts := S.2.2.2.2
  have cb : CallB R s args own idx y2 cc2 ml2 ret2 (Jvm.Cond.code y2 cc2 ml2 ret2 :: gdt) { frames := d2, cells := 0, slots := 0, locals := 60 * d2 } 0 0 n := callB_of n hts (j_good hw) (ws' := gdt) rfl rfl rfl (hts _ hi) (hts _ hl) hd2 ⟨hfr, by show 8 + (ml2 + 11) + 60 * d2 ≤ _; omega⟩
  have hrun := va_runV (As := As) (rest := rest) (g := F0 m pc ls (As.reverse ++ .ref b :: rest)) (b := b) (l := lch) (R := R) (e := e0) (below := below) (meth := meth) (H := H) (locs := locs) (cells := cells) (slots := slots) (C := C) S hM ⟨cb, hts _ hin, hts _ hse⟩ ⟨j_blind hEs, hrc, fun U hU hW => ⟨rfl, by rw [hU]; exact hR, hEw _ hW⟩⟩ rfl hn hls rfl (lv_room hcr) hdg ⟨hc1, hc2⟩
  exact j_back hrun hlo kk
theorem j_vS (h0 : Rel G cur M s.heap) (h : Rel G cur M H) (hlo : ∀ z ∈ locs, gb G ≤ z.base) : va_S (fun q => gb G ≤ q) s.heap H locs :=
  ⟨by rw [h0.1, h.1]; exact Nat.le_refl _, fun q _ hq => by rw [h.2.1 q (Nat.lt_of_not_le hq), h0.2.1 q (Nat.lt_of_not_le hq)], hlo⟩
theorem j_kp (h : Rel G cur M H) : ∀ a : Nat, a < (gH G).size → ¬ (fun q => gb G ≤ q) a → H[a]? = (gH G)[a]? := fun a _ ha => h.2.1 a (Nat.lt_of_not_le ha)
end JF
theorem sw_0 : gW 114 (.initialized "java/lang/String") = true := by decide +kernel
theorem sw_1 : gW 115 (.initialized "java/lang/StringLatin1") = true := by decide +kernel
theorem sw_2 : gW 116 (.initialized "jdk/internal/util/Preconditions") = true := by decide +kernel
theorem sw_3 : gW 717 (.methodLink RX4 169 yJ0_length_8abf5) = true := by decide +kernel
theorem sw_4 : gW 718 (.instanceMethod yJ0_length_8abf5) = true := by decide +kernel
theorem sw_5 : gW 719 (.selects RJ0 yJ0_length_8abf5 yJ0_length_8abf5) = true := by decide +kernel
theorem sw_6 : gW 721 (.methodLink RJ0 335 yJ0_coder_7d493) = true := by decide +kernel
theorem sw_7 : gW 722 (.instanceMethod yJ0_coder_7d493) = true := by decide +kernel
theorem sw_8 : gW 723 (.selects RJ0 yJ0_coder_7d493 yJ0_coder_7d493) = true := by decide +kernel
theorem sw_9 : gW 725 (.fieldLink RJ0 38 "java/lang/String" "COMPACT_STRINGS" "Z") = true := by decide +kernel
theorem sw_10 : gW 727 (.methodLink RX4 176 yJ0_charAt_5068e) = true := by decide +kernel
theorem sw_11 : gW 728 (.instanceMethod yJ0_charAt_5068e) = true := by decide +kernel
theorem sw_12 : gW 729 (.selects RJ0 yJ0_charAt_5068e yJ0_charAt_5068e) = true := by decide +kernel
theorem sw_13 : gW 731 (.methodLink RJ0 492 yJ0_isLatin1_aae02) = true := by decide +kernel
theorem sw_14 : gW 732 (.instanceMethod yJ0_isLatin1_aae02) = true := by decide +kernel
theorem sw_15 : gW 733 (.selects RJ0 yJ0_isLatin1_aae02 yJ0_isLatin1_aae02) = true := by decide +kernel
theorem sw_16 : gW 735 (.methodLink RJ0 495 yJ1_charAt_3b067) = true := by decide +kernel
theorem sw_17 : gW 736 (.static yJ1_charAt_3b067) = true := by decide +kernel
theorem sw_18 : gW 738 (.methodLink RJ1 9 yJ0_checkIndex_df160) = true := by decide +kernel
theorem sw_19 : gW 739 (.static yJ0_checkIndex_df160) = true := by decide +kernel
theorem sw_20 : gW 741 (.fieldLink RJ0 1053 "jdk/internal/util/Preconditions" "SIOOBE_FORMATTER" "Ljava/util/function/BiFunction;") = true := by decide +kernel
theorem sw_21 : gW 743 (.methodLink RJ0 1059 yJ3_checkIndex_8e157) = true := by decide +kernel
theorem sw_22 : gW 744 (.static yJ3_checkIndex_8e157) = true := by decide +kernel
theorem sw_23 : gW 1702 (.fieldLink RJ0 9 "java/lang/String" "value" "[B") = true := by decide +kernel
theorem sw_24 : gW 1703 (.fieldLink RJ0 15 "java/lang/String" "coder" "B") = true := by decide +kernel
theorem sc_mem {pos : Nat} {w : Jvm.Cond} (h : lw_tbl[pos]? = some w) (hg : goodWord w = true) : w ∈ gdt := List.mem_filter.mpr ⟨List.mem_of_getElem? h, hg⟩
set_option maxRecDepth 100000 in
theorem sq_619 : lw_tbl[720]? = some (Jvm.Cond.code yJ0_length_8abf5 cJ0_length_8abf5 1 (some .int)) := rfl
set_option maxRecDepth 100000 in
theorem sq_623 : lw_tbl[724]? = some (Jvm.Cond.code yJ0_coder_7d493 cJ0_coder_7d493 1 (some .byte)) := rfl
set_option maxRecDepth 100000 in
theorem sq_629 : lw_tbl[730]? = some (Jvm.Cond.code yJ0_charAt_5068e cJ0_charAt_5068e 2 (some .char)) := rfl
set_option maxRecDepth 100000 in
theorem sq_633 : lw_tbl[734]? = some (Jvm.Cond.code yJ0_isLatin1_aae02 cJ0_isLatin1_aae02 1 (some .boolean)) := rfl
set_option maxRecDepth 100000 in
theorem sq_636 : lw_tbl[737]? = some (Jvm.Cond.code yJ1_charAt_3b067 cJ1_charAt_3b067 2 (some .char)) := rfl
set_option maxRecDepth 100000 in
theorem sq_639 : lw_tbl[740]? = some (Jvm.Cond.code yJ0_checkIndex_df160 cJ0_checkIndex_df160 2 none) := rfl
set_option maxRecDepth 100000 in
theorem sq_644 : lw_tbl[745]? = some (Jvm.Cond.code yJ3_checkIndex_8e157 cJ3_checkIndex_8e157 3 (some .int)) := rfl
theorem sd_V {y : MethodName} {n : Nat} (h : decide (y.cls ≠ "java/lang/invoke/MethodHandle" ∧ y.cls ≠ "java/lang/invoke/VarHandle" ∧ (parseMethodDescriptor y.desc).map (fun d => d.parameters.length) = some n) = true) : y.cls ≠ "java/lang/invoke/MethodHandle" ∧ y.cls ≠ "java/lang/invoke/VarHandle" ∧ (parseMethodDescriptor y.desc).map (fun d => d.parameters.length) = some n := of_decide_eq_true h
/-- Preconditions.checkIndex -/
theorem j_pre {j k : Int32} {f : Value} (hf : (lg_sl [f]).length = 1 ∧ f.category = 1) (h1 : ¬ j < 0) (h2 : j < k) : jM G lch cur M (EF G) yJ3_checkIndex_8e157 cJ3_checkIndex_8e157 3 (some .int) 0 [.int j, .int k, f] (fun v => v = some (.int j)) := by
  refine j_met (by decide +kernel) (by
    have h := hf.2
    simp [lg_sl, h]
    simp [Value.category]) ?_
  intro p e0 R s m args below meth c ls C hR hl
  obtain ⟨⟨hx, hb, hml, hown, hts⟩, hret, hlocks, hE, hfr, hlo⟩ := C
  have l0 := hl.2.2 (0, .int j) (by simp [lv_args])
  have l1 := hl.2.2 (1, .int k) (by simp [lv_args, Value.category])
  refine lv_iload_n hx hb dJ3_checkIndex_8e157_0 rfl l0 (lv_if_lt hx hb dJ3_checkIndex_8e157_1 (tgt := 9) rfl (fun q => absurd q h1) (fun _ => ?_))
  refine lv_iload_n hx hb dJ3_checkIndex_8e157_4 rfl l0 (lv_iload_n hx hb dJ3_checkIndex_8e157_5 rfl l1 (lv_icmp_lt hx hb dJ3_checkIndex_8e157_6 (tgt := 16) rfl (fun _ => ?_) (fun q => absurd h2 q)))
  refine lv_iload_n hx hb dJ3_checkIndex_8e157_16 rfl l0 ?_
  exact W.iret hx hb hret (fun t ht _ => ⟨_, rfl, rfl, by rw [ht]; exact hR⟩) (fun q hq => by cases hq) dJ3_checkIndex_8e157_17
/-- String.checkIndex -/
theorem j_chk {j k : Int32} (h1 : ¬ j < 0) (h2 : j < k) : jM G lch cur M (EF G) yJ0_checkIndex_df160 cJ0_checkIndex_df160 2 none 1 [.int j, .int k] (fun v => v = none) := by
  refine j_met (by decide +kernel) (by simp [lg_sl, Value.category]) ?_
  intro p e0 R s m args below meth c ls C hR hl
  have hC := C
  obtain ⟨⟨hx, hb, hml, hown, hts⟩, hret, hlocks, hE, hfr, hlo⟩ := C
  have l0 := hl.2.2 (0, .int j) (by simp [lv_args])
  have l1 := hl.2.2 (1, .int k) (by simp [lv_args, Value.category])
  have hq : ∃ f : Value, ((lg_sl [f]).length = 1 ∧ f.category = 1) ∧ va_Z "jdk/internal/util/Preconditions" "SIOOBE_FORMATTER" "Ljava/util/function/BiFunction;" f (fun q => gb G ≤ q) s (gH G) := by
    rcases hE.2.2.2.2.1.2.2.2.2.2 with h | ⟨t, h⟩
    · exact ⟨.null, ⟨rfl, rfl⟩, h⟩
    · exact ⟨.ref t, ⟨rfl, rfl⟩, h⟩
  obtain ⟨f, hf, hz⟩ := hq
  refine lv_iload_n hx hb dJ0_checkIndex_df160_0 rfl l0 (lv_iload_n hx hb dJ0_checkIndex_df160_1 rfl l1 ?_)
  refine va_gets hx hb (hz.kept (j_kp hR)) (j_vS hR hR (fun z hz => by cases hz)) hown (hts _ (gW_mem sw_20)) (fun _ q => q) dJ0_checkIndex_df160_2 ?_
  refine j_S (As := [.int j, .int k, f]) (rest := []) (n := 3) hC.1 (fun _ _ h q => q.same h) (fun _ hW => hE.warm hW) (j_pre hf h1 h2) (sc_mem sq_644 rfl) (gW_mem sw_2) (gW_mem sw_21) (gW_mem sw_22) (sd_V (by decide +kernel)) (by decide) (by omega) (by omega) hR (fun z hz => by cases hz) hl.1 rfl (Nat.zero_le _) (Nat.zero_le _) (Nat.zero_le _) dJ0_checkIndex_df160_5 ?_
  intro v H1 locs1 hv hR1 hlo1
  subst hv
  refine lv_pop hx hb dJ0_checkIndex_df160_8 rfl ?_
  exact W.vret hx hb hret (fun t ht _ => ⟨_, rfl, rfl, by rw [ht]; exact hR1⟩) hlo1 dJ0_checkIndex_df160_9
/-- String.coder, isLatin1: the text i -/
theorem j_cod {A : Nat} (hq : ∀ s : State, EF G s → va_OF "java/lang/String" "coder" "B" (.int 0) A (fun q => gb G ≤ q) s (gH G)) : jM G lch cur M (EF G) yJ0_coder_7d493 cJ0_coder_7d493 1 (some .byte) 0 [.ref A] (fun v => v = some (.int 0)) := by
  refine j_met (by decide +kernel) (by simp [lg_sl, Value.category]) ?_
  intro p e0 R s m args below meth c ls C hR hl
  obtain ⟨⟨hx, hb, hml, hown, hts⟩, hret, hlocks, hE, hfr, hlo⟩ := C
  have l0 := hl.2.2 (0, .ref A) (by simp [lv_args])
  have hS := j_vS hR hR (locs := []) (fun z hz => by cases hz)
  refine va_gets hx hb (hE.2.2.2.2.1.2.2.2.2.1.kept (j_kp hR)) hS hown (hts _ (gW_mem sw_9)) (fun _ q => q) dJ0_coder_7d493_0 ?_
  refine lv_if_eq hx hb dJ0_coder_7d493_3 (tgt := 13) rfl (fun q => absurd q (by decide)) (fun _ => ?_)
  refine lv_aload_n hx hb dJ0_coder_7d493_6 rfl l0 ?_
  refine vk_getf hx hb ((hq s hE).kept (j_kp hR)) hS hown (hts _ (gW_mem sw_24)) (fun _ q => q) dJ0_coder_7d493_7 ?_
  refine lv_goto hx hb dJ0_coder_7d493_10 (tgt := 14) rfl ?_
  exact W.zret hx hb hret (by decide) (fun t ht _ => ⟨_, rfl, rfl, by rw [ht]; exact hR⟩) (fun q hq => by cases hq) dJ0_coder_7d493_14
theorem j_lat {A : Nat} (hq : ∀ s : State, EF G s → va_OF "java/lang/String" "coder" "B" (.int 0) A (fun q => gb G ≤ q) s (gH G)) : jM G lch cur M (EF G) yJ0_isLatin1_aae02 cJ0_isLatin1_aae02 1 (some .boolean) 0 [.ref A] (fun v => v = some (.int 1)) := by
  refine j_met (by decide +kernel) (by simp [lg_sl, Value.category]) ?_
  intro p e0 R s m args below meth c ls C hR hl
  obtain ⟨⟨hx, hb, hml, hown, hts⟩, hret, hlocks, hE, hfr, hlo⟩ := C
  have l0 := hl.2.2 (0, .ref A) (by simp [lv_args])
  have hS := j_vS hR hR (locs := []) (fun z hz => by cases hz)
  refine va_gets hx hb (hE.2.2.2.2.1.2.2.2.2.1.kept (j_kp hR)) hS hown (hts _ (gW_mem sw_9)) (fun _ q => q) dJ0_isLatin1_aae02_0 ?_
  refine lv_if_eq hx hb dJ0_isLatin1_aae02_3 (tgt := 17) rfl (fun q => absurd q (by decide)) (fun _ => ?_)
  refine lv_aload_n hx hb dJ0_isLatin1_aae02_6 rfl l0 ?_
  refine vk_getf hx hb ((hq s hE).kept (j_kp hR)) hS hown (hts _ (gW_mem sw_24)) (fun _ q => q) dJ0_isLatin1_aae02_7 ?_
  refine lv_if_ne hx hb dJ0_isLatin1_aae02_10 (tgt := 17) rfl (fun q => absurd rfl q) (fun _ => ?_)
  refine lv_iconst (v := 1) hx hb dJ0_isLatin1_aae02_13 rfl ?_
  refine lv_goto hx hb dJ0_isLatin1_aae02_14 (tgt := 18) rfl ?_
  exact W.zret hx hb hret (by decide) (fun t ht _ => ⟨_, rfl, rfl, by rw [ht]; exact hR⟩) (fun q hq => by cases hq) dJ0_isLatin1_aae02_18
theorem ix_lt {j : Int32} {N : Nat} (h : vp_in j N) (hN : N < 2 ^ 31) : ¬ j < 0 ∧ j < nI N := by
  have h0 : ¬ j < 0 := fun q => h (Or.inl q)
  have h1 : j.toNatClampNeg < N := Nat.not_le.mp fun q => h (Or.inr q)
  refine ⟨h0, ?_⟩
  have e : j = nI j.toNatClampNeg := by
    obtain ⟨n, hn, rfl⟩ := nI_of h0
    rw [nI_clamp hn]
  rw [e]
  exact nI_lt h1 hN
def sLn : List Nat := [6, 3, 1]
theorem str_ok : ∀ i, i < 3 → sLn.getD i 0 = (strB.getD i []).length ∧ sLn.getD i 0 < 2 ^ 31 ∧ nI (sLn.getD i 0) >>> ((0 : Int32) &&& 31) = nI (sLn.getD i 0) ∧ ∀ j, j < (strB.getD i []).length → (((strB.getD i []).getD j 0 &&& 255).toUInt32 % 65536).toInt32 = (strB.getD i []).getD j 0 ∧ narrow .char (.int ((strB.getD i []).getD j 0)) = .int ((strB.getD i []).getD j 0) := by decide +kernel
/-- the text i's bytes lie at A -/
def EFT (G : GC) (A i : Nat) (s : State) : Prop := EF G s ∧ va_T .byte A (sLn.getD i 0) (fun j => .int ((strB.getD i []).getD j 0)) (fun q => gb G ≤ q) s (gH G)
theorem EFT.same {A i : Nat} (s U : State) (hv : U.vm = s.vm) (h : EFT G A i s) : EFT G A i U := ⟨h.1.same hv, h.2.moved (by rw [hv]; exact Vm.Alike.refl _)⟩
theorem EFT.warm {A i : Nat} {s U : State} (h : EFT G A i s) (hW : s.WarmedH U.vm) : EFT G A i U := ⟨h.1.warm hW, h.2.moved hW.alike⟩
/-- StringLatin1.charAt -/
theorem j_lch {A i : Nat} {j : Int32} (hi : i < 3) (hj : vp_in j (sLn.getD i 0)) :
    jM G lch cur M (EFT G A i) yJ1_charAt_3b067 cJ1_charAt_3b067 2 (some .char) 2 [.ref A, .int j] (fun v => v = some (.int ((strB.getD i []).getD (ix j) 0))) := by
  refine j_met (by decide +kernel) (by simp [lg_sl, Value.category]) ?_
  intro p e0 R s m args below meth c ls C hR hl
  have hC := C
  obtain ⟨⟨hx, hb, hml, hown, hts⟩, hret, hlocks, ⟨hE, hq⟩, hfr, hlo⟩ := C
  have l0 := hl.2.2 (0, .ref A) (by simp [lv_args])
  have l1 := hl.2.2 (1, .int j) (by simp [lv_args, Value.category])
  have hS := j_vS hR hR (locs := []) (fun z hz => by cases hz)
  obtain ⟨s1, s2, s3, s4⟩ := str_ok i hi
  obtain ⟨b1, b2⟩ := ix_lt hj s2
  have hlt : ix j < (strB.getD i []).length := by rw [← s1]; exact Nat.not_le.mp fun q => hj (Or.inr q)
  obtain ⟨s5, s6⟩ := s4 _ hlt
  refine lv_iload_n hx hb dJ1_charAt_3b067_0 rfl l1 (lv_aload_n hx hb dJ1_charAt_3b067_1 rfl l0 ?_)
  refine va_tlen (v := nI (sLn.getD i 0)) hx hb (hq.kept (j_kp hR)) hS rfl dJ1_charAt_3b067_2 ?_
  refine j_S (As := [.int j, .int (nI (sLn.getD i 0))]) (rest := []) (n := 2) hC.1 (fun _ _ h q => q.same h) (fun _ hW => hE.warm hW) (j_chk b1 b2) (sc_mem sq_639 rfl) (gW_mem sw_0) (gW_mem sw_18) (gW_mem sw_19) (sd_V (by decide +kernel)) (by decide) (by omega) (by omega) hR (fun z hz => by cases hz) hl.1 rfl (Nat.zero_le _) (Nat.zero_le _) (Nat.zero_le _) dJ1_charAt_3b067_3 ?_
  intro v H1 locs1 hv hR1 hlo1
  subst hv
  refine lv_aload_n hx hb dJ1_charAt_3b067_6 rfl l0 (lv_iload_n hx hb dJ1_charAt_3b067_7 rfl l1 ?_)
  refine va_tb hx hb (hq.kept (j_kp hR)) (j_vS hR hR1 hlo1) hj rfl dJ1_charAt_3b067_8 ?_
  refine lv_sipush (v := 255) hx hb dJ1_charAt_3b067_9 rfl (lv_iand hx hb dJ1_charAt_3b067_12 (lv_i2c hx hb dJ1_charAt_3b067_13 s5 ?_))
  exact W.zret hx hb hret s6 (fun t ht _ => ⟨_, rfl, rfl, by rw [ht]; exact hR1⟩) hlo1 dJ1_charAt_3b067_14
/-- what is known of the text i -/
theorem EF.txt {s : State} (hE : EF G s) : ∃ adV : Nat → Nat, vk_S 3 sLn strB (fun i => gsp G (i + 1)) adV (fun q => gb G ≤ q) s (gH G) := hE.2.2.2.2.1.2.2.2.1
theorem EF.cod {s : State} {i : Nat} (hi : i < 3) (hE : EF G s) : va_OF "java/lang/String" "coder" "B" (.int 0) (gsp G (i + 1)) (fun q => gb G ≤ q) s (gH G) := by
  obtain ⟨adV, h⟩ := hE.txt
  exact (h.1 i hi).2.1
theorem EF.rcv {s : State} {i : Nat} {H : Heap} (hi : i < 3) (hE : EF G s) (hR : Rel G cur M H) : ∃ cell : Cell, H[gsp G (i + 1)]? = some cell ∧ cell.vm.isStatics = false ∧ s.vm.findClass "java/lang/String" = some cell.cls := by
  obtain ⟨adV, h⟩ := hE.txt
  obtain ⟨cell, h1, h2, h3, -⟩ := (h.1 i hi).1.kept (j_kp hR)
  exact ⟨cell, h1, h2, h3⟩
/-- String.length -/
theorem j_len {i : Nat} (hi : i < 3) : jM G lch cur M (EF G) yJ0_length_8abf5 cJ0_length_8abf5 1 (some .int) 1 [.ref (gsp G (i + 1))] (fun v => v = some (.int (nI (sLn.getD i 0)))) := by
  refine j_met (by decide +kernel) (by simp [lg_sl, Value.category]) ?_
  intro p e0 R s m args below meth c ls C hR hl
  have hC := C
  obtain ⟨⟨hx, hb, hml, hown, hts⟩, hret, hlocks, hE, hfr, hlo⟩ := C
  have l0 := hl.2.2 (0, .ref (gsp G (i + 1))) (by simp [lv_args])
  have hS := j_vS hR hR (locs := []) (fun z hz => by cases hz)
  obtain ⟨s1, s2, s3, s4⟩ := str_ok i hi
  obtain ⟨adV, hT⟩ := hE.txt
  obtain ⟨t1, t2, t3, t4⟩ := hT.1 i hi
  refine lv_aload_n hx hb dJ0_length_8abf5_0 rfl l0 ?_
  refine vk_getf hx hb (t3.kept (j_kp hR)) hS hown (hts _ (gW_mem sw_23)) (fun _ q => q) dJ0_length_8abf5_1 ?_
  refine va_tlen (v := nI (sLn.getD i 0)) hx hb (t4.kept (j_kp hR)) hS rfl dJ0_length_8abf5_4 ?_
  refine lv_aload_n hx hb dJ0_length_8abf5_5 rfl l0 ?_
  refine j_V (As := []) (C := "java/lang/String") (rest := [.int (nI (sLn.getD i 0))]) (n := 0) hC.1 (fun _ _ h q => q.same h) (fun _ hW => hE.warm hW) (j_cod (fun s h => h.cod hi)) (sc_mem sq_623 rfl) (gW_mem sw_0) (gW_mem sw_6) (gW_mem sw_7) (gW_mem sw_8) (sd_V (by decide +kernel)) (by decide) (by omega) (by omega) (hE.rcv hi hR) hR (fun z hz => by cases hz) hl.1 rfl (by simp [Value.category]) (Nat.zero_le _) (Nat.zero_le _) dJ0_length_8abf5_6 ?_
  intro v H1 locs1 hv hR1 hlo1
  subst hv
  refine lv_ishr hx hb dJ0_length_8abf5_9 ?_
  rw [s3]
  exact W.iret hx hb hret (fun t ht _ => ⟨_, rfl, rfl, by rw [ht]; exact hR1⟩) hlo1 dJ0_length_8abf5_10
/-- String.charAt -/
theorem j_cha {i : Nat} {j : Int32} (hi : i < 3) (hj : vp_in j (sLn.getD i 0)) : jM G lch cur M (EF G) yJ0_charAt_5068e cJ0_charAt_5068e 2 (some .char) 3 [.ref (gsp G (i + 1)), .int j] (fun v => v = some (.int ((strB.getD i []).getD (ix j) 0))) := by
  refine j_met (by decide +kernel) (by simp [lg_sl, Value.category]) ?_
  intro p e0 R s m args below meth c ls C hR hl
  have hC := C
  obtain ⟨⟨hx, hb, hml, hown, hts⟩, hret, hlocks, hE, hfr, hlo⟩ := C
  have l0 := hl.2.2 (0, .ref (gsp G (i + 1))) (by simp [lv_args])
  have l1 := hl.2.2 (1, .int j) (by simp [lv_args, Value.category])
  obtain ⟨s1, s2, s3, s4⟩ := str_ok i hi
  have hlt : ix j < (strB.getD i []).length := by rw [← s1]; exact Nat.not_le.mp fun q => hj (Or.inr q)
  obtain ⟨s5, s6⟩ := s4 _ hlt
  obtain ⟨adV, hT⟩ := hE.txt
  obtain ⟨t1, t2, t3, t4⟩ := hT.1 i hi
  refine lv_aload_n hx hb dJ0_charAt_5068e_0 rfl l0 ?_
  refine j_V (As := []) (C := "java/lang/String") (rest := []) (n := 0) hC.1 (fun _ _ h q => q.same h) (fun _ hW => hE.warm hW) (j_lat (fun s h => h.cod hi)) (sc_mem sq_633 rfl) (gW_mem sw_0) (gW_mem sw_13) (gW_mem sw_14) (gW_mem sw_15) (sd_V (by decide +kernel)) (by decide) (by omega) (by omega) (hE.rcv hi hR) hR (fun z hz => by cases hz) hl.1 rfl (Nat.zero_le _) (Nat.zero_le _) (Nat.zero_le _) dJ0_charAt_5068e_1 ?_
  intro v H1 locs1 hv hR1 hlo1
  subst hv
  refine lv_if_eq hx hb dJ0_charAt_5068e_4 (tgt := 16) rfl (fun q => absurd q (by decide)) (fun _ => ?_)
  refine lv_aload_n hx hb dJ0_charAt_5068e_7 rfl l0 ?_
  refine vk_getf hx hb (t3.kept (j_kp hR)) (j_vS hR hR1 hlo1) hown (hts _ (gW_mem sw_23)) (fun _ q => q) dJ0_charAt_5068e_8 ?_
  refine lv_iload_n hx hb dJ0_charAt_5068e_11 rfl l1 ?_
  have hEt : EFT G (adV i) i s := ⟨hE, t4⟩
  refine j_S (As := [.ref (adV i), .int j]) (rest := []) (n := 2) hC.1 EFT.same (fun _ hW => hEt.warm hW) (j_lch hi hj) (sc_mem sq_636 rfl) (gW_mem sw_1) (gW_mem sw_16) (gW_mem sw_17) (sd_V (by decide +kernel)) (by decide) (by omega) (by omega) hR1 hlo1 hl.1 rfl (Nat.zero_le _) (Nat.zero_le _) (Nat.zero_le _) dJ0_charAt_5068e_12 ?_
  intro v H2 locs2 hv hR2 hlo2
  subst hv
  exact W.zret hx hb hret s6 (fun t ht _ => ⟨_, rfl, rfl, by rw [ht]; exact hR2⟩) hlo2 dJ0_charAt_5068e_15
theorem adr_txt {i : Nat} : adr G (SP + (i + 1)) = gsp G (i + 1) := by
  unfold adr
  rw [if_neg (by omega), Nat.add_sub_cancel_left]
theorem sp_txt {c : Nat} (h1 : SP < c) (h2 : c < SP + 4) : ∃ i, i < 3 ∧ c = SP + (i + 1) := ⟨c - SP - 1, by omega, by omega⟩
/-- text constants: how long, what stands at a place -/
theorem r_strlen {G : GC} {e i pc idx c : Nat} {t : T3} {l : LV} {r : List Value} {M : Mem} {Q : Option Value → Mem → Prop} (hd : decode (bC i) pc = .ok (.invokevirtual idx, 3)) (hs : (Nat.beq idx 169 && decide (ow i = "PowersForTimes$Reader") && Nat.ble 5 (dep i)) = true) (hcr : cats r ≤ 8) (h1 : SP < c) (h2 : c < SP + 4) (k1 : wp G e t i (pc + 3) l (.int (nI (slen c)) :: r) M Q) : wp G e t i pc l (.ref c :: r) M Q := by
  intro p lch e0 R s m args below meth cc H locs cells slots Z ls mc ms cur C hc hR hlo hl g1 g2 g3 g4 hF
  obtain ⟨hx0, hb, hml, hown, hts, hret, hlocks, hini, hE, hfr, hlo2⟩ := id C
  simp only [Bool.and_eq_true, nbq, nbl, decide_eq_true_eq] at hs
  obtain ⟨⟨rfl, how⟩, hdp⟩ := hs
  obtain ⟨a, ha, rfl⟩ := sp_txt h1 h2
  obtain ⟨s1, s2, s3, s4⟩ := str_ok a ha
  have hst : lst G (.ref (SP + (a + 1)) :: r) = .ref (gsp G (a + 1)) :: lst G r := by
    show Value.ref (adr G (SP + (a + 1))) :: _ = _
    rw [adr_txt]
    rfl
  rw [hst]
  refine j_V (As := []) (C := "java/lang/String") (rest := lst G r) (n := 0) (own := ow i) ⟨hx0, hb, hml, hown, hts⟩ (fun _ _ h q => q.same h) (fun _ hW => hE.warm hW) (j_len ha) (sc_mem sq_619 rfl) (gW_mem sw_0) (by rw [how]; exact gW_mem sw_3) (gW_mem sw_4) (gW_mem sw_5) (sd_V (by decide +kernel)) (by decide) (by omega) (by omega) (hE.rcv ha hR) hR hlo hl.1 rfl (by rw [cats_lst]; exact hcr) (by omega) (by omega) hd ?_
  intro v H1 locs1 hv hR1 hlo1
  subst hv
  have e0' : SP + (a + 1) - SP - 1 = a := by omega
  have e1 : slen (SP + (a + 1)) = sLn.getD a 0 := by
    unfold slen
    rw [s1, e0']
  have := k1 p lch e0 R s m args below meth cc H1 locs1 cells slots Z ls mc ms cur C hc hR1 hlo1 hl g1 g2 g3 g4 hF
  rw [e1] at this
  exact this
theorem r_charAt {G : GC} {e i pc idx c : Nat} {t : T3} {l : LV} {r : List Value} {M : Mem} {Q : Option Value → Mem → Prop} {j : Int32} (hd : decode (bC i) pc = .ok (.invokevirtual idx, 3)) (hs : (Nat.beq idx 176 && decide (ow i = "PowersForTimes$Reader") && Nat.ble 5 (dep i)) = true) (hcr : cats r ≤ 8) (h1 : SP < c) (h2 : c < SP + 4) (h3 : vp_in j (slen c)) (k1 : wp G e t i (pc + 3) l (.int (schr c (ix j)) :: r) M Q) : wp G e t i pc l (.int j :: .ref c :: r) M Q := by
  intro p lch e0 R s m args below meth cc H locs cells slots Z ls mc ms cur C hc hR hlo hl g1 g2 g3 g4 hF
  obtain ⟨hx0, hb, hml, hown, hts, hret, hlocks, hini, hE, hfr, hlo2⟩ := id C
  simp only [Bool.and_eq_true, nbq, nbl, decide_eq_true_eq] at hs
  obtain ⟨⟨rfl, how⟩, hdp⟩ := hs
  obtain ⟨a, ha, rfl⟩ := sp_txt h1 h2
  obtain ⟨s1, s2, s3, s4⟩ := str_ok a ha
  have e0' : SP + (a + 1) - SP - 1 = a := by omega
  have e1 : slen (SP + (a + 1)) = sLn.getD a 0 := by
    unfold slen
    rw [s1, e0']
  have e2 : schr (SP + (a + 1)) (ix j) = (strB.getD a []).getD (ix j) 0 := by
    unfold schr
    rw [e0']
  rw [e1] at h3
  have hst : lst G (.int j :: .ref (SP + (a + 1)) :: r) = .int j :: .ref (gsp G (a + 1)) :: lst G r := by
    show Value.int j :: Value.ref (adr G (SP + (a + 1))) :: _ = _
    rw [adr_txt]
    rfl
  rw [hst]
  refine j_V (As := [.int j]) (C := "java/lang/String") (rest := lst G r) (n := 1) (own := ow i) ⟨hx0, hb, hml, hown, hts⟩ (fun _ _ h q => q.same h) (fun _ hW => hE.warm hW) (j_cha ha h3) (sc_mem sq_629 rfl) (gW_mem sw_0) (by rw [how]; exact gW_mem sw_10) (gW_mem sw_11) (gW_mem sw_12) (sd_V (by decide +kernel)) (by decide) (by omega) (by omega) (hE.rcv ha hR) hR hlo hl.1 rfl (by rw [cats_lst]; exact hcr) (by omega) (by omega) hd ?_
  intro v H1 locs1 hv hR1 hlo1
  subst hv
  have := k1 p lch e0 R s m args below meth cc H1 locs1 cells slots Z ls mc ms cur C hc hR1 hlo1 hl g1 g2 g3 g4 hF
  rw [e2] at this
  exact this
end STRJ
