/-! rules of 'wp', an instruction each: what needs no memory -/
theorem lget_mem {l : LV} {i : Nat} {v : Value} (h : lget l i = some v) : (i, v) ∈ l := by
  unfold lget at h
  cases hf : l.find? (fun q => q.1 == i) with
  | none => rw [hf] at h; cases h
  | some q =>
    rw [hf] at h
    have h1 := List.find?_some hf
    have h2 := List.mem_of_find?_eq_some hf
    simp at h h1
    rw [← h, ← h1]
    exact h2
theorem lfl_mem {G : GC} {l : LV} {i : Nat} {v : Value} (h : (i, v) ∈ l) : (i, lf G v) ∈ lfl G l := List.mem_map.mpr ⟨(i, v), h, rfl⟩
theorem lv_lget {G : GC} {l : LV} {ls : Array Slot} {n i : Nat} {v : Value} (hl : lv_has ls n (lfl G l)) (h : lget l i = some v) : ls[i]? = some (.val (lf G v)) := hl.2.2 (i, lf G v) (lfl_mem (lget_mem h))
theorem lfl_put {G : GC} {l : LV} {i : Nat} {v : Value} : (i, lf G v) :: (lfl G l).filter (fun q => !(q.1 == i) && !(q.1 + 1 == i && q.2.category == 2)) = lfl G (lput l i v) := by
  unfold lfl lput
  rw [List.map_cons, List.filter_map]
  congr 3
  funext q
  simp [lf_cat]
theorem lfl_put2 {G : GC} {l : LV} {i : Nat} {v : Value} : (i, lf G v) :: (lfl G l).filter (fun q => !(q.1 == i) && (!(q.1 == i + 1) && !(q.1 + 1 == i && q.2.category == 2))) = lfl G (lput2 l i v) := by
  unfold lfl lput2
  rw [List.map_cons, List.filter_map]
  congr 3
  funext q
  simp [lf_cat]
theorem pick_mem {l : LV} : ∀ {js : List Nat} {q : Nat × Value}, q ∈ pick l js → q ∈ l
  | [], q, h => by cases h
  | j :: js, q, h => by
    unfold pick at h
    split at h
    next v hv =>
      rcases List.mem_cons.mp h with rfl | h
      · exact lget_mem hv
      · exact pick_mem h
    next => exact pick_mem h
theorem ic_of (n : Int) : Int32.ofInt n = ic n := by
  cases n with
  | ofNat n => rfl
  | negSucc n =>
    show Int32.ofInt (Int.negSucc n) = -(nI (n + 1))
    unfold nI
    rw [Int.negSucc_eq, Int32.ofInt_neg]
    congr 1
theorem wp_of {G : GC} {e i pc pc2 : Nat} {t : T3} {l : LV} {st st2 : List Value} {M : Mem} {Q : Option Value → Mem → Prop}
    (h : ∀ (p : Program) (lch : Launch) (e0 : Env) (R : Room) (s : State) (m : MethodId) (args : Array Value) (below : List Frame) (meth : Method) (c : Code) (H : Heap) (locs : List Loc) (cells slots : Nat) (Z : State → Prop) (ls : Array Slot),
      Ctx G e i p R s m args meth c → lv_has ls (nL i) (lfl G l) → W p lch e0 R s m args below meth c H locs cells slots Z (F0 m pc2 ls (lst G st2)) → W p lch e0 R s m args below meth c H locs cells slots Z (F0 m pc ls (lst G st)))
    (k : wp G e t i pc2 l st2 M Q) : wp G e t i pc l st M Q :=
  fun p lch e0 R s m args below meth c H locs cells slots Z ls mc ms cur C hc hR hlo hl h1 h2 h3 h4 hF => h p lch e0 R s m args below meth c H locs cells slots Z ls C hl (k p lch e0 R s m args below meth c H locs cells slots Z ls mc ms cur C hc hR hlo hl h1 h2 h3 h4 hF)
theorem wp_br {G : GC} {e i pc pc2 pc3 : Nat} {t : T3} {l : LV} {st st2 st3 : List Value} {M : Mem} {Q : Option Value → Mem → Prop} {A B : Prop}
    (h : ∀ (p : Program) (lch : Launch) (e0 : Env) (R : Room) (s : State) (m : MethodId) (args : Array Value) (below : List Frame) (meth : Method) (c : Code) (H : Heap) (locs : List Loc) (cells slots : Nat) (Z : State → Prop) (ls : Array Slot),
      Ctx G e i p R s m args meth c → (A → W p lch e0 R s m args below meth c H locs cells slots Z (F0 m pc2 ls (lst G st2))) → (B → W p lch e0 R s m args below meth c H locs cells slots Z (F0 m pc3 ls (lst G st3))) → W p lch e0 R s m args below meth c H locs cells slots Z (F0 m pc ls (lst G st)))
    (k : A → wp G e t i pc2 l st2 M Q) (k2 : B → wp G e t i pc3 l st3 M Q) : wp G e t i pc l st M Q :=
  fun p lch e0 R s m args below meth c H locs cells slots Z ls mc ms cur C hc hR hlo hl h1 h2 h3 h4 hF => h p lch e0 R s m args below meth c H locs cells slots Z ls C (fun a => k a p lch e0 R s m args below meth c H locs cells slots Z ls mc ms cur C hc hR hlo hl h1 h2 h3 h4 hF) (fun a => k2 a p lch e0 R s m args below meth c H locs cells slots Z ls mc ms cur C hc hR hlo hl h1 h2 h3 h4 hF)
theorem wp_st {G : GC} {e i pc pc2 : Nat} {t : T3} {l l2 : LV} {st st2 : List Value} {M : Mem} {Q : Option Value → Mem → Prop}
    (h : ∀ (p : Program) (lch : Launch) (e0 : Env) (R : Room) (s : State) (m : MethodId) (args : Array Value) (below : List Frame) (meth : Method) (c : Code) (H : Heap) (locs : List Loc) (cells slots : Nat) (Z : State → Prop) (ls : Array Slot),
      Ctx G e i p R s m args meth c → lv_has ls (nL i) (lfl G l) → (∀ ls2 : Array Slot, lv_has ls2 (nL i) (lfl G l2) → W p lch e0 R s m args below meth c H locs cells slots Z (F0 m pc2 ls2 (lst G st2))) → W p lch e0 R s m args below meth c H locs cells slots Z (F0 m pc ls (lst G st)))
    (k : wp G e t i pc2 l2 st2 M Q) : wp G e t i pc l st M Q :=
  fun p lch e0 R s m args below meth c H locs cells slots Z ls mc ms cur C hc hR hlo hl h1 h2 h3 h4 hF => h p lch e0 R s m args below meth c H locs cells slots Z ls C hl (fun ls2 hl2 => k p lch e0 R s m args below meth c H locs cells slots Z ls2 mc ms cur C hc hR hlo hl2 h1 h2 h3 h4 hF)
theorem wp_sub {G : GC} {e i pc : Nat} {t : T3} {l l2 : LV} {st : List Value} {M : Mem} {Q : Option Value → Mem → Prop} (h : ∀ q ∈ l2, q ∈ l) (k : wp G e t i pc l2 st M Q) : wp G e t i pc l st M Q :=
  fun p lch e0 R s m args below meth c H locs cells slots Z ls mc ms cur C hc hR hlo hl h1 h2 h3 h4 hF => k p lch e0 R s m args below meth c H locs cells slots Z ls mc ms cur C hc hR hlo ⟨hl.1, hl.2.1, fun q hq => by
    obtain ⟨q0, hq0, rfl⟩ := List.mem_map.mp hq
    exact hl.2.2 _ (List.mem_map.mpr ⟨q0, h q0 hq0, rfl⟩)⟩ h1 h2 h3 h4 hF
section RU
variable {G : GC} {e i pc a : Nat} {t : T3} {l : LV} {r : List Value} {M : Mem} {Q : Option Value → Mem → Prop} {x y : Int32} {w z : Int64} {v v2 : Value} {off : Int} {A : Nat}
theorem r_aload {k : Nat} (hd : decode (bC i) pc = .ok (.aload k, 2)) (hg : lget l k = some (.ref A)) (k1 : wp G e t i (pc + 2) l (.ref A :: r) M Q) : wp G e t i pc l r M Q :=
  wp_of (fun _ _ _ _ _ _ _ _ _ _ _ _ _ _ _ _ C hl w => lv_aload (x := adr G A) C.1 C.2.1 hd (lv_lget hl hg) w) k1
theorem r_aload_n {k : Fin 4} (hd : decode (bC i) pc = .ok (.aload_n k, 1)) (hg : lget l k.val = some (.ref A)) (k1 : wp G e t i (pc + 1) l (.ref A :: r) M Q) : wp G e t i pc l r M Q :=
  wp_of (fun _ _ _ _ _ _ _ _ _ _ _ _ _ _ _ _ C hl w => lv_aload_n (x := adr G A) C.1 C.2.1 hd rfl (lv_lget hl hg) w) k1
theorem r_iload {k : Nat} (hd : decode (bC i) pc = .ok (.iload k, 2)) (hg : lget l k = some (.int x)) (k1 : wp G e t i (pc + 2) l (.int x :: r) M Q) : wp G e t i pc l r M Q :=
  wp_of (fun _ _ _ _ _ _ _ _ _ _ _ _ _ _ _ _ C hl w => lv_iload C.1 C.2.1 hd (lv_lget hl hg) w) k1
theorem r_iload_n {k : Fin 4} (hd : decode (bC i) pc = .ok (.iload_n k, 1)) (hg : lget l k.val = some (.int x)) (k1 : wp G e t i (pc + 1) l (.int x :: r) M Q) : wp G e t i pc l r M Q :=
  wp_of (fun _ _ _ _ _ _ _ _ _ _ _ _ _ _ _ _ C hl w => lv_iload_n C.1 C.2.1 hd rfl (lv_lget hl hg) w) k1
theorem r_lload {k : Nat} (hd : decode (bC i) pc = .ok (.lload k, 2)) (hg : lget l k = some (.long z)) (k1 : wp G e t i (pc + 2) l (.long z :: r) M Q) : wp G e t i pc l r M Q :=
  wp_of (fun _ _ _ _ _ _ _ _ _ _ _ _ _ _ _ _ C hl w => lv_lload C.1 C.2.1 hd (lv_lget hl hg) w) k1
theorem r_lload_n {k : Fin 4} (hd : decode (bC i) pc = .ok (.lload_n k, 1)) (hg : lget l k.val = some (.long z)) (k1 : wp G e t i (pc + 1) l (.long z :: r) M Q) : wp G e t i pc l r M Q :=
  wp_of (fun _ _ _ _ _ _ _ _ _ _ _ _ _ _ _ _ C hl w => lv_lload_n C.1 C.2.1 hd rfl (lv_lget hl hg) w) k1
theorem r_astore {k : Nat} (hd : decode (bC i) pc = .ok (.astore k, 2)) (hn : k < nL i) (k1 : wp G e t i (pc + 2) (lput l k (.ref A)) r M Q) : wp G e t i pc l (.ref A :: r) M Q :=
  wp_st (fun _ _ _ _ _ _ _ _ _ _ _ _ _ _ _ _ C hl w => lv_astore (x := adr G A) C.1 C.2.1 hd hl hn (lfl_put (v := .ref A)) w) k1
theorem r_astore_n {k : Fin 4} (hd : decode (bC i) pc = .ok (.astore_n k, 1)) (hn : k.val < nL i) (k1 : wp G e t i (pc + 1) (lput l k.val (.ref A)) r M Q) : wp G e t i pc l (.ref A :: r) M Q :=
  wp_st (fun _ _ _ _ _ _ _ _ _ _ _ _ _ _ _ _ C hl w => lv_astore_n (x := adr G A) C.1 C.2.1 hd rfl hl hn (lfl_put (v := .ref A)) w) k1
theorem r_istore {k : Nat} (hd : decode (bC i) pc = .ok (.istore k, 2)) (hn : k < nL i) (k1 : wp G e t i (pc + 2) (lput l k (.int x)) r M Q) : wp G e t i pc l (.int x :: r) M Q :=
  wp_st (fun _ _ _ _ _ _ _ _ _ _ _ _ _ _ _ _ C hl w => lv_istore C.1 C.2.1 hd hl hn (lfl_put (v := .int x)) w) k1
theorem r_istore_n {k : Fin 4} (hd : decode (bC i) pc = .ok (.istore_n k, 1)) (hn : k.val < nL i) (k1 : wp G e t i (pc + 1) (lput l k.val (.int x)) r M Q) : wp G e t i pc l (.int x :: r) M Q :=
  wp_st (fun _ _ _ _ _ _ _ _ _ _ _ _ _ _ _ _ C hl w => lv_istore_n C.1 C.2.1 hd rfl hl hn (lfl_put (v := .int x)) w) k1
theorem r_lstore {k : Nat} (hd : decode (bC i) pc = .ok (.lstore k, 2)) (hn : k + 1 < nL i) (k1 : wp G e t i (pc + 2) (lput2 l k (.long z)) r M Q) : wp G e t i pc l (.long z :: r) M Q :=
  wp_st (fun _ _ _ _ _ _ _ _ _ _ _ _ _ _ _ _ C hl w => lv_lstore C.1 C.2.1 hd hl hn (lfl_put2 (v := .long z)) w) k1
theorem r_lstore_n {k : Fin 4} (hd : decode (bC i) pc = .ok (.lstore_n k, 1)) (hn : k.val + 1 < nL i) (k1 : wp G e t i (pc + 1) (lput2 l k.val (.long z)) r M Q) : wp G e t i pc l (.long z :: r) M Q :=
  wp_st (fun _ _ _ _ _ _ _ _ _ _ _ _ _ _ _ _ C hl w => lv_lstore_n C.1 C.2.1 hd rfl hl hn (lfl_put2 (v := .long z)) w) k1
theorem r_iconst {n : Int} (hd : decode (bC i) pc = .ok (.iconst n, 1)) (k1 : wp G e t i (pc + 1) l (.int (ic n) :: r) M Q) : wp G e t i pc l r M Q :=
  wp_of (fun _ _ _ _ _ _ _ _ _ _ _ _ _ _ _ _ C hl w => lv_iconst C.1 C.2.1 hd (ic_of n) w) k1
theorem r_bipush {n : Int} (hd : decode (bC i) pc = .ok (.bipush n, 2)) (hn : (Int8.ofInt n).toInt32 = ic n) (k1 : wp G e t i (pc + 2) l (.int (ic n) :: r) M Q) : wp G e t i pc l r M Q :=
  wp_of (fun _ _ _ _ _ _ _ _ _ _ _ _ _ _ _ _ C hl w => lv_bipush C.1 C.2.1 hd hn w) k1
theorem r_sipush {n : Int} (hd : decode (bC i) pc = .ok (.sipush n, 3)) (hn : (Int16.ofInt n).toInt32 = ic n) (k1 : wp G e t i (pc + 3) l (.int (ic n) :: r) M Q) : wp G e t i pc l r M Q :=
  wp_of (fun _ _ _ _ _ _ _ _ _ _ _ _ _ _ _ _ C hl w => lv_sipush C.1 C.2.1 hd hn w) k1
theorem r_lconst {n : Fin 2} (hd : decode (bC i) pc = .ok (.lconst n, 1)) (k1 : wp G e t i (pc + 1) l (.long (lN n.val) :: r) M Q) : wp G e t i pc l r M Q :=
  wp_of (fun _ _ _ _ _ _ _ _ _ _ _ _ _ _ _ _ C hl w => lv_lconst C.1 C.2.1 hd rfl w) k1
theorem r_iadd (hd : decode (bC i) pc = .ok (.iadd, 1)) (k1 : wp G e t i (pc + 1) l (.int (x + y) :: r) M Q) : wp G e t i pc l (.int y :: .int x :: r) M Q :=
  wp_of (fun _ _ _ _ _ _ _ _ _ _ _ _ _ _ _ _ C hl w => lv_iadd C.1 C.2.1 hd w) k1
theorem r_isub (hd : decode (bC i) pc = .ok (.isub, 1)) (k1 : wp G e t i (pc + 1) l (.int (x - y) :: r) M Q) : wp G e t i pc l (.int y :: .int x :: r) M Q :=
  wp_of (fun _ _ _ _ _ _ _ _ _ _ _ _ _ _ _ _ C hl w => lv_isub C.1 C.2.1 hd w) k1
theorem r_imul (hd : decode (bC i) pc = .ok (.imul, 1)) (k1 : wp G e t i (pc + 1) l (.int (x * y) :: r) M Q) : wp G e t i pc l (.int y :: .int x :: r) M Q :=
  wp_of (fun _ _ _ _ _ _ _ _ _ _ _ _ _ _ _ _ C hl w => lv_imul C.1 C.2.1 hd w) k1
theorem r_idiv (hd : decode (bC i) pc = .ok (.idiv, 1)) (h0 : ¬ y = 0) (k1 : wp G e t i (pc + 1) l (.int (x / y) :: r) M Q) : wp G e t i pc l (.int y :: .int x :: r) M Q :=
  wp_of (fun _ _ _ _ _ _ _ _ _ _ _ _ _ _ _ _ C hl w => lv_idiv C.1 C.2.1 hd h0 w) k1
theorem r_irem (hd : decode (bC i) pc = .ok (.irem, 1)) (h0 : ¬ y = 0) (k1 : wp G e t i (pc + 1) l (.int (rm x y) :: r) M Q) : wp G e t i pc l (.int y :: .int x :: r) M Q :=
  wp_of (fun _ _ _ _ _ _ _ _ _ _ _ _ _ _ _ _ C hl w => lv_irem C.1 C.2.1 hd h0 w) k1
theorem r_iand (hd : decode (bC i) pc = .ok (.iand, 1)) (k1 : wp G e t i (pc + 1) l (.int (x &&& y) :: r) M Q) : wp G e t i pc l (.int y :: .int x :: r) M Q :=
  wp_of (fun _ _ _ _ _ _ _ _ _ _ _ _ _ _ _ _ C hl w => lv_iand C.1 C.2.1 hd w) k1
theorem r_ixor (hd : decode (bC i) pc = .ok (.ixor, 1)) (k1 : wp G e t i (pc + 1) l (.int (x ^^^ y) :: r) M Q) : wp G e t i pc l (.int y :: .int x :: r) M Q :=
  wp_of (fun _ _ _ _ _ _ _ _ _ _ _ _ _ _ _ _ C hl w => lv_ixor C.1 C.2.1 hd w) k1
theorem r_iushr (hd : decode (bC i) pc = .ok (.iushr, 1)) (k1 : wp G e t i (pc + 1) l (.int (us x y) :: r) M Q) : wp G e t i pc l (.int y :: .int x :: r) M Q :=
  wp_of (fun _ _ _ _ _ _ _ _ _ _ _ _ _ _ _ _ C hl w => lv_iushr C.1 C.2.1 hd rfl w) k1
theorem r_ishr (hd : decode (bC i) pc = .ok (.ishr, 1)) (k1 : wp G e t i (pc + 1) l (.int (sh x y) :: r) M Q) : wp G e t i pc l (.int y :: .int x :: r) M Q :=
  wp_of (fun _ _ _ _ _ _ _ _ _ _ _ _ _ _ _ _ C hl w => lv_ishr C.1 C.2.1 hd w) k1
theorem r_ladd (hd : decode (bC i) pc = .ok (.ladd, 1)) (k1 : wp G e t i (pc + 1) l (.long (w + z) :: r) M Q) : wp G e t i pc l (.long z :: .long w :: r) M Q :=
  wp_of (fun _ _ _ _ _ _ _ _ _ _ _ _ _ _ _ _ C hl w => lv_ladd C.1 C.2.1 hd w) k1
theorem r_lmul (hd : decode (bC i) pc = .ok (.lmul, 1)) (k1 : wp G e t i (pc + 1) l (.long (w * z) :: r) M Q) : wp G e t i pc l (.long z :: .long w :: r) M Q :=
  wp_of (fun _ _ _ _ _ _ _ _ _ _ _ _ _ _ _ _ C hl w => lv_lmul C.1 C.2.1 hd w) k1
theorem r_ldiv (hd : decode (bC i) pc = .ok (.ldiv, 1)) (h0 : ¬ z = 0) (k1 : wp G e t i (pc + 1) l (.long (w / z) :: r) M Q) : wp G e t i pc l (.long z :: .long w :: r) M Q :=
  wp_of (fun _ _ _ _ _ _ _ _ _ _ _ _ _ _ _ _ C hl w => lv_ldiv C.1 C.2.1 hd h0 w) k1
theorem r_lshl (hd : decode (bC i) pc = .ok (.lshl, 1)) (k1 : wp G e t i (pc + 1) l (.long (lsh w y) :: r) M Q) : wp G e t i pc l (.int y :: .long w :: r) M Q :=
  wp_of (fun _ _ _ _ _ _ _ _ _ _ _ _ _ _ _ _ C hl w => lv_lshl C.1 C.2.1 hd rfl w) k1
theorem r_lor (hd : decode (bC i) pc = .ok (.lor, 1)) (k1 : wp G e t i (pc + 1) l (.long (w ||| z) :: r) M Q) : wp G e t i pc l (.long z :: .long w :: r) M Q :=
  wp_of (fun _ _ _ _ _ _ _ _ _ _ _ _ _ _ _ _ C hl w => lv_lor C.1 C.2.1 hd w) k1
theorem r_lcmp (hd : decode (bC i) pc = .ok (.lcmp, 1)) (k1 : wp G e t i (pc + 1) l (.int (lg_cmp w z) :: r) M Q) : wp G e t i pc l (.long z :: .long w :: r) M Q :=
  wp_of (fun _ _ _ _ _ _ _ _ _ _ _ _ _ _ _ _ C hl w => W.lcmp C.1 C.2.1 hd w) k1
theorem r_i2l (hd : decode (bC i) pc = .ok (.i2l, 1)) (k1 : wp G e t i (pc + 1) l (.long x.toInt64 :: r) M Q) : wp G e t i pc l (.int x :: r) M Q :=
  wp_of (fun _ _ _ _ _ _ _ _ _ _ _ _ _ _ _ _ C hl w => lv_i2l C.1 C.2.1 hd rfl w) k1
theorem r_l2i (hd : decode (bC i) pc = .ok (.l2i, 1)) (k1 : wp G e t i (pc + 1) l (.int z.toInt32 :: r) M Q) : wp G e t i pc l (.long z :: r) M Q :=
  wp_of (fun _ _ _ _ _ _ _ _ _ _ _ _ _ _ _ _ C hl w => lv_l2i C.1 C.2.1 hd rfl w) k1
theorem r_goto (hd : decode (bC i) pc = .ok (.goto off, 3)) (ht : (pc : Int) + off = (a : Int)) (k1 : wp G e t i a l r M Q) : wp G e t i pc l r M Q :=
  wp_of (fun _ _ _ _ _ _ _ _ _ _ _ _ _ _ _ _ C hl w => lv_goto C.1 C.2.1 hd ht w) k1
theorem r_if_icmp {cd : Jvm.ClassFile.Cond} (hd : decode (bC i) pc = .ok (.if_icmp cd off, 3)) (ht : (pc : Int) + off = (a : Int)) (k1 : icP cd x y → wp G e t i a l r M Q) (k2 : icN cd x y → wp G e t i (pc + 3) l r M Q) : wp G e t i pc l (.int y :: .int x :: r) M Q := by
  cases cd
  · exact wp_br (fun _ _ _ _ _ _ _ _ _ _ _ _ _ _ _ _ C w1 w2 => lv_icmp_eq C.1 C.2.1 hd ht w1 w2) k1 k2
  · exact wp_br (fun _ _ _ _ _ _ _ _ _ _ _ _ _ _ _ _ C w1 w2 => lv_icmp_ne C.1 C.2.1 hd ht w1 w2) k1 k2
  · exact wp_br (fun _ _ _ _ _ _ _ _ _ _ _ _ _ _ _ _ C w1 w2 => lv_icmp_lt C.1 C.2.1 hd ht w1 w2) k1 k2
  · exact wp_br (fun _ _ _ _ _ _ _ _ _ _ _ _ _ _ _ _ C w1 w2 => lv_icmp_ge C.1 C.2.1 hd ht w1 w2) k1 k2
  · exact wp_br (fun _ _ _ _ _ _ _ _ _ _ _ _ _ _ _ _ C w1 w2 => lv_icmp_gt C.1 C.2.1 hd ht w1 w2) k1 k2
  · exact wp_br (fun _ _ _ _ _ _ _ _ _ _ _ _ _ _ _ _ C w1 w2 => lv_icmp_le C.1 C.2.1 hd ht w1 w2) k1 k2
theorem r_ifCond {cd : Jvm.ClassFile.Cond} (hd : decode (bC i) pc = .ok (.ifCond cd off, 3)) (ht : (pc : Int) + off = (a : Int)) (k1 : icP cd x (nI 0) → wp G e t i a l r M Q) (k2 : icN cd x (nI 0) → wp G e t i (pc + 3) l r M Q) : wp G e t i pc l (.int x :: r) M Q := by
  rw [nI_0] at k1 k2
  cases cd
  · exact wp_br (fun _ _ _ _ _ _ _ _ _ _ _ _ _ _ _ _ C w1 w2 => lv_if_eq C.1 C.2.1 hd ht w1 w2) k1 k2
  · exact wp_br (fun _ _ _ _ _ _ _ _ _ _ _ _ _ _ _ _ C w1 w2 => lv_if_ne C.1 C.2.1 hd ht w1 w2) k1 k2
  · exact wp_br (fun _ _ _ _ _ _ _ _ _ _ _ _ _ _ _ _ C w1 w2 => lv_if_lt C.1 C.2.1 hd ht w1 w2) k1 k2
  · exact wp_br (fun _ _ _ _ _ _ _ _ _ _ _ _ _ _ _ _ C w1 w2 => lv_if_ge C.1 C.2.1 hd ht w1 w2) k1 k2
  · exact wp_br (fun _ _ _ _ _ _ _ _ _ _ _ _ _ _ _ _ C w1 w2 => lv_if_gt C.1 C.2.1 hd ht w1 w2) k1 k2
  · exact wp_br (fun _ _ _ _ _ _ _ _ _ _ _ _ _ _ _ _ C w1 w2 => lv_if_le C.1 C.2.1 hd ht w1 w2) k1 k2
theorem r_iinc {k : Nat} {n : Int} (hd : decode (bC i) pc = .ok (.iinc k n, 3)) (hn : k < nL i) (hg : lget l k = some (.int x)) (k1 : wp G e t i (pc + 3) (lput l k (.int (x + ic n))) r M Q) : wp G e t i pc l r M Q := by
  refine wp_st (fun _ _ _ _ _ _ _ _ _ _ _ _ _ _ _ _ C hl w => ?_) k1
  obtain ⟨q, hq⟩ := List.getElem?_of_mem (lfl_mem (G := G) (lget_mem hg))
  exact lv_iinc C.1 C.2.1 hd hl hq (by rw [ic_of]) hn (lfl_put (v := .int (x + ic n))) w
theorem r_dup (hd : decode (bC i) pc = .ok (.dup, 1)) (hc : v.category = 1) (k1 : wp G e t i (pc + 1) l (v :: v :: r) M Q) : wp G e t i pc l (v :: r) M Q :=
  wp_of (fun _ _ _ _ _ _ _ _ _ _ _ _ _ _ _ _ C hl w => lv_dup C.1 C.2.1 hd (by rw [lf_cat]; exact hc) w) k1
theorem r_dup2 (hd : decode (bC i) pc = .ok (.dup2, 1)) (hc : v.category = 1) (hc2 : v2.category = 1) (k1 : wp G e t i (pc + 1) l (v :: v2 :: v :: v2 :: r) M Q) : wp G e t i pc l (v :: v2 :: r) M Q :=
  wp_of (fun _ _ _ _ _ _ _ _ _ _ _ _ _ _ _ _ C hl w => lv_dup2_11 C.1 C.2.1 hd (by rw [lf_cat]; assumption) (by rw [lf_cat]; assumption) w) k1
theorem r_pop (hd : decode (bC i) pc = .ok (.pop, 1)) (hc : v.category = 1) (k1 : wp G e t i (pc + 1) l r M Q) : wp G e t i pc l (v :: r) M Q :=
  wp_of (fun _ _ _ _ _ _ _ _ _ _ _ _ _ _ _ _ C hl w => lv_pop C.1 C.2.1 hd (by rw [lf_cat]; exact hc) w) k1
end RU
