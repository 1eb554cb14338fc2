/-! THE READER OF THE BYTECODE: 'vi', 'vc' turn a stretch of code into what must hold for it (a Prop), 'wp' is what they stand for on the machine. -/
abbrev GC := va_G × (Nat → ClassId) × Nat × Heap × (Nat → Nat) × Nat × (Nat → Int32)
abbrev Mem := (Nat → Nat → Int32) × (Nat → Nat → Int64) × (Nat → Nat → Option Nat)
abbrev LV := List (Nat × Value)
abbrev T3 := Nat × Nat × Nat
abbrev gD (G : GC) : va_G := G.1
abbrev gcy (G : GC) : Nat → ClassId := G.2.1
abbrev gb (G : GC) : Nat := G.2.2.1
abbrev gH (G : GC) : Heap := G.2.2.2.1
abbrev gsp (G : GC) : Nat → Nat := G.2.2.2.2.1
abbrev gLn (G : GC) : Nat := G.2.2.2.2.2.1
abbrev gxs (G : GC) : Nat → Int32 := G.2.2.2.2.2.2
/-- the first address that is none of ours: the script, then the String constants -/
abbrev SP : Nat := 1000000000
def adr (G : GC) (k : Nat) : Nat := if k < SP then gb G + k else gsp G (k - SP)
def lf (G : GC) : Value → Value
  | .ref k => .ref (adr G k)
  | v => v
def lst (G : GC) (st : List Value) : List Value := st.map (lf G)
def lfl (G : GC) (l : LV) : LV := l.map (fun q => (q.1, lf G q.2))
theorem lf_cat (G : GC) (v : Value) : (lf G v).category = v.category := by cases v <;> rfl
abbrev ix (x : Int32) : Nat := x.toNatClampNeg
def isB (x : Int32) : Prop := x = 0 ∨ x = 1
def fv (G : GC) (M : Mem) (c j k : Nat) : Value := match fty c k with
  | 0 => .int (M.1 j k)
  | 1 => .long (M.2.1 j k)
  | 2 => va_rf ((M.2.2 j k).map (adr G))
  | 3 => .int (M.1 j k)
  | _ => if M.1 j k = 0 then .null else .ref (gb G + ix (M.1 j k))
def cellOf (G : GC) (M : Mem) (j : Nat) : va_E :=
  if ak j = 11 then .inl (gcy G 0, an j, .inl (M.1 j))
  else if ak j = 12 then .inl (gcy G 1, an j, .inl (M.1 j))
  else if ak j = 13 then .inl (gcy G 2, an j, .inr (.inr (.inr (.inr (fun i => some (gb G + rb j + i))))))
  else .inr (ak j, (List.range (an j)).map (fun k => fv G M (ak j) j k))
/-- the heap holds the first cur of our cells as M has them; what was there before is as it was -/
def Rel (G : GC) (cur : Nat) (M : Mem) (H : Heap) : Prop :=
  H.size = gb G + cur ∧ (∀ q, q < gb G → H[q]? = (gH G)[q]?) ∧ (∀ j, j < cur → va_at (gD G) vwCl (gb G + j, cellOf G M j) H) ∧
  ∀ j, cur ≤ j → (∀ k, M.1 j k = 0) ∧ (∀ k, M.2.1 j k = 0) ∧ ∀ k, M.2.2 j k = none
def strB : List (List Int32) := [[109, 111, 100, 117, 108, 101], [109, 97, 112], [116]]
def STR (G : GC) (s : State) : Prop :=
  vk_R "PowersForTimes$Reader" 94 "module" (gsp G 1) s ∧ vk_R "PowersForTimes$Reader" 100 "map" (gsp G 2) s ∧ vk_R "PowersForTimes$Reader" 126 "t" (gsp G 3) s ∧
  (∃ adV : Nat → Nat, vk_S 3 [6, 3, 1] strB (fun i => gsp G (i + 1)) adV (fun q => gb G ≤ q) s (gH G)) ∧
  va_Z "java/lang/String" "COMPACT_STRINGS" "Z" (.int 1) (fun q => gb G ≤ q) s (gH G) ∧ va_Zq "jdk/internal/util/Preconditions" "SIOOBE_FORMATTER" "Ljava/util/function/BiFunction;" (fun q => gb G ≤ q) s (gH G)
/-- the class of int[][] is there, over that of int[] -/
def AOA (U : State) : Prop := ∃ (comp c : ClassId) (k : Class) (comp2 : ClassId), U.vm.findClass (FieldType.array .int).toString = some comp ∧ (U.vm.classes.findIdx? fun (x : Class) => match x.kind with | .array component _ => component == comp | _ => false) = some c ∧
  U.vm.classes[c]? = some k ∧ k.kind = .array comp2 (.array .int) ∧ U.vm.findClass ("[" ++ (FieldType.array .int).toString) = some c
theorem AOA.of {A : Array Value} {U : State} (h : (Jvm.Cond.arrayOver (.array .int)).before A U = true) : AOA U := by
  simp only [Cond.before, Cond.holds, Cond.value, beq_iff_eq] at h
  cases hc : U.vm.findClass (FieldType.array .int).toString with
  | none => simp [hc] at h
  | some comp =>
    simp only [hc, Option.bind_some, Option.bind_eq_some_iff, Option.map_eq_some_iff] at h
    obtain ⟨c, hi, k, hk, hb⟩ := h
    cases hkind : k.kind with
    | array component ty =>
      rw [hkind] at hb
      simp at hb
      exact ⟨comp, c, k, component, hc, hi, hk, by rw [hkind, hb.1], hb.2⟩
    | _ => rw [hkind] at hb; simp at hb
theorem AOA.use {A : Array Value} {U : State} (h : AOA U) : (Jvm.Cond.arrayOver (.array .int)).before A U = true := by
  obtain ⟨comp, c, k, comp2, h1, h2, h3, h4, h5⟩ := h
  simp only [Cond.before, Cond.holds, Cond.value, beq_iff_eq]
  simp only [h1, Option.bind_some]
  refine Option.bind_eq_some_iff.mpr ⟨c, h2, ?_⟩
  simp [h3, h4, h5]
theorem AOA.moved {u U : State} (hvm : u.vm.Alike U.vm) (h : AOA u) : AOA U := by
  obtain ⟨comp, c, k, comp2, h1, h2, h3, h4, h5⟩ := h
  obtain ⟨k', hk', he⟩ := hvm.2.2 _ _ h3
  refine ⟨comp, c, k', comp2, by rw [hvm.findClass]; exact h1, ?_, hk', by rw [he]; exact h4, by rw [hvm.findClass]; exact h5⟩
  refine Eq.trans (va_idx_bare U.vm comp).symm ?_
  have hb : U.vm.bare = u.vm.bare := by first | exact hvm.bare_eq | exact hvm.bare_eq.symm
  rw [hb]
  exact (va_idx_bare u.vm comp).trans h2
def EF (G : GC) (s : State) : Prop :=
  va_K (gD G) vwCl [(gcy G 0, .int), (gcy G 1, .boolean), (gcy G 2, .array .int)] s ∧ va_X (gsp G 0) (gLn G) (gxs G) s (gH G) ∧ gsp G 0 < gb G ∧ (gH G).size = gb G ∧ STR G s ∧ AOA s ∧ va_Nw (.methodLinkNest RX9 70 yX6_init "PowersForTimes") s
/-- the tables' words that stay good in a call -/
def gdt : List Jvm.Cond := lw_tbl.filter goodWord
def Ctx (G : GC) (e i : Nat) (p : Program) (R : Room) (s : State) (m : MethodId) (args : Array Value) (meth : Method) (c : Code) : Prop :=
  p.tables.exec = Jvm.exec ∧ c.code = bC i ∧ c.maxLocals = nL i ∧ s.vm.findClass (ow i) = some m.cls ∧ (∀ w ∈ gdt, w.before args s = true) ∧ meth.sig.returnType = rT i ∧ meth.locks = false ∧ (mx i = true → oC i < 11 → meth.name = "<init>") ∧ EF G s ∧ dep i + e ≤ R.frames ∧ 60 * (dep i + e) ≤ R.locals
/-- the return instruction at pc, and a value that fits it -/
def RetAt (i pc : Nat) (v : Option Value) : Prop := match v with
  | none => decode (bC i) pc = .ok (.return_, 1) ∧ rT i = none
  | some (.int x) => decode (bC i) pc = .ok (.ireturn, 1) ∧ ((rT i = some .int) ∨ (rT i = some .boolean ∧ isB x))
  | some (.long _) => decode (bC i) pc = .ok (.lreturn, 1) ∧ rT i = some .long
  | some (.ref _) => decode (bC i) pc = .ok (.areturn, 1) ∧ rT i = some (.array .int)
  | _ => False
def curOk (i lb cur : Nat) : Prop := (mx i = true → cur = lb) ∧ lb ≤ cur
def Fnl (G : GC) (i : Nat) (Q : Option Value → Mem → Prop) (p : Program) (lch : Launch) (e0 : Env) (R : Room) (s : State) (m : MethodId) (args : Array Value) (below : List Frame) (meth : Method) (c : Code) (Z : State → Prop) (mc ms cur : Nat) (mr : Nat → Nat → Option Nat) : Prop :=
  ∀ (v : Option Value) (M : Mem) (H : Heap) (locs : List Loc) (cells slots pc : Nat) (ls : Array Slot), Q v M → (mx i = false → M.2.2 = mr) → Rel G cur M H → (∀ z ∈ locs, gb G ≤ z.base) → cells ≤ mc → slots ≤ ms → RetAt i pc v →
    W p lch e0 R s m args below meth c H locs cells slots Z (F0 m pc ls (lst G v.toList))
/-- from pc, with the locals l and the stack st over the memory M, the method i comes to its end with Q; t: how many cells there are, how many cells and slots it may yet make -/
def wp (G : GC) (e : Nat) (t : T3) (i pc : Nat) (l : LV) (st : List Value) (M : Mem) (Q : Option Value → Mem → Prop) : Prop :=
  ∀ (p : Program) (lch : Launch) (e0 : Env) (R : Room) (s : State) (m : MethodId) (args : Array Value) (below : List Frame) (meth : Method) (c : Code) (H : Heap) (locs : List Loc) (cells slots : Nat) (Z : State → Prop) (ls : Array Slot) (mc ms cur : Nat),
    Ctx G e i p R s m args meth c → curOk i t.1 cur → Rel G cur M H → (∀ z ∈ locs, gb G ≤ z.base) → lv_has ls (nL i) (lfl G l) → cells + t.2.1 ≤ mc → slots + t.2.2 ≤ ms → mc ≤ R.cells → ms ≤ R.slots →
    Fnl G i Q p lch e0 R s m args below meth c Z mc ms (cur + t.2.1) M.2.2 → W p lch e0 R s m args below meth c H locs cells slots Z (F0 m pc ls (lst G st))
def wsM (j : Nat) : List Jvm.Cond := .code (yM j) (bC j) (nL j) (rT j) :: gdt
def rmM (e j : Nat) : Room := { frames := dep j + e, cells := (alc j).1, slots := (alc j).2, locals := 60 * (dep j + e) }
/-- the method j, called with As over M, comes back with K -/
def wpc (G : GC) (e lb j : Nat) (As : List Value) (M : Mem) (K : Option Value → Mem → Prop) : Prop :=
  ∀ (lch : Launch) (cur : Nat), curOk j lb cur → Met lch (yM j) (wsM j) (rmM e j) (va_Pc (lst G As) (fun U => Rel G cur M U.heap ∧ EF G U))
    (fun _ _ o u => ∃ (v : Option Value) (M1 : Mem), o = .returned (v.map (lf G)) ∧ K v M1 ∧ (mx j = false → M1.2.2 = M.2.2) ∧ Rel G (cur + (alc j).1) M1 u.heap) (alc j).1 (alc j).2 (fun q => gb G ≤ q)
def QI (K : Int32 → (Nat → Nat → Int32) → (Nat → Nat → Int64) → Prop) (v : Option Value) (M : Mem) : Prop := match v with
  | some (.int x) => K x M.1 M.2.1
  | _ => False
def QL (K : Int64 → (Nat → Nat → Int32) → (Nat → Nat → Int64) → Prop) (v : Option Value) (M : Mem) : Prop := match v with
  | some (.long x) => K x M.1 M.2.1
  | _ => False
def QR (K : Nat → (Nat → Nat → Int32) → (Nat → Nat → Int64) → Prop) (v : Option Value) (M : Mem) : Prop := match v with
  | some (.ref x) => K x M.1 M.2.1
  | _ => False
def QV (K : (Nat → Nat → Int32) → (Nat → Nat → Int64) → Prop) (v : Option Value) (M : Mem) : Prop := match v with
  | none => K M.1 M.2.1
  | _ => False
def wpI (G : GC) (e lb j : Nat) (As : List Value) (M : Mem) (K : Int32 → (Nat → Nat → Int32) → (Nat → Nat → Int64) → Prop) : Prop := wpc G e lb j As M (QI K)
def wpL (G : GC) (e lb j : Nat) (As : List Value) (M : Mem) (K : Int64 → (Nat → Nat → Int32) → (Nat → Nat → Int64) → Prop) : Prop := wpc G e lb j As M (QL K)
def wpR (G : GC) (e lb j : Nat) (As : List Value) (M : Mem) (K : Nat → (Nat → Nat → Int32) → (Nat → Nat → Int64) → Prop) : Prop := wpc G e lb j As M (QR K)
def wpV (G : GC) (e lb j : Nat) (As : List Value) (M : Mem) (K : (Nat → Nat → Int32) → (Nat → Nat → Int64) → Prop) : Prop := wpc G e lb j As M (QV K)
def ivk (dec e : Nat) (K : Nat → Prop) : Prop := match dec with
  | 0 => K e
  | d + 1 => d + 1 ≤ e ∧ K (e - (d + 1))
def rm (x y : Int32) : Int32 := x - x / y * y
def us (x y : Int32) : Int32 := (x.toUInt32 >>> (y.toUInt32 &&& Int32.toUInt32 31)).toInt32
def sh (x y : Int32) : Int32 := x >>> (y &&& 31)
def lsh (x : Int64) (y : Int32) : Int64 := x <<< (y.toInt64 &&& 63)
-- the words of vi
def lget (l : LV) (i : Nat) : Option Value := (l.find? (fun q => q.1 == i)).map (fun q => q.2)
def lput (l : LV) (i : Nat) (v : Value) : LV := (i, v) :: l.filter (fun q => !(q.1 == i) && !(q.1 + 1 == i && q.2.category == 2))
def lput2 (l : LV) (i : Nat) (v : Value) : LV := (i, v) :: l.filter (fun q => !(q.1 == i) && (!(q.1 == i + 1) && !(q.1 + 1 == i && q.2.category == 2)))
def pick (l : LV) : List Nat → LV
  | [] => []
  | j :: js => match lget l j with
    | some v => (j, v) :: pick l js
    | none => pick l js
def u2 {α : Type} (f : Nat → Nat → α) (o k : Nat) (v : α) : Nat → Nat → α := fun o' k' => if o' = o ∧ k' = k then v else f o' k'
def ur {α : Type} (f : Nat → Nat → α) (o : Nat) (g : Nat → α) : Nat → Nat → α := fun o' => if o' = o then g else f o'
def ic : Int → Int32
  | .ofNat n => nI n
  | .negSucc n => -(nI (n + 1))
def icP (c : Jvm.ClassFile.Cond) (x y : Int32) : Prop := match c with
  | .eq => x = y
  | .ne => ¬ x = y
  | .lt => x < y
  | .ge => y ≤ x
  | .gt => y < x
  | .le => x ≤ y
def icN (c : Jvm.ClassFile.Cond) (x y : Int32) : Prop := match c with
  | .ne => x = y
  | .eq => ¬ x = y
  | .lt => ¬ x < y
  | .ge => ¬ y ≤ x
  | .gt => ¬ y < x
  | .le => ¬ x ≤ y
def sw (x : Int32) (kk : Nat → Prop) (d : Nat) : List Nat → Prop
  | k :: tg :: r => (x = nI k → kk tg) ∧ (¬ x = nI k → sw x kk d r)
  | _ => kk d
def cats (st : List Value) : Nat := (st.map (fun v => v.category)).sum
/-- what a place of an array wants: known by the code's text (b 1), or to be shown (b 0) -/
def arP (b c lb n0 : Nat) (P : Prop) : Prop := match b with
  | 0 => (ak c = n0 ∧ c < lb) ∧ P
  | _ => match Nat.beq (ak c) n0 && Nat.ble (c + 1) lb with
    | true => P
    | false => False
def slen (c : Nat) : Nat := (strB.getD (c - SP - 1) []).length
def schr (c : Nat) (j : Nat) : Int32 := (strB.getD (c - SP - 1) []).getD j 0
def vi (G : GC) (e i : Nat) (Q : Option Value → Mem → Prop) (pc : Nat) (kn : T3 → LV → List Value → Mem → Prop) (kj : Nat → T3 → LV → List Value → Mem → Prop) (I : Instr) (a b : Nat) (tb : List Nat) (t : T3) (l : LV) (st : List Value) (M : Mem) : Prop :=
  match I with
  | .nop => wp G e t i pc (pick l tb) st M Q
  | .aload k => match lget l k with
    | some (.ref x) => kn t l (.ref x :: st) M
    | _ => False
  | .aload_n k => match lget l k.val with
    | some (.ref x) => kn t l (.ref x :: st) M
    | _ => False
  | .iload k => match lget l k with
    | some (.int x) => kn t l (.int x :: st) M
    | _ => False
  | .iload_n k => match lget l k.val with
    | some (.int x) => kn t l (.int x :: st) M
    | _ => False
  | .lload k => match lget l k with
    | some (.long x) => kn t l (.long x :: st) M
    | _ => False
  | .lload_n k => match lget l k.val with
    | some (.long x) => kn t l (.long x :: st) M
    | _ => False
  | .astore k => match st with
    | .ref x :: r => kn t (lput l k (.ref x)) r M
    | _ => False
  | .astore_n k => match st with
    | .ref x :: r => kn t (lput l k.val (.ref x)) r M
    | _ => False
  | .istore k => match st with
    | .int x :: r => kn t (lput l k (.int x)) r M
    | _ => False
  | .istore_n k => match st with
    | .int x :: r => kn t (lput l k.val (.int x)) r M
    | _ => False
  | .lstore k => match st with
    | .long x :: r => kn t (lput2 l k (.long x)) r M
    | _ => False
  | .lstore_n k => match st with
    | .long x :: r => kn t (lput2 l k.val (.long x)) r M
    | _ => False
  | .iconst n => kn t l (.int (ic n) :: st) M
  | .bipush n => kn t l (.int (ic n) :: st) M
  | .sipush n => kn t l (.int (ic n) :: st) M
  | .lconst n => kn t l (.long (lN n.val) :: st) M
  | .ldc2_w _ => kn t l (.long (lN a) :: st) M
  | .ldc _ => match b with
    | 0 => kn t l (.ref (SP + a) :: st) M
    | _ => kn t l (.int (nI a) :: st) M
  | .iadd => match st with
    | .int y :: .int x :: r => kn t l (.int (x + y) :: r) M
    | _ => False
  | .isub => match st with
    | .int y :: .int x :: r => kn t l (.int (x - y) :: r) M
    | _ => False
  | .imul => match st with
    | .int y :: .int x :: r => kn t l (.int (x * y) :: r) M
    | _ => False
  | .idiv => match st with
    | .int y :: .int x :: r => ¬ y = 0 ∧ kn t l (.int (x / y) :: r) M
    | _ => False
  | .irem => match st with
    | .int y :: .int x :: r => ¬ y = 0 ∧ kn t l (.int (rm x y) :: r) M
    | _ => False
  | .iand => match st with
    | .int y :: .int x :: r => kn t l (.int (x &&& y) :: r) M
    | _ => False
  | .ixor => match st with
    | .int y :: .int x :: r => kn t l (.int (x ^^^ y) :: r) M
    | _ => False
  | .iushr => match st with
    | .int y :: .int x :: r => kn t l (.int (us x y) :: r) M
    | _ => False
  | .ishr => match st with
    | .int y :: .int x :: r => kn t l (.int (sh x y) :: r) M
    | _ => False
  | .ladd => match st with
    | .long y :: .long x :: r => kn t l (.long (x + y) :: r) M
    | _ => False
  | .lmul => match st with
    | .long y :: .long x :: r => kn t l (.long (x * y) :: r) M
    | _ => False
  | .ldiv => match st with
    | .long y :: .long x :: r => ¬ y = 0 ∧ kn t l (.long (x / y) :: r) M
    | _ => False
  | .lshl => match st with
    | .int y :: .long x :: r => kn t l (.long (lsh x y) :: r) M
    | _ => False
  | .lor => match st with
    | .long y :: .long x :: r => kn t l (.long (x ||| y) :: r) M
    | _ => False
  | .lcmp => match st with
    | .long y :: .long x :: r => kn t l (.int (lg_cmp x y) :: r) M
    | _ => False
  | .i2l => match st with
    | .int x :: r => kn t l (.long x.toInt64 :: r) M
    | _ => False
  | .l2i => match st with
    | .long x :: r => kn t l (.int x.toInt32 :: r) M
    | _ => False
  | .goto _ => kj a t l st M
  | .if_icmp c _ => match st with
    | .int y :: .int x :: r => (icP c x y → kj a t l r M) ∧ (icN c x y → kn t l r M)
    | _ => False
  | .ifCond c _ => match st with
    | .int x :: r => (icP c x (nI 0) → kj a t l r M) ∧ (icN c x (nI 0) → kn t l r M)
    | _ => False
  | .tableswitch _ _ _ _ => match st with
    | .int x :: r => sw x (fun tg => kj tg t l r M) a tb
    | _ => False
  | .lookupswitch _ _ => match st with
    | .int x :: r => sw x (fun tg => kj tg t l r M) a tb
    | _ => False
  | .iinc k n => match lget l k with
    | some (.int x) => kn t (lput l k (.int (x + ic n))) st M
    | _ => False
  | .getfield _ => match st with
    | .ref o :: r => match Nat.beq (ak o) a && Nat.ble (o + 1) t.1 && Nat.ble (b + 1) (an o) with
      | true => match fty a b with
        | 0 => kn t l (.int (M.1 o b) :: r) M
        | 1 => kn t l (.long (M.2.1 o b) :: r) M
        | 2 => match M.2.2 o b with
          | some q => kn t l (.ref q :: r) M
          | none => False
        | 3 => kn t l (.int (M.1 o b) :: r) M
        | _ => (¬ M.1 o b = 0 ∧ ix (M.1 o b) < SP) ∧ kn t l (.ref (ix (M.1 o b)) :: r) M
      | false => False
    | _ => False
  | .putfield _ => match st with
    | v :: .ref o :: r => match Nat.beq (ak o) a && Nat.ble (o + 1) t.1 && Nat.ble (b + 1) (an o) && (mx i || !ffi a b) with
      | true => match fty a b, v with
        | 0, .int x => kn t l r (u2 M.1 o b x, M.2)
        | 1, .long x => kn t l r (M.1, u2 M.2.1 o b x, M.2.2)
        | 2, .ref q => kn t l r (M.1, M.2.1, u2 M.2.2 o b (some q))
        | 3, .int x => isB x ∧ kn t l r (u2 M.1 o b x, M.2)
        | 4, .ref q => (0 < q ∧ q < SP) ∧ kn t l r (u2 M.1 o b (nI q), M.2)
        | _, _ => False
      | false => False
    | _ => False
  | .iaload => match b, st with
    | 2, .int j :: .ref c :: r => match Nat.beq c SP with
      | true => vp_in j (gLn G) ∧ kn t l (.int (gxs G (ix j)) :: r) M
      | false => False
    | _, .int j :: .ref c :: r => arP b c t.1 11 (vp_in j (an c) ∧ kn t l (.int (M.1 c (ix j)) :: r) M)
    | _, _ => False
  | .baload => match st with
    | .int j :: .ref c :: r => arP b c t.1 12 (vp_in j (an c) ∧ kn t l (.int (M.1 c (ix j)) :: r) M)
    | _ => False
  | .aaload => match st with
    | .int j :: .ref c :: r => arP b c t.1 13 (vp_in j (an c) ∧ kn t l (.ref (rb c + ix j) :: r) M)
    | _ => False
  | .iastore => match st with
    | .int x :: .int j :: .ref c :: r => arP b c t.1 11 (vp_in j (an c) ∧ kn t l r (u2 M.1 c (ix j) x, M.2))
    | _ => False
  | .bastore => match st with
    | .int x :: .int j :: .ref c :: r => arP b c t.1 12 (vp_in j (an c) ∧ isB x ∧ kn t l r (u2 M.1 c (ix j) x, M.2))
    | _ => False
  | .arraylength => match b, st with
    | 2, .ref c :: r => match Nat.beq c SP with
      | true => kn t l (.int (nI (gLn G)) :: r) M
      | false => False
    | 1, .ref c :: r => match (Nat.beq (ak c) 11 || Nat.beq (ak c) 12 || Nat.beq (ak c) 13) && Nat.ble (c + 1) t.1 with
      | true => kn t l (.int (nI (an c)) :: r) M
      | false => False
    | _, .ref c :: r => (ak c = 11 ∧ c < t.1) ∧ kn t l (.int (nI (an c)) :: r) M
    | _, _ => False
  | .dup => match st with
    | v :: r => match Nat.beq v.category 1 with
      | true => kn t l (v :: v :: r) M
      | false => False
    | _ => False
  | .dup2 => match st with
    | v :: w :: r => match Nat.beq v.category 1 && Nat.beq w.category 1 with
      | true => kn t l (v :: w :: v :: w :: r) M
      | false => False
    | _ => False
  | .pop => match st with
    | v :: r => match Nat.beq v.category 1 with
      | true => kn t l r M
      | false => False
    | _ => False
  | .ireturn => match t.2.1, st with
    | 0, [.int x] => match rz i with
      | true => isB x ∧ Q (some (.int x)) M
      | false => Q (some (.int x)) M
    | _, _ => False
  | .lreturn => match t.2.1, st with
    | 0, [.long x] => Q (some (.long x)) M
    | _, _ => False
  | .areturn => match t.2.1, st with
    | 0, [.ref x] => Q (some (.ref x)) M
    | _, _ => False
  | .return_ => match t.2.1, st with
    | 0, [] => Q none M
    | _, _ => False
  | .invokevirtual _ => match tb with
    | [n, rt, dec] => match st.drop n with
      | .ref o :: r => match Nat.beq (ak o) (oC a) && Nat.ble (o + 1) t.1 && Nat.ble (cats r) 8 && Nat.ble n st.length with
        | true => match rt with
          | 0 => ivk dec e (fun e1 => wpV G e1 t.1 a (.ref o :: (st.take n).reverse) M (fun mi ml => kn t l r (mi, ml, M.2.2)))
          | 1 => ivk dec e (fun e1 => wpI G e1 t.1 a (.ref o :: (st.take n).reverse) M (fun x mi ml => kn t l (.int x :: r) (mi, ml, M.2.2)))
          | 2 => ivk dec e (fun e1 => wpR G e1 t.1 a (.ref o :: (st.take n).reverse) M (fun x mi ml => kn t l (.ref x :: r) (mi, ml, M.2.2)))
          | 3 => ivk dec e (fun e1 => wpL G e1 t.1 a (.ref o :: (st.take n).reverse) M (fun x mi ml => kn t l (.long x :: r) (mi, ml, M.2.2)))
          | _ => False
        | false => False
      | _ => False
    | [3] => match st with
      | .ref c :: r => match Nat.ble (cats r) 8 with
        | true => (SP < c ∧ c < SP + 4) ∧ kn t l (.int (nI (slen c)) :: r) M
        | false => False
      | _ => False
    | [4] => match st with
      | .int j :: .ref c :: r => match Nat.ble (cats r) 8 with
        | true => (SP < c ∧ c < SP + 4) ∧ vp_in j (slen c) ∧ kn t l (.int (schr c (ix j)) :: r) M
        | false => False
      | _ => False
    | _ => False
  | .invokestatic _ => match tb with
    | [n, rt, _] => match Nat.ble (cats (st.drop n)) 8 && Nat.ble n st.length with
      | true => match rt with
        | 0 => wpV G e t.1 a (st.take n).reverse M (fun mi ml => kn t l (st.drop n) (mi, ml, M.2.2))
        | 1 => wpI G e t.1 a (st.take n).reverse M (fun x mi ml => kn t l (.int x :: st.drop n) (mi, ml, M.2.2))
        | 3 => wpL G e t.1 a (st.take n).reverse M (fun x mi ml => kn t l (.long x :: st.drop n) (mi, ml, M.2.2))
        | _ => False
      | false => False
    | [1] => match st with
      | .int y :: .int x :: r => match Nat.ble (cats r) 8 with
        | true => kn t l (.int (if y < x then y else x) :: r) M
        | false => False
      | _ => False
    | [2] => match st with
      | .int n :: .int dp :: .ref c1 :: .int sp :: .ref c0 :: r => match Nat.ble (cats r) 8 with
        | true => ((ak c0 = 11 ∧ c0 < t.1) ∧ (ak c1 = 11 ∧ c1 < t.1)) ∧ (¬ sp < 0 ∧ ¬ dp < 0 ∧ ¬ n < 0 ∧ ix sp + ix n ≤ an c0 ∧ ix dp + ix n ≤ an c1) ∧ kn t l r (ur M.1 c1 (va_cpy (M.1 c0) (M.1 c1) (ix sp) (ix dp) (ix n)), M.2)
        | false => False
      | _ => False
    | _ => False
  | .invokespecial _ => match tb with
    | [n, _, _] => match st.drop n with
      | .ref o :: r => match Nat.ble (cats r) 8 with
        | true => ((alc a).1 ≤ t.2.1 ∧ (alc a).2 ≤ t.2.2) ∧ wpc G e t.1 a (.ref o :: (st.take n).reverse) M (fun v M1 => v = none ∧ wp G e (t.1 + (alc a).1, t.2.1 - (alc a).1, t.2.2 - (alc a).2) i (pc + 3) l r M1 Q)
        | false => False
      | _ => False
    | [] => match st with
      | .ref _ :: r => match Nat.ble (cats r) 8 with
        | true => kn t l r M
        | false => False
      | _ => False
    | _ => False
  | .new _ => match mx i && Nat.beq (ak t.1) a && Nat.ble 1 t.2.1 && Nat.ble (an t.1) t.2.2 with
    | true => kn (t.1 + 1, t.2.1 - 1, t.2.2 - an t.1) l (.ref t.1 :: st) M
    | false => False
  | .newarray ty => match st with
    | .int n :: r => match mx i && (match ty with | .int => Nat.beq (ak t.1) 11 | .boolean => Nat.beq (ak t.1) 12 | _ => false) && Nat.ble 1 t.2.1 && Nat.ble (an t.1) t.2.2 with
      | true => n = nI (an t.1) ∧ kn (t.1 + 1, t.2.1 - 1, t.2.2 - an t.1) l (.ref t.1 :: r) M
      | false => False
    | _ => False
  | .multianewarray _ _ => match st with
    | .int k :: .int n :: r => match mx i && Nat.beq (ak t.1) 13 && Nat.beq (rb t.1) (t.1 + 1) && Nat.ble (1 + an t.1) t.2.1 && Nat.ble (an t.1 + an t.1 * an (t.1 + 1)) t.2.2 && (List.range (an t.1)).all (fun j => Nat.beq (ak (t.1 + 1 + j)) 11 && Nat.beq (an (t.1 + 1 + j)) (an (t.1 + 1))) with
      | true => (n = nI (an t.1) ∧ k = nI (an (t.1 + 1))) ∧ kn (t.1 + 1 + an t.1, t.2.1 - (1 + an t.1), t.2.2 - (an t.1 + an t.1 * an (t.1 + 1))) l (.ref t.1 :: r) M
      | false => False
    | _ => False
  | _ => False
def sfx (i tg : Nat) : List RI := (cd i).dropWhile (fun x => x.1 != tg)
def vc (G : GC) (e i : Nat) (Q : Option Value → Mem → Prop) : Nat → List RI → T3 → LV → List Value → Mem → Prop
  | 0, _, _, _, _, _ => False
  | _ + 1, [], _, _, _, _ => False
  | f + 1, x :: rs, t, l, st, M => vi G e i Q x.1 (vc G e i Q f rs) (fun tg => vc G e i Q f (sfx i tg)) x.2.2.1 x.2.2.2.1 x.2.2.2.2.1 x.2.2.2.2.2 t l st M
