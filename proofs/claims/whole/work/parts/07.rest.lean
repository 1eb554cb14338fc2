/-! the other rules: constructors, what is made, the JDK's own, switches, ends -/
section RR
variable {G : GC} {e e1 i j pc idx : Nat} {t : T3} {l : LV} {r As : List Value} {M : Mem} {Q : Option Value → Mem → Prop}
theorem r_invI {o : Nat} (hd : decode (bC i) pc = .ok (.invokespecial idx, 3)) (hj : jOk j) (hl : Jvm.Cond.methodLink (ow i) idx (yM j) ∈ gdt) (hin : Jvm.Cond.instanceMethod (yM j) ∈ gdt) (hnm : (yM j).name = "<init>") (hrt : rT j = none) (hxi : mx i = true) (ha1 : (alc j).1 ≤ t.2.1) (ha2 : (alc j).2 ≤ t.2.2)
    (hdp : dep j + e + 1 ≤ dep i + e) (hn : As.length = na j) (hcr : cats r ≤ 8) (k1 : wpc G e t.1 j (.ref o :: As) M (fun v M1 => v = none ∧ wp G e (t.1 + (alc j).1, t.2.1 - (alc j).1, t.2.2 - (alc j).2) i (pc + 3) l r M1 Q)) : wp G e t i pc l (As.reverse ++ .ref o :: r) M Q := by
  intro p lch e0 R s m args below meth c H locs cells slots Z ls mc ms cur C hc hR hlo hl2 h1 h2 h3 h4 hF
  obtain ⟨hx0, hb, hml, hown, hts, hret, hlocks, hini, hE, hfr, hlo2⟩ := id C
  have hst : lst G (As.reverse ++ .ref o :: r) = (lst G As).reverse ++ .ref (adr G o) :: lst G r := by
    unfold lst
    rw [List.map_append, List.map_reverse]
    rfl
  rw [hst]
  have hM := k1 lch cur (hc.call (fun _ => hxi))
  have hcb := callB_M (i := i) (j := j) (e := e) (e1 := e) (idx := idx) (R := R) hts hj hl hdp hfr hlo2
  rw [hrt] at hcb
  have hrun := va_runI (As := lst G As) (rest := lst G r) (g := F0 m pc ls ((lst G As).reverse ++ .ref (adr G o) :: lst G r)) (b := adr G o) (l := lch) (R := R) (e := e0) (below := below) (meth := meth) (H := H) (locs := locs) (cells := cells) (slots := slots) ⟨hx0, hb, hml, hown, hts⟩ hM ⟨hcb, hnm, hts _ hin⟩
    ⟨blindM, fun U hU hW => ⟨rfl, by rw [hU]; exact hR, hE.warm hW⟩⟩ rfl (by unfold lst; rw [List.length_map]; exact hn) hl2.1 rfl (lv_room (by rw [cats_lst]; exact hcr)) hd ⟨by omega, by omega⟩
  refine wp_back (M := M) (K := fun v M1 => v = none ∧ wp G e (t.1 + (alc j).1, t.2.1 - (alc j).1, t.2.2 - (alc j).2) i (pc + 3) l r M1 Q) hrun hlo ?_
  intro v M1 H1 locs1 hK hmr hR1 hlo1
  obtain ⟨rfl, hK⟩ := hK
  exact hK p lch e0 R s m args below meth c H1 locs1 _ _ Z ls mc ms _ C (hc.past (Or.inr hxi)) hR1 hlo1 hl2 (by show cells + (alc j).1 + (t.2.1 - (alc j).1) ≤ _; omega) (by show slots + (alc j).2 + (t.2.2 - (alc j).2) ≤ _; omega) h3 h4
    (fun v M H locs cells slots pc ls a1 a2 a3 => hF v M H locs cells slots pc ls a1 (fun q => by rw [hxi] at q; cases q) (by rw [show cur + (alc j).1 + (t.2.1 - (alc j).1) = cur + t.2.1 by omega] at a3; exact a3))
theorem r_invIN {o : Nat} (hd : decode (bC i) pc = .ok (.invokespecial 70, 3)) (hoi : ow i = RX9) (hyj : yM j = yX6_init) (hj : jOk j) (hin : Jvm.Cond.instanceMethod (yM j) ∈ gdt) (hnm : (yM j).name = "<init>") (hrt : rT j = none) (hxi : mx i = true) (ha1 : (alc j).1 ≤ t.2.1) (ha2 : (alc j).2 ≤ t.2.2)
    (hdp : dep j + e + 1 ≤ dep i + e) (hn : As.length = na j) (hcr : cats r ≤ 8) (k1 : wpc G e t.1 j (.ref o :: As) M (fun v M1 => v = none ∧ wp G e (t.1 + (alc j).1, t.2.1 - (alc j).1, t.2.2 - (alc j).2) i (pc + 3) l r M1 Q)) : wp G e t i pc l (As.reverse ++ .ref o :: r) M Q := by
  intro p lch e0 R s m args below meth c H locs cells slots Z ls mc ms cur C hc hR hlo hl2 h1 h2 h3 h4 hF
  obtain ⟨hx0, hb, hml, hown, hts, hret, hlocks, hini, hE, hfr, hlo2⟩ := id C
  have hst : lst G (As.reverse ++ .ref o :: r) = (lst G As).reverse ++ .ref (adr G o) :: lst G r := by
    unfold lst
    rw [List.map_append, List.map_reverse]
    rfl
  rw [hst]
  have hM := k1 lch cur (hc.call (fun _ => hxi))
  have hNw := hE.2.2.2.2.2.2
  obtain ⟨j1, j2, j3, j4⟩ := id hj
  have hcb := va_cnB (R := R) (index := 70) (own := ow i) (host := "PowersForTimes") (na j) hts (good_wsM j1) (ws' := gdt) rfl (rm := rmM e j) rfl rfl (by rw [hoi, hyj]; exact hNw) (hts _ j2) j3 ⟨by show dep j + e + 1 ≤ _; omega, by show 8 + (nL j + 11) + 60 * (dep j + e) ≤ _; omega⟩
  rw [hrt] at hcb
  have hrun := va_runIN (As := lst G As) (rest := lst G r) (g := F0 m pc ls ((lst G As).reverse ++ .ref (adr G o) :: lst G r)) (b := adr G o) (l := lch) (R := R) (e := e0) (below := below) (meth := meth) (H := H) (locs := locs) (cells := cells) (slots := slots) ⟨hx0, hb, hml, hown, hts⟩ hM ⟨hcb, hnm, hts _ hin⟩
    ⟨blindM, fun U hU hW => ⟨rfl, by rw [hU]; exact hR, hE.warm hW⟩⟩ rfl (by unfold lst; rw [List.length_map]; exact hn) hl2.1 rfl (lv_room (by rw [cats_lst]; exact hcr)) hd ⟨by omega, by omega⟩
  refine wp_back (M := M) (K := fun v M1 => v = none ∧ wp G e (t.1 + (alc j).1, t.2.1 - (alc j).1, t.2.2 - (alc j).2) i (pc + 3) l r M1 Q) hrun hlo ?_
  intro v M1 H1 locs1 hK hmr hR1 hlo1
  obtain ⟨rfl, hK⟩ := hK
  exact hK p lch e0 R s m args below meth c H1 locs1 _ _ Z ls mc ms _ C (hc.past (Or.inr hxi)) hR1 hlo1 hl2 (by show cells + (alc j).1 + (t.2.1 - (alc j).1) ≤ _; omega) (by show slots + (alc j).2 + (t.2.2 - (alc j).2) ≤ _; omega) h3 h4
    (fun v M H locs cells slots pc ls a1 a2 a3 => hF v M H locs cells slots pc ls a1 (fun q => by rw [hxi] at q; cases q) (by rw [show cur + (alc j).1 + (t.2.1 - (alc j).1) = cur + t.2.1 by omega] at a3; exact a3))
theorem obj_words : Jvm.Cond.instanceMethod objectInit ∈ gdt ∧ Jvm.Cond.code objectInit ⟨#[0xb1]⟩ 1 none ∈ gdt := by decide +kernel
theorem r_objInit {o : Nat} (hd : decode (bC i) pc = .ok (.invokespecial idx, 3)) (hl : Jvm.Cond.methodLink (ow i) idx objectInit ∈ gdt) (hdp : 1 ≤ dep i) (hcr : cats r ≤ 8) (k1 : wp G e t i (pc + 3) l r M Q) : wp G e t i pc l (.ref o :: r) M Q := by
  intro p lch e0 R s m args below meth c H locs cells slots Z ls mc ms cur C hc hR hlo hl2 h1 h2 h3 h4 hF
  have hw := k1 p lch e0 R s m args below meth c H locs cells slots Z ls mc ms cur C hc hR hlo hl2 h1 h2 h3 h4 hF
  obtain ⟨hx0, hb, hml, hown, hts, hret, hlocks, hini, hE, hfr, hlo2⟩ := id C
  exact W.objInit hx0 hb hown (hts _ hl) (hts _ obj_words.1) (hts _ obj_words.2) rfl (by rw [hml]; exact hl2.1) (a := adr G o) (rest := lst G r) rfl hd (by omega) (by show 2 * 0 + _ + 12 ≤ _; rw [cats_lst]; omega) hw
theorem min_words : Jvm.Cond.static Lib.Math.min.name ∈ gdt ∧ Jvm.Cond.initialized "java/lang/Math" ∈ gdt ∧ Jvm.Cond.code Lib.Math.min.name Lib.Math.min.code 2 (some .int) ∈ gdt ∧ Jvm.Cond.methodLink RX4 71 Lib.Math.min.name ∈ gdt ∧ Jvm.Cond.methodLink RX7 41 Lib.Math.min.name ∈ gdt := by decide +kernel
theorem r_min {x y : Int32} (hd : decode (bC i) pc = .ok (.invokestatic idx, 3)) (hl : (ow i = RX4 ∧ idx = 71) ∨ (ow i = RX7 ∧ idx = 41)) (hdp : 1 ≤ dep i) (hcr : cats r ≤ 8) (k1 : wp G e t i (pc + 3) l (.int (if y < x then y else x) :: r) M Q) : wp G e t i pc l (.int y :: .int x :: r) M Q := by
  intro p lch e0 R s m args below meth c H locs cells slots Z ls mc ms cur C hc hR hlo hl2 h1 h2 h3 h4 hF
  have hw := k1 p lch e0 R s m args below meth c H locs cells slots Z ls mc ms cur C hc hR hlo hl2 h1 h2 h3 h4 hF
  obtain ⟨hx0, hb, hml, hown, hts, hret, hlocks, hini, hE, hfr, hlo2⟩ := id C
  obtain ⟨w1, w2, w3, w4, w5⟩ := min_words
  have hl' : Jvm.Cond.methodLink (ow i) idx Lib.Math.min.name ∈ gdt := by
    rcases hl with ⟨a, b⟩ | ⟨a, b⟩
    · rw [a, b]; exact w4
    · rw [a, b]; exact w5
  exact va_mmin hx0 hb (by rw [hml]; exact hl2.1.symm) hown (hts _ hl') (hts _ w1) (hts _ w2) (hts _ w3) (by omega) (by show ((lst G r).map fun v => v.category).sum + 13 ≤ _; rw [cats_lst]; omega) (by omega) (by omega) hd hw
theorem r_ldc2 {a : Nat} (hd : decode (bC i) pc = .ok (.ldc2_w idx, 3)) (hl : Jvm.Cond.constantLong (ow i) idx (lN a) ∈ gdt) (k1 : wp G e t i (pc + 3) l (.long (lN a) :: r) M Q) : wp G e t i pc l r M Q :=
  wp_of (fun _ _ _ _ _ _ _ _ _ _ _ _ _ _ _ _ C hl2 w => lv_ldc2 C.1 C.2.1 C.2.2.2.1 (C.2.2.2.2.1 _ hl) hd w) k1
theorem r_ldcI {a : Nat} (hd : decode (bC i) pc = .ok (.ldc idx, 2)) (hl : Jvm.Cond.constant (ow i) idx (nI a) ∈ gdt) (k1 : wp G e t i (pc + 2) l (.int (nI a) :: r) M Q) : wp G e t i pc l r M Q :=
  wp_of (fun _ _ _ _ _ _ _ _ _ _ _ _ _ _ _ _ C hl2 w => lv_ldc C.1 C.2.1 C.2.2.2.1 (C.2.2.2.2.1 _ hl) hd w) k1
theorem r_ldcS {a : Nat} (hd : decode (bC i) pc = .ok (.ldc idx, 2)) (ho : ow i = "PowersForTimes$Reader") (h : (idx = 94 ∧ a = 1) ∨ (idx = 100 ∧ a = 2) ∨ (idx = 126 ∧ a = 3)) (k1 : wp G e t i (pc + 2) l (.ref (SP + a) :: r) M Q) : wp G e t i pc l r M Q := by
  refine wp_of (fun p lch e0 R s m args below meth c H locs cells slots Z ls C hl2 w => ?_) k1
  have hw : lst G (.ref (SP + a) :: r) = .ref (gsp G a) :: lst G r := by
    show Value.ref (adr G (SP + a)) :: _ = _
    rw [adr_sp]
    rfl
  rw [hw] at w
  obtain ⟨g1, g2, g3, -⟩ := C.2.2.2.2.2.2.2.2.1.2.2.2.2.1
  have hown := C.2.2.2.1
  rw [ho] at hown
  rcases h with ⟨rfl, rfl⟩ | ⟨rfl, rfl⟩ | ⟨rfl, rfl⟩
  · exact va_ldcS C.1 C.2.1 hown g1 hd w
  · exact va_ldcS C.1 C.2.1 hown g2 hd w
  · exact va_ldcS C.1 C.2.1 hown g3 hd w
-- switches
def lk (n d : Nat) : List Nat → Nat
  | k :: tg :: r => if n = k then tg else lk n d r
  | _ => d
def kys : List Nat → List Nat
  | k :: _ :: r => k :: kys r
  | _ => []
theorem sw_in {kk : Nat → Prop} {n d : Nat} (hn : n < 2 ^ 31) : ∀ {tb : List Nat}, (∀ k ∈ kys tb, k < 2 ^ 31) → sw (nI n) kk d tb → kk (lk n d tb)
  | [], _, h => h
  | [_], _, h => h
  | k :: tg :: r, hk, h => by
    have hk0 : k < 2 ^ 31 := hk k List.mem_cons_self
    unfold lk
    by_cases e : n = k
    · rw [if_pos e]
      exact h.1 (by rw [e])
    · rw [if_neg e]
      exact sw_in hn (fun k' h' => hk k' (List.mem_cons_of_mem _ h')) (h.2 (fun q => e ((nI_eq hn hk0).mp q)))
theorem sw_out {kk : Nat → Prop} {x : Int32} {d : Nat} : ∀ {tb : List Nat}, (∀ k ∈ kys tb, ¬ x = nI k) → sw x kk d tb → kk d
  | [], _, h => h
  | [_], _, h => h
  | k :: tg :: r, hk, h => sw_out (fun k' h' => hk k' (List.mem_cons_of_mem _ h')) (h.2 (hk k List.mem_cons_self))
def tswOk (pc a : Nat) (tb : List Nat) (dflt lo hi : Int) (offs : Array Int) : Bool :=
  decide ((pc : Int) + dflt = a) && decide (lo = 0) && decide (hi + 1 = (offs.size : Int)) && decide (offs.size < 1000) && (kys tb).all (fun k => decide (k < offs.size)) &&
  (List.range offs.size).all (fun n => match offs[n]? with | some o => decide ((pc : Int) + o = (lk n a tb : Int)) | none => false)
theorem r_tsw {a len : Nat} {tb : List Nat} {x : Int32} {dflt lo hi : Int} {offs : Array Int} (hd : decode (bC i) pc = .ok (.tableswitch dflt lo hi offs, len)) (hk : tswOk pc a tb dflt lo hi offs = true) (h : sw x (fun tg => wp G e t i tg l r M Q) a tb) : wp G e t i pc l (.int x :: r) M Q := by
  unfold tswOk at hk
  simp only [Bool.and_eq_true, decide_eq_true_eq] at hk
  obtain ⟨⟨⟨⟨⟨h1, rfl⟩, h3⟩, h4⟩, h5⟩, h6⟩ := hk
  have hkeys : ∀ k ∈ kys tb, k < offs.size := fun k hk => by simpa using List.all_eq_true.mp h5 k hk
  by_cases hx : x.toInt < 0 ∨ hi < x.toInt
  · have hw := sw_out (x := x) (fun k hk q => by
      have h8 := hkeys k hk
      rw [q, nI_toInt (by omega)] at hx
      omega) h
    exact wp_of (fun _ _ _ _ _ _ _ _ _ _ _ _ _ _ _ _ C hl2 w => lv_tableOut C.1 C.2.1 hd hx h1 w) hw
  · have hx1 : ¬ x.toInt < 0 := fun q => hx (Or.inl q)
    have hx2 : ¬ hi < x.toInt := fun q => hx (Or.inr q)
    have hn : x.toInt.toNat < offs.size := by omega
    have hxe : x = nI x.toInt.toNat := Int32.toInt_inj.mp (by rw [nI_toInt (by omega)]; omega)
    have h7 := List.all_eq_true.mp h6 x.toInt.toNat (List.mem_range.mpr hn)
    cases ho : offs[x.toInt.toNat]? with
    | none => rw [ho] at h7; cases h7
    | some off =>
      rw [ho] at h7
      simp only [decide_eq_true_eq] at h7
      rw [hxe] at h
      have hw := sw_in (by omega) (fun k hk => by have := hkeys k hk; omega) h
      exact wp_of (fun _ _ _ _ _ _ _ _ _ _ _ _ _ _ _ _ C hl2 w => lv_tableIn C.1 C.2.1 hd hx1 hx2 (by rw [show (x.toInt - 0).toNat = x.toInt.toNat by omega]; exact ho) h7 w) hw
def prs : List Nat → List (Nat × Nat)
  | k :: tg :: r => (k, tg) :: prs r
  | _ => []
def lswOk (pc a : Nat) (tb : List Nat) (dflt : Int) (ps : Array (Int × Int)) : Bool :=
  decide ((pc : Int) + dflt = a) && (ps.toList.zip (ps.toList.drop 1)).all (fun (a, next) => decide (a.1 < next.1)) && decide (ps.toList = (prs tb).map (fun q => ((q.1 : Int), (q.2 : Int) - pc))) && (kys tb).all (fun k => decide (k < 2 ^ 31)) && decide (2 * (prs tb).length = tb.length)
theorem r_lsw_aux {x : Int32} {a : Nat} {dflt : Int} (hd : (pc : Int) + dflt = a) : ∀ {tb : List Nat}, (∀ k ∈ kys tb, k < 2 ^ 31) → 2 * (prs tb).length = tb.length → sw x (fun tg => wp G e t i tg l r M Q) a tb → ∃ (off : Int) (tg : Nat), Op.lookupswitch.offset ((prs tb).map (fun q => ((q.1 : Int), (q.2 : Int) - pc))) dflt x.toInt = off ∧ (pc : Int) + off = tg ∧ wp G e t i tg l r M Q
  | [], _, _, h => ⟨dflt, a, by simp [prs, Op.lookupswitch.offset], hd, h⟩
  | [_], _, hl, _ => by simp [prs] at hl
  | k :: tg :: tb, hk, hl, h => by
    have hk0 : k < 2 ^ 31 := hk k List.mem_cons_self
    by_cases e : x = nI k
    · refine ⟨(tg : Int) - pc, tg, ?_, by omega, h.1 e⟩
      show Op.lookupswitch.offset (((k : Int), (tg : Int) - pc) :: _) dflt x.toInt = _
      rw [Op.lookupswitch.offset_cons, if_pos (by rw [e, nI_toInt hk0])]
    · obtain ⟨off, tg2, h1, h2, h3⟩ := r_lsw_aux hd (tb := tb) (fun k' h' => hk k' (List.mem_cons_of_mem _ h')) (by simp [prs] at hl; omega) (h.2 e)
      refine ⟨off, tg2, ?_, h2, h3⟩
      show Op.lookupswitch.offset (((k : Int), (tg : Int) - pc) :: _) dflt x.toInt = _
      rw [lv_osw e (nI_toInt hk0)]
      exact h1
theorem r_lsw {a len : Nat} {tb : List Nat} {x : Int32} {dflt : Int} {ps : Array (Int × Int)} (hd : decode (bC i) pc = .ok (.lookupswitch dflt ps, len)) (hk : lswOk pc a tb dflt ps = true) (h : sw x (fun tg => wp G e t i tg l r M Q) a tb) : wp G e t i pc l (.int x :: r) M Q := by
  unfold lswOk at hk
  simp only [Bool.and_eq_true, decide_eq_true_eq] at hk
  obtain ⟨⟨⟨⟨h1, h2⟩, h3⟩, h4⟩, h5⟩ := hk
  obtain ⟨off, tg, g1, g2, g3⟩ := r_lsw_aux (pc := pc) h1 (fun k hk => by simpa using List.all_eq_true.mp h4 k hk) h5 h
  rw [← h3] at g1
  exact wp_of (fun _ _ _ _ _ _ _ _ _ _ _ _ _ _ _ _ C hl2 w => lv_lookup C.1 C.2.1 hd h2 g1 g2 w) g3
theorem r_ret {v : Option Value} (hr : RetAt i pc v) (hk : t.2.1 = 0) (h : Q v M) : wp G e t i pc l v.toList M Q := by
  intro p lch e0 R s m args below meth c H locs cells slots Z ls mc ms cur C hc hR hlo hl2 h1 h2 h3 h4 hF
  exact hF v M H locs cells slots pc ls h (fun _ => rfl) (by rw [hk]; exact hR) hlo (by omega) (by omega) hr
end RR
