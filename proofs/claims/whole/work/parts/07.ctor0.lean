/-! constructors: the judgement WL over a list of cells that grows -/
def WL (X : wk_X) (cs ss : Nat) (D : va_G) (A : Nat → Prop) (tys : List (ClassId × FieldType)) (ws : va_W) (pc : Nat) (lv : List (Nat × Value)) (st : List Value) : Prop :=
  match X with
  | (p, l, e, R, s, m, args, below, meth, c, Q, nL, _, _) => ∀ (H : Heap) (locs : List Loc) (ls : Array Slot), va_K D classes tys s → va_P D classes ws H → va_D A ws → va_S A s.heap H locs → wk_lv ls nL lv → W p l e R s m args below meth c H locs cs ss Q (F0 m pc ls st)
def wl_C (X : wk_X) (A : Nat → Prop) (cc : ByteArray) (own : String) (nL0 fr lo rc rs : Nat) : Prop :=
  match X with
  | (p, l, e, R, s, m, args, below, meth, c, Q, nL, _, _) => p.tables.exec = Jvm.exec ∧ c.code = cc ∧ c.maxLocals = nL ∧ s.vm.findClass own = some m.cls ∧ (∀ w ∈ lw_g, w.before args s = true) ∧ nL = nL0 ∧ fr ≤ R.frames ∧ lo ≤ R.locals ∧ rc ≤ R.cells ∧ rs ≤ R.slots ∧ ∀ q : Nat, s.heap.size ≤ q → A q
def wl_F (X : wk_X) (F : State → Prop) : Prop :=
  match X with
  | (p, l, e, R, s, m, args, below, meth, c, Q, nL, _, _) => F s
theorem wl_Ft {X : wk_X} {F : State → Prop} (h : ∀ s, F s) : wl_F X F := by
  obtain ⟨p, l, e, R, s, m, args, below, meth, c, Q, nL, c0, s0⟩ := X
  exact h s
theorem wl_Fi {X : wk_X} {F G : State → Prop} (h : ∀ s, F s → G s) (hF : wl_F X F) : wl_F X G := by
  obtain ⟨p, l, e, R, s, m, args, below, meth, c, Q, nL, c0, s0⟩ := X
  exact h s hF
theorem wl_is {X : wk_X} {cs ss c9 s9 : Nat} {D : va_G} {A : Nat → Prop} {tys tys' : List (ClassId × FieldType)} {ws ws' : va_W} {pc : Nat} {lv : List (Nat × Value)} {st : List Value} (h1 : ws = ws') (h2 : tys = tys') (h3 : cs = c9) (h4 : ss = s9) (k : WL X c9 s9 D A tys' ws' pc lv st) : WL X cs ss D A tys ws pc lv st := by
  subst h1
  subst h2
  subst h3
  subst h4
  exact k
def wl_I (X : wk_X) : Prop :=
  match X with
  | (p, l, e, R, s, m, args, below, meth, c, Q, nL, _, _) => meth.name = "<init>"

theorem wl_iconst {X : wk_X} {cs ss : Nat} {D : va_G} {A : Nat → Prop} {tys : List (ClassId × FieldType)} {ws : va_W} {pc : Nat} {lv : List (Nat × Value)} {st : List Value} {cc : ByteArray} {own : String} {nL fr lo rc rs : Nat} (C : wl_C X A cc own nL fr lo rc rs) {n : Int} {v : Int32} (d : decode cc pc = .ok (.iconst n, 1)) (hv : Int32.ofInt n = v) (k : WL X cs ss D A tys ws (pc + 1) lv (.int v :: st)) : WL X cs ss D A tys ws pc lv (st) := by
  obtain ⟨p, l, e, R, s, m, args, below, meth, c, Q, nL0, c0, s0⟩ := X
  obtain ⟨hx, hb, hml, hown, hts, rfl, hfr, hlo, hrc, hrs, hA⟩ := C
  intro H locs ls hK hP hD hS hl
  exact lv_iconst hx hb d hv (k H locs ls hK hP hD hS hl)

theorem wl_bipush {X : wk_X} {cs ss : Nat} {D : va_G} {A : Nat → Prop} {tys : List (ClassId × FieldType)} {ws : va_W} {pc : Nat} {lv : List (Nat × Value)} {st : List Value} {cc : ByteArray} {own : String} {nL fr lo rc rs : Nat} (C : wl_C X A cc own nL fr lo rc rs) {n : Int} {v : Int32} (d : decode cc pc = .ok (.bipush n, 2)) (hv : (Int8.ofInt n).toInt32 = v) (k : WL X cs ss D A tys ws (pc + 2) lv (.int v :: st)) : WL X cs ss D A tys ws pc lv (st) := by
  obtain ⟨p, l, e, R, s, m, args, below, meth, c, Q, nL0, c0, s0⟩ := X
  obtain ⟨hx, hb, hml, hown, hts, rfl, hfr, hlo, hrc, hrs, hA⟩ := C
  intro H locs ls hK hP hD hS hl
  exact lv_bipush hx hb d hv (k H locs ls hK hP hD hS hl)

theorem wl_sipush {X : wk_X} {cs ss : Nat} {D : va_G} {A : Nat → Prop} {tys : List (ClassId × FieldType)} {ws : va_W} {pc : Nat} {lv : List (Nat × Value)} {st : List Value} {cc : ByteArray} {own : String} {nL fr lo rc rs : Nat} (C : wl_C X A cc own nL fr lo rc rs) {n : Int} {v : Int32} (d : decode cc pc = .ok (.sipush n, 3)) (hv : (Int16.ofInt n).toInt32 = v) (k : WL X cs ss D A tys ws (pc + 3) lv (.int v :: st)) : WL X cs ss D A tys ws pc lv (st) := by
  obtain ⟨p, l, e, R, s, m, args, below, meth, c, Q, nL0, c0, s0⟩ := X
  obtain ⟨hx, hb, hml, hown, hts, rfl, hfr, hlo, hrc, hrs, hA⟩ := C
  intro H locs ls hK hP hD hS hl
  exact lv_sipush hx hb d hv (k H locs ls hK hP hD hS hl)

theorem wl_iload_n {X : wk_X} {cs ss : Nat} {D : va_G} {A : Nat → Prop} {tys : List (ClassId × FieldType)} {ws : va_W} {pc : Nat} {lv : List (Nat × Value)} {st : List Value} {cc : ByteArray} {own : String} {nL fr lo rc rs : Nat} (C : wl_C X A cc own nL fr lo rc rs) {n : Fin 4} (i : Nat) {x : Int32} (d : decode cc pc = .ok (.iload_n n, 1)) (hi : (n : Nat) = i) (hk : lv.lookup i = some (.int x)) (k : WL X cs ss D A tys ws (pc + 1) lv (.int x :: st)) : WL X cs ss D A tys ws pc lv (st) := by
  obtain ⟨p, l, e, R, s, m, args, below, meth, c, Q, nL0, c0, s0⟩ := X
  obtain ⟨hx, hb, hml, hown, hts, rfl, hfr, hlo, hrc, hrs, hA⟩ := C
  intro H locs ls hK hP hD hS hl
  exact lv_iload_n hx hb d hi (hl.2.2 i _ hk).1 (k H locs ls hK hP hD hS hl)

theorem wl_aload_n {X : wk_X} {cs ss : Nat} {D : va_G} {A : Nat → Prop} {tys : List (ClassId × FieldType)} {ws : va_W} {pc : Nat} {lv : List (Nat × Value)} {st : List Value} {cc : ByteArray} {own : String} {nL fr lo rc rs : Nat} (C : wl_C X A cc own nL fr lo rc rs) {n : Fin 4} (i : Nat) {x : Nat} (d : decode cc pc = .ok (.aload_n n, 1)) (hi : (n : Nat) = i) (hk : lv.lookup i = some (.ref x)) (k : WL X cs ss D A tys ws (pc + 1) lv (.ref x :: st)) : WL X cs ss D A tys ws pc lv (st) := by
  obtain ⟨p, l, e, R, s, m, args, below, meth, c, Q, nL0, c0, s0⟩ := X
  obtain ⟨hx, hb, hml, hown, hts, rfl, hfr, hlo, hrc, hrs, hA⟩ := C
  intro H locs ls hK hP hD hS hl
  exact lv_aload_n hx hb d hi (hl.2.2 i _ hk).1 (k H locs ls hK hP hD hS hl)

theorem wl_dup {X : wk_X} {cs ss : Nat} {D : va_G} {A : Nat → Prop} {tys : List (ClassId × FieldType)} {ws : va_W} {pc : Nat} {lv : List (Nat × Value)} {st : List Value} {cc : ByteArray} {own : String} {nL fr lo rc rs : Nat} (C : wl_C X A cc own nL fr lo rc rs) {va : Value} (d : decode cc pc = .ok (.dup, 1)) (hva : va.category = 1) (k : WL X cs ss D A tys ws (pc + 1) lv (va :: va :: st)) : WL X cs ss D A tys ws pc lv (va :: st) := by
  obtain ⟨p, l, e, R, s, m, args, below, meth, c, Q, nL0, c0, s0⟩ := X
  obtain ⟨hx, hb, hml, hown, hts, rfl, hfr, hlo, hrc, hrs, hA⟩ := C
  intro H locs ls hK hP hD hS hl
  exact lv_dup hx hb d hva (k H locs ls hK hP hD hS hl)

theorem wl_istore_n {X : wk_X} {cs ss : Nat} {D : va_G} {A : Nat → Prop} {tys : List (ClassId × FieldType)} {ws : va_W} {pc : Nat} {lv : List (Nat × Value)} {st : List Value} {cc : ByteArray} {own : String} {nL fr lo rc rs : Nat} (C : wl_C X A cc own nL fr lo rc rs) {n : Fin 4} (i : Nat) {x : Int32} (d : decode cc pc = .ok (.istore_n n, 1)) (hi : (n : Nat) = i) (hn : i < nL) (k : WL X cs ss D A tys ws (pc + 1) ((i, .int x) :: lv) st) : WL X cs ss D A tys ws pc lv (.int x :: st) := by
  obtain ⟨p, l, e, R, s, m, args, below, meth, c, Q, nL0, c0, s0⟩ := X
  obtain ⟨hx, hb, hml, hown, hts, rfl, hfr, hlo, hrc, hrs, hA⟩ := C
  intro H locs ls hK hP hD hS hl
  subst hi
  obtain ⟨ls', e', h'⟩ := wk_store1 (v := .int x) hl hn rfl
  intro T hT Z
  obtain ⟨t, a, b⟩ := k H locs ls' hK hP hD hS h' T hT Z
  refine ⟨t, ?_, b⟩
  jvm_step Z.here [Z.here.top, ↓top_set Z.here.top, hx, hb, d, e']
  exact a

theorem wl_astore_n {X : wk_X} {cs ss : Nat} {D : va_G} {A : Nat → Prop} {tys : List (ClassId × FieldType)} {ws : va_W} {pc : Nat} {lv : List (Nat × Value)} {st : List Value} {cc : ByteArray} {own : String} {nL fr lo rc rs : Nat} (C : wl_C X A cc own nL fr lo rc rs) {n : Fin 4} (i : Nat) {x : Nat} (d : decode cc pc = .ok (.astore_n n, 1)) (hi : (n : Nat) = i) (hn : i < nL) (k : WL X cs ss D A tys ws (pc + 1) ((i, .ref x) :: lv) st) : WL X cs ss D A tys ws pc lv (.ref x :: st) := by
  obtain ⟨p, l, e, R, s, m, args, below, meth, c, Q, nL0, c0, s0⟩ := X
  obtain ⟨hx, hb, hml, hown, hts, rfl, hfr, hlo, hrc, hrs, hA⟩ := C
  intro H locs ls hK hP hD hS hl
  subst hi
  obtain ⟨ls', e', h'⟩ := wk_store1 (v := .ref x) hl hn rfl
  intro T hT Z
  obtain ⟨t, a, b⟩ := k H locs ls' hK hP hD hS h' T hT Z
  refine ⟨t, ?_, b⟩
  jvm_step Z.here [Z.here.top, ↓top_set Z.here.top, hx, hb, d, e', Value.isRef]
  exact a

theorem wl_iinc {X : wk_X} {cs ss : Nat} {D : va_G} {A : Nat → Prop} {tys : List (ClassId × FieldType)} {ws : va_W} {pc : Nat} {lv : List (Nat × Value)} {st : List Value} {cc : ByteArray} {own : String} {nL fr lo rc rs : Nat} (C : wl_C X A cc own nL fr lo rc rs) {i : Nat} {n : Int} {x v : Int32} (d : decode cc pc = .ok (.iinc i n, 3)) (hk : lv.lookup i = some (.int x)) (hv : x + Int32.ofInt n = v) (hn : i < nL) (k : WL X cs ss D A tys ws (pc + 3) ((i, .int v) :: lv) st) : WL X cs ss D A tys ws pc lv st := by
  obtain ⟨p, l, e, R, s, m, args, below, meth, c, Q, nL0, c0, s0⟩ := X
  obtain ⟨hx, hb, hml, hown, hts, rfl, hfr, hlo, hrc, hrs, hA⟩ := C
  intro H locs ls hK hP hD hS hl
  subst hv
  have hg := (hl.2.2 i _ hk).1
  obtain ⟨ls', e', h'⟩ := wk_store1 (v := .int (x + Int32.ofInt n)) hl hn rfl
  intro T hT Z
  obtain ⟨t, a, b⟩ := k H locs ls' hK hP hD hS h' T hT Z
  refine ⟨t, ?_, b⟩
  jvm_step Z.here [Z.here.top, ↓top_set Z.here.top, hx, hb, d, hg, e']
  exact a

theorem wl_goto {X : wk_X} {cs ss : Nat} {D : va_G} {A : Nat → Prop} {tys : List (ClassId × FieldType)} {ws : va_W} {pc : Nat} {lv : List (Nat × Value)} {st : List Value} {cc : ByteArray} {own : String} {nL fr lo rc rs : Nat} (C : wl_C X A cc own nL fr lo rc rs) {off : Int} {tgt : Nat} (d : decode cc pc = .ok (.goto off, 3)) (ht : (pc : Int) + off = (tgt : Int)) (k : WL X cs ss D A tys ws tgt lv st) : WL X cs ss D A tys ws pc lv st := by
  obtain ⟨p, l, e, R, s, m, args, below, meth, c, Q, nL0, c0, s0⟩ := X
  obtain ⟨hx, hb, hml, hown, hts, rfl, hfr, hlo, hrc, hrs, hA⟩ := C
  intro H locs ls hK hP hD hS hl
  exact lv_goto hx hb d ht (k H locs ls hK hP hD hS hl)

theorem wl_ge_t {X : wk_X} {cs ss : Nat} {D : va_G} {A : Nat → Prop} {tys : List (ClassId × FieldType)} {ws : va_W} {pc : Nat} {lv : List (Nat × Value)} {st : List Value} {cc : ByteArray} {own : String} {nL fr lo rc rs : Nat} (C : wl_C X A cc own nL fr lo rc rs) {x y : Int32} {off : Int} {tgt : Nat} (d : decode cc pc = .ok (.if_icmp .ge off, 3)) (ht : (pc : Int) + off = (tgt : Int)) (hc : y ≤ x) (k : WL X cs ss D A tys ws tgt lv st) : WL X cs ss D A tys ws pc lv (.int y :: .int x :: st) := by
  obtain ⟨p, l, e, R, s, m, args, below, meth, c, Q, nL0, c0, s0⟩ := X
  obtain ⟨hx, hb, hml, hown, hts, rfl, hfr, hlo, hrc, hrs, hA⟩ := C
  intro H locs ls hK hP hD hS hl
  exact lv_icmp_ge hx hb d ht (fun _ => k H locs ls hK hP hD hS hl) (fun z => absurd hc z)

theorem wl_ge_f {X : wk_X} {cs ss : Nat} {D : va_G} {A : Nat → Prop} {tys : List (ClassId × FieldType)} {ws : va_W} {pc : Nat} {lv : List (Nat × Value)} {st : List Value} {cc : ByteArray} {own : String} {nL fr lo rc rs : Nat} (C : wl_C X A cc own nL fr lo rc rs) {x y : Int32} {off : Int} {tgt : Nat} (d : decode cc pc = .ok (.if_icmp .ge off, 3)) (ht : (pc : Int) + off = (tgt : Int)) (hc : ¬ y ≤ x) (k : WL X cs ss D A tys ws (pc + 3) lv st) : WL X cs ss D A tys ws pc lv (.int y :: .int x :: st) := by
  obtain ⟨p, l, e, R, s, m, args, below, meth, c, Q, nL0, c0, s0⟩ := X
  obtain ⟨hx, hb, hml, hown, hts, rfl, hfr, hlo, hrc, hrs, hA⟩ := C
  intro H locs ls hK hP hD hS hl
  exact lv_icmp_ge hx hb d ht (fun z => absurd z hc) (fun _ => k H locs ls hK hP hD hS hl)

theorem wl_obj {X : wk_X} {cs ss : Nat} {D : va_G} {A : Nat → Prop} {tys : List (ClassId × FieldType)} {ws : va_W} {pc : Nat} {lv : List (Nat × Value)} {st : List Value} {cc : ByteArray} {own : String} {nL fr lo rc rs : Nat} (C : wl_C X A cc own nL fr lo rc rs) {idx a : Nat} (w : Cond.methodLink own idx objectInit ∈ lw_g) (w1 : Cond.instanceMethod objectInit ∈ lw_g) (w2 : Cond.code objectInit ⟨#[0xb1]⟩ 1 none ∈ lw_g) (d : decode cc pc = .ok (.invokespecial idx, 3)) (h1 : 1 ≤ fr) (h2 : (st.map fun v => v.category).sum + 12 ≤ lo) (k : WL X cs ss D A tys ws (pc + 3) lv st) : WL X cs ss D A tys ws pc lv (.ref a :: st) := by
  obtain ⟨p, l, e, R, s, m, args, below, meth, c, Q, nL0, c0, s0⟩ := X
  obtain ⟨hx, hb, hml, hown, hts, rfl, hfr, hlo, hrc, hrs, hA⟩ := C
  intro H locs ls hK hP hD hS hl
  refine W.objInit hx hb hown (hts _ w) (hts _ w1) (hts _ w2) rfl (by rw [hml]; exact hl.1) rfl d (Nat.le_trans h1 hfr) (by show 2 * 0 + _ + 12 ≤ _; omega) ?_
  exact k H locs ls hK hP hD hS hl

theorem wl_mmax {X : wk_X} {cs ss : Nat} {D : va_G} {A : Nat → Prop} {tys : List (ClassId × FieldType)} {ws : va_W} {pc : Nat} {lv : List (Nat × Value)} {st : List Value} {cc : ByteArray} {own : String} {nL fr lo rc rs : Nat} (C : wl_C X A cc own nL fr lo rc rs) {idx : Nat} {x y v : Int32} (w : wk_mw own idx Lib.Math.max.name Lib.Math.max.code 2) (hv : (if x < y then y else x) = v) (hR : 1 ≤ fr ∧ (st.map fun v => v.category).sum + 13 ≤ lo) (hc1 : cs ≤ rc) (hc2 : ss ≤ rs) (d : decode cc pc = .ok (.invokestatic idx, 3)) (k : WL X cs ss D A tys ws (pc + 3) lv (.int v :: st)) : WL X cs ss D A tys ws pc lv (.int y :: .int x :: st) := by
  obtain ⟨p, l, e, R, s, m, args, below, meth, c, Q, nL0, c0, s0⟩ := X
  obtain ⟨hx, hb, hml, hown, hts, rfl, hfr, hlo, hrc, hrs, hA⟩ := C
  intro H locs ls hK hP hD hS hl
  subst hv
  exact va_mmax hx hb (hml.trans hl.1.symm) hown (hts _ w.1) (hts _ w.2.1) (hts _ w.2.2.1) (hts _ w.2.2.2) (Nat.le_trans hR.1 hfr) (Nat.le_trans hR.2 hlo) (Nat.le_trans hc1 hrc) (Nat.le_trans hc2 hrs) d (k H locs ls hK hP hD hS hl)

theorem wl_newaI {X : wk_X} {cs ss : Nat} {D : va_G} {A : Nat → Prop} {tys : List (ClassId × FieldType)} {ws : va_W} {pc : Nat} {lv : List (Nat × Value)} {st : List Value} {cc : ByteArray} {own : String} {nL fr lo rc rs : Nat} (C : wl_C X A cc own nL fr lo rc rs) {n : Int32} {N : Nat} (w : Cond.arrayClass .int ∈ lw_g) (hn : ¬ n < 0) (hN : n.toNatClampNeg = N) (hb9 : N * 4 ≤ 536870912) (hc1 : cs + 1 ≤ rc) (hc2 : ss + N ≤ rs) (d : decode cc pc = .ok (.newarray .int, 2)) (k : ∀ (q : Nat) (cA : ClassId), WL X (cs + 1) (ss + N) D A (tys ++ [(cA, .int)]) (ws ++ [(q, .inl (cA, N, .inl (fun _ => 0)))]) (pc + 2) lv (.ref q :: st)) : WL X cs ss D A tys ws pc lv (.int n :: st) := by
  obtain ⟨p, l, e, R, s, m, args, below, meth, c, Q, nL0, c0, s0⟩ := X
  obtain ⟨hx, hb, hml, hown, hts, rfl, hfr, hlo, hrc, hrs, hA⟩ := C
  intro H locs ls hK hP hD hS hl
  refine va_newa (a0 := (N, .inl (fun _ => 0))) (atype := .int) (ty := .int) hx hb (hts _ w) rfl hK hP hD hS hA (fun cA => rfl) hn hN (by show N * _ ≤ _; simp [componentBytes]; omega) (Nat.le_trans hc1 hrc) (Nat.le_trans hc2 hrs) d (fun q cA H1 hK1 hP1 hD1 hS1 => ?_)
  exact k q cA H1 locs ls hK1 hP1 hD1 hS1 hl

theorem wl_newaB {X : wk_X} {cs ss : Nat} {D : va_G} {A : Nat → Prop} {tys : List (ClassId × FieldType)} {ws : va_W} {pc : Nat} {lv : List (Nat × Value)} {st : List Value} {cc : ByteArray} {own : String} {nL fr lo rc rs : Nat} (C : wl_C X A cc own nL fr lo rc rs) {n : Int32} {N : Nat} (w : Cond.arrayClass .byte ∈ lw_g) (hn : ¬ n < 0) (hN : n.toNatClampNeg = N) (hb9 : N * 4 ≤ 536870912) (hc1 : cs + 1 ≤ rc) (hc2 : ss + N ≤ rs) (d : decode cc pc = .ok (.newarray .byte, 2)) (k : ∀ (q : Nat) (cA : ClassId), WL X (cs + 1) (ss + N) D A (tys ++ [(cA, .byte)]) (ws ++ [(q, .inl (cA, N, .inl (fun _ => 0)))]) (pc + 2) lv (.ref q :: st)) : WL X cs ss D A tys ws pc lv (.int n :: st) := by
  obtain ⟨p, l, e, R, s, m, args, below, meth, c, Q, nL0, c0, s0⟩ := X
  obtain ⟨hx, hb, hml, hown, hts, rfl, hfr, hlo, hrc, hrs, hA⟩ := C
  intro H locs ls hK hP hD hS hl
  refine va_newa (a0 := (N, .inl (fun _ => 0))) (atype := .byte) (ty := .byte) hx hb (hts _ w) rfl hK hP hD hS hA (fun cA => rfl) hn hN (by show N * _ ≤ _; simp [componentBytes]; omega) (Nat.le_trans hc1 hrc) (Nat.le_trans hc2 hrs) d (fun q cA H1 hK1 hP1 hD1 hS1 => ?_)
  exact k q cA H1 locs ls hK1 hP1 hD1 hS1 hl

theorem wl_newq {X : wk_X} {cs ss : Nat} {D : va_G} {A : Nat → Prop} {tys : List (ClassId × FieldType)} {ws : va_W} {pc : Nat} {lv : List (Nat × Value)} {st : List Value} {cc : ByteArray} {own : String} {nL fr lo rc rs : Nat} (C : wl_C X A cc own nL fr lo rc rs) {idx : Nat} {CC : String} {n : Int32} {N : Nat} (w : Cond.classLink own idx CC ∈ lw_g) (hover : wl_F X (va_AO CC)) (hn : ¬ n < 0) (hN : n.toNatClampNeg = N) (hb9 : N * 4 ≤ 536870912) (hc1 : cs + 1 ≤ rc) (hc2 : ss + N ≤ rs) (d : decode cc pc = .ok (.anewarray idx, 3)) (k : ∀ (q : Nat) (cA : ClassId), WL X (cs + 1) (ss + N) D A (tys ++ [(cA, .object CC)]) (ws ++ [(q, .inl (cA, N, .inr (.inr (.inr (.inr (fun _ => none))))))]) (pc + 3) lv (.ref q :: st)) : WL X cs ss D A tys ws pc lv (.int n :: st) := by
  obtain ⟨p, l, e, R, s, m, args, below, meth, c, Q, nL0, c0, s0⟩ := X
  obtain ⟨hx, hb, hml, hown, hts, rfl, hfr, hlo, hrc, hrs, hA⟩ := C
  intro H locs ls hK hP hD hS hl
  refine va_newq hx hb hown (hts _ w) hover hK hP hD hS hA hn hN hb9 (Nat.le_trans hc1 hrc) (Nat.le_trans hc2 hrs) d (fun q cA H1 hK1 hP1 hD1 hS1 => ?_)
  exact k q cA H1 locs ls hK1 hP1 hD1 hS1 hl

theorem wl_new {X : wk_X} {cs ss : Nat} {D : va_G} {A : Nat → Prop} {tys : List (ClassId × FieldType)} {ws : va_W} {pc : Nat} {lv : List (Nat × Value)} {st : List Value} {cc : ByteArray} {own : String} {nL fr lo rc rs : Nat} (C : wl_C X A cc own nL fr lo rc rs) {idx ci Nf : Nat} {CC : String} {T : u_T} {ty : Nat → FieldType} {fs : List Value} (iw : ∀ w ∈ u_ws CC T Nf, w ∈ lw_g) (hty : ∀ k, k < Nf → parseFieldDescriptor (T k).2.2.1 = some (ty k)) (w : Cond.classLink own idx CC ∈ lw_g) (w1 : Cond.instantiable CC Nf ∈ lw_g) (w2 : Cond.initialized CC ∈ lw_g) (hc : classes[ci]? = some (CC, T, Nf)) (hfs : ∀ j, j < Nf → defaultValue (ty j) = vp_V fs j) (hc1 : cs + 1 ≤ rc) (hc2 : ss + Nf ≤ rs) (d : decode cc pc = .ok (.new idx, 3)) (k : ∀ q : Nat, WL X (cs + 1) (ss + Nf) D A tys (ws ++ [(q, .inr (ci, fs))]) (pc + 3) lv (.ref q :: st)) : WL X cs ss D A tys ws pc lv st := by
  obtain ⟨p, l, e, R, s, m, args, below, meth, c, Q, nL0, c0, s0⟩ := X
  obtain ⟨hx, hb, hml, hown, hts, rfl, hfr, hlo, hrc, hrs, hA⟩ := C
  intro H locs ls hK hP hD hS hl
  refine va_new hx hb hts iw ty hty hown (hts _ w) (hts _ w1) (hts _ w2) hK hP hD hS hA hc hfs (Nat.le_trans hc1 hrc) (Nat.le_trans hc2 hrs) d (fun q H1 hP1 hD1 hS1 => ?_)
  exact k q H1 locs ls hK hP1 hD1 hS1 hl

theorem wl_put {X : wk_X} {cs ss : Nat} {D : va_G} {A : Nat → Prop} {tys : List (ClassId × FieldType)} {ws : va_W} {pc : Nat} {lv : List (Nat × Value)} {st : List Value} {cc : ByteArray} {own : String} {nL fr lo rc rs : Nat} (C : wl_C X A cc own nL fr lo rc rs) {a q0 k ci index Nf : Nat} {CC : String} {T : u_T} {ty0 : Nat → FieldType} {fs : List Value} {ty : FieldType} {v : Value} {ws' : va_W} (iw : ∀ w ∈ u_ws CC T Nf, w ∈ lw_g) (hty : ∀ k, k < Nf → parseFieldDescriptor (T k).2.2.1 = some (ty0 k)) (hnm : ∀ a, a < Nf → ∀ b, b < Nf → a ≠ b → (T a).2.1 ≠ (T b).2.1) (he : ws[q0]? = some (a, .inr (ci, fs))) (hc : classes[ci]? = some (CC, T, Nf)) (hk : k < Nf) (w : Cond.fieldLink own index (T k).1 (T k).2.1 (T k).2.2.1 ∈ lw_g) (hfin : (T k).2.2.2 = false) (hd : parseFieldDescriptor (T k).2.2.1 = some ty) (hn : narrow ty v = v) (hfit : fits ty v = true) (hlen : k < fs.length) (hw : ws.set q0 (a, .inr (ci, fs.set k v)) = ws') (d : decode cc pc = .ok (.putfield index, 3)) (kk : WL X cs ss D A tys ws' (pc + 3) lv st) : WL X cs ss D A tys ws pc lv (v :: .ref a :: st) := by
  obtain ⟨p, l, e, R, s, m, args, below, meth, c, Q, nL0, c0, s0⟩ := X
  obtain ⟨hx, hb, hml, hown, hts, rfl, hfr, hlo, hrc, hrs, hA⟩ := C
  intro H locs ls hK hP hD hS hl
  subst hw
  refine va_put hx hb hts iw ty0 hty hnm hown hK hP hD hS q0 he hc k hk (hts _ w) (fun _ h9 => h9) hfin hd hn hfit hlen d (fun H1 locs1 hP1 hD1 hS1 => ?_)
  exact kk H1 locs1 ls hK hP1 hD1 hS1 hl

theorem wl_putF {X : wk_X} {cs ss : Nat} {D : va_G} {A : Nat → Prop} {tys : List (ClassId × FieldType)} {ws : va_W} {pc : Nat} {lv : List (Nat × Value)} {st : List Value} {cc : ByteArray} {own : String} {nL fr lo rc rs : Nat} (C : wl_C X A cc own nL fr lo rc rs) {a q0 k ci index Nf : Nat} {CC : String} {T : u_T} {ty0 : Nat → FieldType} {fs : List Value} {ty : FieldType} {v : Value} {ws' : va_W} (hi : wl_I X) (iw : ∀ w ∈ u_ws CC T Nf, w ∈ lw_g) (hty : ∀ k, k < Nf → parseFieldDescriptor (T k).2.2.1 = some (ty0 k)) (hnm : ∀ a, a < Nf → ∀ b, b < Nf → a ≠ b → (T a).2.1 ≠ (T b).2.1) (he : ws[q0]? = some (a, .inr (ci, fs))) (hc : classes[ci]? = some (CC, T, Nf)) (hk : k < Nf) (w : Cond.fieldLink own index (T k).1 (T k).2.1 (T k).2.2.1 ∈ lw_g) (hfin : (T k).2.2.2 = true) (ho : (T k).1 = own) (hd : parseFieldDescriptor (T k).2.2.1 = some ty) (hn : narrow ty v = v) (hfit : fits ty v = true) (hlen : k < fs.length) (hw : ws.set q0 (a, .inr (ci, fs.set k v)) = ws') (d : decode cc pc = .ok (.putfield index, 3)) (kk : WL X cs ss D A tys ws' (pc + 3) lv st) : WL X cs ss D A tys ws pc lv (v :: .ref a :: st) := by
  obtain ⟨p, l, e, R, s, m, args, below, meth, c, Q, nL0, c0, s0⟩ := X
  obtain ⟨hx, hb, hml, hown, hts, rfl, hfr, hlo, hrc, hrs, hA⟩ := C
  intro H locs ls hK hP hD hS hl
  subst hw
  refine va_putF hx hb hts iw ty0 hty hnm hown hK hP hD hS q0 he hc k hk (hts _ w) (fun _ h9 => h9) hfin hi ho hd hn hfit hlen d (fun H1 locs1 hP1 hD1 hS1 => ?_)
  exact kk H1 locs1 ls hK hP1 hD1 hS1 hl

theorem wl_get {X : wk_X} {cs ss : Nat} {D : va_G} {A : Nat → Prop} {tys : List (ClassId × FieldType)} {ws : va_W} {pc : Nat} {lv : List (Nat × Value)} {st : List Value} {cc : ByteArray} {own : String} {nL fr lo rc rs : Nat} (C : wl_C X A cc own nL fr lo rc rs) {a q0 k ci index Nf : Nat} {CC : String} {T : u_T} {fs : List Value} {v : Value} (iw : ∀ w ∈ u_ws CC T Nf, w ∈ lw_g) (he : ws[q0]? = some (a, .inr (ci, fs))) (hc : classes[ci]? = some (CC, T, Nf)) (hk : k < Nf) (w : Cond.fieldLink own index (T k).1 (T k).2.1 (T k).2.2.1 ∈ lw_g) (hv : fs[k]? = some v) (d : decode cc pc = .ok (.getfield index, 3)) (kk : WL X cs ss D A tys ws (pc + 3) lv (v :: st)) : WL X cs ss D A tys ws pc lv (.ref a :: st) := by
  obtain ⟨p, l, e, R, s, m, args, below, meth, c, Q, nL0, c0, s0⟩ := X
  obtain ⟨hx, hb, hml, hown, hts, rfl, hfr, hlo, hrc, hrs, hA⟩ := C
  intro H locs ls hK hP hD hS hl
  exact va_get hx hb hts iw hown hK hP q0 he hc k hk (hts _ w) (fun _ h9 => h9) hv d (kk H locs ls hK hP hD hS hl)

theorem wl_astq {X : wk_X} {cs ss : Nat} {D : va_G} {A : Nat → Prop} {tys : List (ClassId × FieldType)} {ws : va_W} {pc : Nat} {lv : List (Nat × Value)} {st : List Value} {cc : ByteArray} {own : String} {nL fr lo rc rs : Nat} (C : wl_C X A cc own nL fr lo rc rs) {a q0 t0 qk ci n v : Nat} {cA : ClassId} {r : vw_C} {vs : List Value} {f : Nat → Option Nat} {i : Int32} {ws' : va_W} (ha : ws[q0]? = some (a, .inl (cA, n, .inr (.inr (.inr (.inr f)))))) (ht : tys[t0]? = some (cA, .object r.1)) (hv : ws[qk]? = some (v, .inr (ci, vs))) (hc : classes[ci]? = some r) (hin : inR i n) (hw : ws.set q0 (a, .inl (cA, n, .inr (.inr (.inr (.inr (va_up f i.toNatClampNeg (some v))))))) = ws') (d : decode cc pc = .ok (.aastore, 1)) (kk : WL X cs ss D A tys ws' (pc + 1) lv st) : WL X cs ss D A tys ws pc lv (.ref v :: .int i :: .ref a :: st) := by
  obtain ⟨p, l, e, R, s, m, args, below, meth, c, Q, nL0, c0, s0⟩ := X
  obtain ⟨hx, hb, hml, hown, hts, rfl, hfr, hlo, hrc, hrs, hA⟩ := C
  intro H locs ls hK hP hD hS hl
  subst hw
  refine va_astq hx hb hK hP hD hS q0 t0 qk ci ha ht hv hc (inR_vp hin) d (fun H1 locs1 hP1 hD1 hS1 => ?_)
  exact kk H1 locs1 ls hK hP1 hD1 hS1 hl

/-- the last cell of a world, and the rest -/
theorem wl_last (ws : va_W) (x : Nat × va_E) : [ws.length].map (fun i => (ws ++ [x])[i]?) = [x].map some := by simp
theorem wl_rest (ws : va_W) (x : Nat × va_E) : (List.range ws.length).map (fun i => (ws ++ [x])[i]?) = ws.map some := by
  apply List.ext_getElem?
  intro i
  by_cases h : i < ws.length
  · simp [h, List.getElem?_append_left h]
  · simp [h]
theorem wl_nd (n : Nat) : va_nd (List.range n) = true := by
  have key : ∀ (l : List Nat), l.Nodup → va_nd l = true := by
    intro l
    induction l with
    | nil => intro _; rfl
    | cons a l ih =>
      intro h
      rw [List.nodup_cons] at h
      simp [va_nd, ih h.2, h.1]
  exact key _ List.nodup_range
/-- a constructor's contract: from the cell it is called on to the cells that stand then -/
def wl_M (l : Launch) (D : va_G) (y : MethodName) (cc : ByteArray) (maxL fr lo mc ms : Nat) (av : List Value) (ws0 : va_W) (F : State → Prop) (S : Type) (w1 : S → va_W) (t1 : S → List (ClassId × FieldType)) (sz : Nat) : Prop :=
  Met l y (Cond.code y cc maxL none :: lw_g) ({ frames := fr, cells := mc, slots := ms, locals := lo }) (va_Pc av (fun U => U.heap.size = sz ∧ va_P D classes ws0 U.heap ∧ va_K D classes [] U ∧ va_D (fun _ => True) ws0 ∧ F U)) (va_Qv (fun _ : S => True) (fun u t => va_P D classes (w1 u) t.heap ∧ va_K D classes (t1 u) t ∧ va_D (va_A ws0 sz) (w1 u)) (va_A ws0 sz)) mc ms (va_A ws0 sz)
def wl_Q (X : wk_X) (D : va_G) (ws0 : va_W) (S : Type) (w1 : S → va_W) (t1 : S → List (ClassId × FieldType)) (mc ms : Nat) : Prop :=
  match X with
  | (p, l, e, R, s, m, args, below, meth, c, Q, nL, _, _) => Q = MQ below (va_Qv (fun _ : S => True) (fun u t => va_P D classes (w1 u) t.heap ∧ va_K D classes (t1 u) t ∧ va_D (va_A ws0 s.heap.size) (w1 u)) (va_A ws0 s.heap.size)) args s mc ms (va_A ws0 s.heap.size) ∧ meth.sig.returnType = none ∧ meth.locks = false
def wl_A (X : wk_X) (ws0 : va_W) : Nat → Prop :=
  match X with
  | (p, l, e, R, s, m, args, below, meth, c, Q, nL, _, _) => va_A ws0 s.heap.size
theorem wl_met {l : Launch} {D : va_G} {y : MethodName} {cc : ByteArray} {maxL fr lo mc ms : Nat} {av : List Value} {ws0 : va_W} {F : State → Prop} {S : Type} {w1 : S → va_W} {t1 : S → List (ClassId × FieldType)} {sz : Nat} {own : String} (hy : plainName y.cls = true) (ho : y.cls = own) (hin : y.name = "<init>") (hlen : (lg_sl av).length ≤ maxL) (hcat : ∀ i v, (lv_args 0 av).lookup i = some v → v.category = 1)
    (body : ∀ X, X.2.1 = l → wl_C X (wl_A X ws0) cc own maxL fr lo mc ms → wl_I X → wl_F X F → wl_Q X D ws0 S w1 t1 mc ms → WL X 0 0 D (wl_A X ws0) [] ws0 0 (lv_args 0 av) []) : wl_M l D y cc maxL fr lo mc ms av ws0 F S w1 t1 sz := by
  refine Met.ofW (cc := cc) (maxL := maxL) (ret := none) hy rfl ?_
  intro p e s m args below meth c s₁ B hml hv
  obtain ⟨rfl, hsz, hP, hK, hD0, hF⟩ := hv
  subst hsz
  have hts0 := atoms_spec (ws := Cond.code y cc maxL none :: lw_g) B.pre
  have hown : s.vm.findClass own = some m.cls := by rw [← ho]; exact findClass_of_methodNamed B.named
  have hl := lv_entry av hlen
  rw [lg_entry_eq]
  refine body (p, l, e, (headSpec (Cond.code y cc maxL none :: lw_g) { frames := fr, cells := mc, slots := ms, locals := lo }).room, s, m, av.toArray, below, meth, c, _, maxL, 0, 0) rfl ⟨B.exec, B.bytes, hml, hown, fun w hw => hts0 w (List.mem_cons_of_mem _ hw), rfl, Nat.le_refl _, Nat.le_refl _, Nat.le_refl _, Nat.le_refl _, fun q h => Or.inr h⟩ (by show meth.name = "<init>"; rw [← hin]; exact (name_of_methodNamed B.named B.method).1) hF ⟨rfl, B.returns, B.notSynchronized⟩ s.heap [] _ hK hP hD0.self va_S.rf ⟨hl.1, hl.2.1, fun i v hv => ⟨?_, hcat i v hv⟩⟩
  have : ∀ (L : List (Nat × Value)), L.lookup i = some v → (i, v) ∈ L := by
    intro L
    induction L with
    | nil => intro q; cases q
    | cons a L ih =>
      intro q
      rw [List.lookup_cons] at q
      by_cases hb : (i == a.1) = true
      · rw [hb] at q
        have e1 : i = a.1 := by simpa using hb
        cases q
        rw [e1]
        exact List.mem_cons_self
      · rw [Bool.not_eq_true] at hb
        rw [hb] at q
        exact List.mem_cons_of_mem _ (ih q)
  exact hl.2.2 (i, v) (this _ hv)

theorem wl_ret {X : wk_X} {D : va_G} {ws0 ws : va_W} {S : Type} {w1 : S → va_W} {t1 : S → List (ClassId × FieldType)} {tys : List (ClassId × FieldType)} {mc ms pc : Nat} {lv : List (Nat × Value)} {cc : ByteArray} {own : String} {nL fr lo rc rs : Nat} (C : wl_C X (wl_A X ws0) cc own nL fr lo rc rs) (q : wl_Q X D ws0 S w1 t1 mc ms) (u : S) (hw : ws = w1 u) (ht : tys = t1 u) (d : decode cc pc = .ok (.return_, 1)) : WL X mc ms D (wl_A X ws0) tys ws pc lv [] := by
  subst hw
  subst ht
  obtain ⟨p, l, e, R, s, m, args, below, meth, c, Q, nL0, c0, s0⟩ := X
  obtain ⟨hx, hb, hml, hown, hts, rfl, hfr, hlo, hrc, hrs, hA⟩ := C
  obtain ⟨rfl, hr, hlocks⟩ := q
  intro H locs ls hK hP hD hS hl
  exact W.vret hx hb hr (fun t ht hW => ⟨⟨u, rfl, trivial, by rw [ht]; exact hP, va_K.moved hW.alike hK, hD⟩, hS.F ht⟩) hS.2.2 d

theorem wl_ctor {X : wk_X} {cs ss : Nat} {D : va_G} {A : Nat → Prop} {tys : List (ClassId × FieldType)} {ws : va_W} {pc : Nat} {lv : List (Nat × Value)} {st : List Value} {cc : ByteArray} {own : String} {nL fr lo rc rs : Nat} (C : wl_C X A cc own nL fr lo rc rs) {l0 : Launch} {idx n q maxL fr1 lo1 mc ms : Nat} {e0 : va_E} {y : MethodName} {bytes : ByteArray} {As stk : List Value} {F : State → Prop} {S : Type} {w9 : S → va_W} {t9 : S → List (ClassId × FieldType)} (hl0 : X.2.1 = l0) (w : Cond.methodLink own idx y ∈ lw_g) (w1 : Cond.initialized y.cls ∈ lw_g) (w2 : Cond.instanceMethod y ∈ lw_g) (w3 : Cond.code y bytes maxL none ∈ lw_g) (hg3 : goodWord (Cond.code y bytes maxL none) = true) (hy1 : y.name = "<init>") (hd : y.cls ≠ "java/lang/invoke/MethodHandle" ∧ y.cls ≠ "java/lang/invoke/VarHandle" ∧ (parseMethodDescriptor y.desc).map (fun d => d.parameters.length) = some n) (hbl : ∀ (a : Array Value) (U : State) (g : JFrame) (mk : MethodId), F U → F (U.calling g mk a)) (hF : wl_F X (fun s => ∀ U : State, s.WarmedH U.vm → F U)) (hM : ∀ sz, wl_M l0 D y bytes maxL fr1 lo1 mc ms (.ref q :: As) [(q, e0)] F S w9 t9 sz) (hn : As.length = n) (hst : stk = As.reverse ++ .ref q :: st) (hroom : (st.map fun v => v.category).sum ≤ 8) (hR : fr1 + 1 ≤ fr ∧ 8 + (maxL + 11) + lo1 ≤ lo) (hc1 : cs + mc ≤ rc) (hc2 : ss + ms ≤ rs) (d : decode cc pc = .ok (.invokespecial idx, 3)) (k : ∀ u : S, WL X (cs + mc) (ss + ms) D A (tys ++ t9 u) (ws ++ w9 u) (pc + 3) lv st) : WL X cs ss D A tys (ws ++ [(q, e0)]) pc lv stk := by
  obtain ⟨p, l, e, R, s, m, args, below, meth, c, Q, nL0, c0, s0⟩ := X
  obtain ⟨hx, hb, hml, hown, hts, rfl, hfr, hlo, hrc, hrs, hA⟩ := C
  intro H locs ls hK hP hD hS hl
  subst hst
  subst hl0
  have hG : GoodIn lw_g (Cond.code y bytes maxL none :: lw_g) := fun z hz => by
    rcases List.mem_cons.mp hz with rfl | h9
    · exact ⟨w3, good_of_word hg3⟩
    · exact ⟨h9, lw_good z h9⟩
  have hPc : va_P D classes [(q, e0)] H := hP.sub [ws.length] (by simp)
  have hDc : va_D A [(q, e0)] := hD.sub [ws.length] (by simp [va_nd]) (wl_last ws _)
  have hFc := va_free (wc := [(q, e0)]) hD hS hA [ws.length] (wl_last ws _)
  have hF' : ∀ U : State, s.WarmedH U.vm → F U := hF
  refine va_callv (va_runI (g := F0 m pc ls (As.reverse ++ .ref q :: st)) (As := As) (rest := st) (locs := locs) (below := below) (meth := meth) (e := e) (R := R) ⟨hx, hb, hml, hown, hts⟩ (hM H.size) ⟨callB_of (R := R) n hts hG rfl rfl rfl (hts _ w1) (hts _ w) hd ⟨Nat.le_trans hR.1 hfr, Nat.le_trans hR.2 hlo⟩, hy1, hts _ w2⟩ ⟨fun a U g mk z => by obtain ⟨z0, z1, zP, zK, zD, zF⟩ := z; exact ⟨z0, z1, zP, va_K.moved (u := U) (U := U.calling g mk a) (Vm.Alike.refl U.vm) zK, zD, hbl _ _ _ _ zF⟩, fun U hU hW => ⟨rfl, by rw [hU], by rw [hU]; exact hPc, va_K.moved hW.alike (hK.sub [] rfl), hDc.weaken (fun _ _ _ _ => trivial), hF' U hW⟩⟩ rfl hn hl.1 rfl (lv_room hroom) d ⟨Nat.le_trans hc1 hrc, Nat.le_trans hc2 hrs⟩) hS (fun z _ h => hFc z h) hFc (fun u t H1 locs1 ht hvm hw hB hz1 hk1 hS1 => ?_)
  obtain ⟨hP1, hK1, hD1⟩ := hB
  rw [ht] at hP1
  have hK1 := va_K.moved hvm.symm hK1
  obtain ⟨hP2, hD2⟩ := va_join (wr := ws) (w1 := w9 u) hP hD [ws.length] (List.range ws.length) (wl_last ws _) (wl_rest ws _) (wl_nd _) (fun i hi => by
    rw [List.mem_range] at hi
    simp
    omega) hk1 hFc hP1 hD1
  exact k u H1 locs1 ls (hK.app hK1) hP2 hD2 hS1 hl

theorem wl_ctorN {X : wk_X} {cs ss : Nat} {D : va_G} {A : Nat → Prop} {tys : List (ClassId × FieldType)} {ws : va_W} {pc : Nat} {lv : List (Nat × Value)} {st : List Value} {cc : ByteArray} {own : String} {nL fr lo rc rs : Nat} (C : wl_C X A cc own nL fr lo rc rs) {l0 : Launch} {idx n q maxL fr1 lo1 mc ms : Nat} {e0 : va_E} {y : MethodName} {bytes : ByteArray} {As stk : List Value} {F : State → Prop} {S : Type} {w9 : S → va_W} {t9 : S → List (ClassId × FieldType)} (hl0 : X.2.1 = l0) {host : String} (w : wl_F X (va_Nw (.methodLinkNest own idx y host))) (w1 : Cond.initialized y.cls ∈ lw_g) (w2 : Cond.instanceMethod y ∈ lw_g) (w3 : Cond.code y bytes maxL none ∈ lw_g) (hg3 : goodWord (Cond.code y bytes maxL none) = true) (hy1 : y.name = "<init>") (hd : y.cls ≠ "java/lang/invoke/MethodHandle" ∧ y.cls ≠ "java/lang/invoke/VarHandle" ∧ (parseMethodDescriptor y.desc).map (fun d => d.parameters.length) = some n) (hbl : ∀ (a : Array Value) (U : State) (g : JFrame) (mk : MethodId), F U → F (U.calling g mk a)) (hF : wl_F X (fun s => ∀ U : State, s.WarmedH U.vm → F U)) (hM : ∀ sz, wl_M l0 D y bytes maxL fr1 lo1 mc ms (.ref q :: As) [(q, e0)] F S w9 t9 sz) (hn : As.length = n) (hst : stk = As.reverse ++ .ref q :: st) (hroom : (st.map fun v => v.category).sum ≤ 8) (hR : fr1 + 1 ≤ fr ∧ 8 + (maxL + 11) + lo1 ≤ lo) (hc1 : cs + mc ≤ rc) (hc2 : ss + ms ≤ rs) (d : decode cc pc = .ok (.invokespecial idx, 3)) (k : ∀ u : S, WL X (cs + mc) (ss + ms) D A (tys ++ t9 u) (ws ++ w9 u) (pc + 3) lv st) : WL X cs ss D A tys (ws ++ [(q, e0)]) pc lv stk := by
  obtain ⟨p, l, e, R, s, m, args, below, meth, c, Q, nL0, c0, s0⟩ := X
  obtain ⟨hx, hb, hml, hown, hts, rfl, hfr, hlo, hrc, hrs, hA⟩ := C
  intro H locs ls hK hP hD hS hl
  subst hst
  subst hl0
  have hG : GoodIn lw_g (Cond.code y bytes maxL none :: lw_g) := fun z hz => by
    rcases List.mem_cons.mp hz with rfl | h9
    · exact ⟨w3, good_of_word hg3⟩
    · exact ⟨h9, lw_good z h9⟩
  have hPc : va_P D classes [(q, e0)] H := hP.sub [ws.length] (by simp)
  have hDc : va_D A [(q, e0)] := hD.sub [ws.length] (by simp [va_nd]) (wl_last ws _)
  have hFc := va_free (wc := [(q, e0)]) hD hS hA [ws.length] (wl_last ws _)
  have hF' : ∀ U : State, s.WarmedH U.vm → F U := hF
  refine va_callv (va_runIN (g := F0 m pc ls (As.reverse ++ .ref q :: st)) (As := As) (rest := st) (locs := locs) (below := below) (meth := meth) (e := e) (R := R) ⟨hx, hb, hml, hown, hts⟩ (hM H.size) ⟨va_cnB (R := R) n hts hG rfl rfl rfl w (hts _ w1) hd ⟨Nat.le_trans hR.1 hfr, Nat.le_trans hR.2 hlo⟩, hy1, hts _ w2⟩ ⟨fun a U g mk z => by obtain ⟨z0, z1, zP, zK, zD, zF⟩ := z; exact ⟨z0, z1, zP, va_K.moved (u := U) (U := U.calling g mk a) (Vm.Alike.refl U.vm) zK, zD, hbl _ _ _ _ zF⟩, fun U hU hW => ⟨rfl, by rw [hU], by rw [hU]; exact hPc, va_K.moved hW.alike (hK.sub [] rfl), hDc.weaken (fun _ _ _ _ => trivial), hF' U hW⟩⟩ rfl hn hl.1 rfl (lv_room hroom) d ⟨Nat.le_trans hc1 hrc, Nat.le_trans hc2 hrs⟩) hS (fun z _ h => hFc z h) hFc (fun u t H1 locs1 ht hvm hw hB hz1 hk1 hS1 => ?_)
  obtain ⟨hP1, hK1, hD1⟩ := hB
  rw [ht] at hP1
  have hK1 := va_K.moved hvm.symm hK1
  obtain ⟨hP2, hD2⟩ := va_join (wr := ws) (w1 := w9 u) hP hD [ws.length] (List.range ws.length) (wl_last ws _) (wl_rest ws _) (wl_nd _) (fun i hi => by
    rw [List.mem_range] at hi
    simp
    omega) hk1 hFc hP1 hD1
  exact k u H1 locs1 ls (hK.app hK1) hP2 hD2 hS1 hl
