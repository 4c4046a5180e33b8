/-- the words that a call hands on -/
def lw_g : List Cond := lw_tbl.filter goodWord
theorem lw_gm {w : Cond} (p : Nat) (h : lw_tbl[p]? = some w) (hg : goodWord w = true) : w ∈ lw_g := List.mem_filter.mpr ⟨List.mem_of_getElem? h, hg⟩
/-! The world of a fixed graph of objects whose references never change: cell i holds ints (h i k); the judgement WW over (h, pc, locals, stack); a row an instruction. -/
abbrev Hp : Type := Nat → Nat → Int32
def up2 (h : Hp) (i k : Nat) (v : Int32) : Hp := fun j => if j = i then upd (h i) k v else h j
theorem up2_i (h : Hp) (i k : Nat) (v : Int32) : up2 h i k v i = upd (h i) k v := by simp [up2]
theorem up2_ne (h : Hp) {i j : Nat} (k : Nat) (v : Int32) (hj : j ≠ i) : up2 h i k v j = h j := by simp [up2, hj]
/-- a world: class data, classes, array classes, addresses, entities, how many -/
abbrev wd_V : Type := va_G × List vw_C × List (ClassId × FieldType) × (Nat → Nat) × (Nat → (Nat → Int32) → va_E) × Nat
abbrev wd_D (V : wd_V) : va_G := V.1
abbrev wd_cl (V : wd_V) : List vw_C := V.2.1
abbrev wd_ty (V : wd_V) : List (ClassId × FieldType) := V.2.2.1
abbrev wd_ad (V : wd_V) : Nat → Nat := V.2.2.2.1
abbrev wd_E (V : wd_V) : Nat → (Nat → Int32) → va_E := V.2.2.2.2.1
abbrev wd_N (V : wd_V) : Nat := V.2.2.2.2.2
def wd_ws (V : wd_V) (h : Hp) : va_W := (List.range (wd_N V)).map fun i => (wd_ad V i, wd_E V i (h i))
def wd_A (V : wd_V) : Nat → Prop := fun q => ∃ i, i < wd_N V ∧ q = wd_ad V i
def wd_inj (V : wd_V) : Prop := ∀ i j, i < wd_N V → j < wd_N V → wd_ad V i = wd_ad V j → i = j
def wd_P (V : wd_V) (h : Hp) (H : Heap) : Prop := va_P (wd_D V) (wd_cl V) (wd_ws V h) H
theorem wd_at {V : wd_V} {h : Hp} {i : Nat} (hi : i < wd_N V) : (wd_ws V h)[i]? = some (wd_ad V i, wd_E V i (h i)) := by
  simp only [wd_ws, List.getElem?_map]
  rw [List.getElem?_range hi]
  rfl
theorem wd_get {V : wd_V} {h : Hp} {i : Nat} {q : Nat × va_E} (hq : (wd_ws V h)[i]? = some q) : i < wd_N V ∧ q = (wd_ad V i, wd_E V i (h i)) := by
  have hi : i < wd_N V := by
    have := (List.getElem?_eq_some_iff.mp hq).1
    simpa [wd_ws] using this
  refine ⟨hi, ?_⟩
  rw [wd_at hi] at hq
  exact (Option.some.inj hq).symm
theorem wd_Dof {V : wd_V} (hI : wd_inj V) (h : Hp) : va_D (wd_A V) (wd_ws V h) := by
  refine ⟨fun i j p q hp hq e => ?_, fun k q hq => ?_⟩
  · obtain ⟨a1, rfl⟩ := wd_get hp
    obtain ⟨b1, rfl⟩ := wd_get hq
    exact hI i j a1 b1 e
  · obtain ⟨a1, rfl⟩ := wd_get hq
    exact ⟨k, a1, rfl⟩
theorem wd_set {V : wd_V} {h : Hp} {i k : Nat} {v : Int32} (hi : i < wd_N V) : (wd_ws V h).set i (wd_ad V i, wd_E V i (upd (h i) k v)) = wd_ws V (up2 h i k v) := by
  apply List.ext_getElem?
  intro j
  rw [List.getElem?_set]
  by_cases hj : i = j
  · subst hj
    rw [if_pos rfl, wd_at hi, up2_i]
    have : i < (wd_ws V h).length := by simpa [wd_ws] using hi
    rw [if_pos this]
  · rw [if_neg hj]
    by_cases hl : j < wd_N V
    · rw [wd_at hl, wd_at hl, up2_ne _ _ _ (fun e => hj e.symm)]
    · have e1 : ∀ g : Hp, (wd_ws V g)[j]? = none := fun g => by
        rw [List.getElem?_eq_none_iff]
        simp [wd_ws]
        omega
      rw [e1, e1]
/-- the locals: what the list says (its first word on a place counts), all of one slot -/
def wk_lv (ls : Array Slot) (nL : Nat) (lv : List (Nat × Value)) : Prop := ls.size = nL ∧ lv_wf ls ∧ ∀ i v, lv.lookup i = some v → ls[i]? = some (.val v) ∧ v.category = 1
theorem wk_store1 {ls : Array Slot} {nL : Nat} {lv : List (Nat × Value)} {i : Nat} {v : Value} (h : wk_lv ls nL lv) (hi : i < nL) (hc : v.category = 1) : ∃ ls', storeLocals ls i v = some ls' ∧ wk_lv ls' nL ((i, v) :: lv) := by
  obtain ⟨hs, hw, hl⟩ := h
  obtain ⟨ls', e, g⟩ := lv_store1 (l := []) ⟨hs, hw, fun q hq => by cases hq⟩ hi hc
  refine ⟨ls', e, g.1, g.2.1, fun j w hjw => ?_⟩
  rw [List.lookup_cons] at hjw
  by_cases hji : j = i
  · subst hji
    simp only [BEq.rfl] at hjw
    cases hjw
    exact ⟨g.2.2 (j, v) List.mem_cons_self, hc⟩
  · have hb : (j == i) = false := by simpa using hji
    rw [hb] at hjw
    obtain ⟨a, b⟩ := hl j w hjw
    obtain ⟨ls2, e2, g2⟩ := lv_store1 (l := [(j, w)]) ⟨hs, hw, fun q hq => by
      rw [List.mem_singleton] at hq
      subst hq
      exact a⟩ hi hc
    rw [e] at e2
    cases e2
    refine ⟨g2.2.2 (j, w) ?_, b⟩
    refine List.mem_cons_of_mem _ ?_
    simp [hb, b]
abbrev wk_X : Type := Program × Launch × Env × Room × State × MethodId × Array Value × List Frame × Method × Code × (State → Prop) × Nat × Nat × Nat
def WW (X : wk_X) (V : wd_V) (h : Hp) (pc : Nat) (lv : List (Nat × Value)) (st : List Value) : Prop :=
  match X with
  | (p, l, e, R, s, m, args, below, meth, c, Q, nL, cells, slots) => ∀ (H : Heap) (locs : List Loc) (ls : Array Slot), wd_P V h H → va_S (wd_A V) s.heap H locs → wk_lv ls nL lv → W p l e R s m args below meth c H locs cells slots Q (F0 m pc ls st)
/-- what a body knows: machine, code, its class, the tables' words, the world's classes, its room -/
def wk_C (X : wk_X) (V : wd_V) (cc : ByteArray) (own : String) (nL0 fr lo : Nat) : Prop :=
  match X with
  | (p, l, e, R, s, m, args, below, meth, c, Q, nL, cells, slots) => p.tables.exec = Jvm.exec ∧ c.code = cc ∧ c.maxLocals = nL ∧ s.vm.findClass own = some m.cls ∧ (∀ w ∈ lw_g, w.before args s = true) ∧ va_K (wd_D V) (wd_cl V) (wd_ty V) s ∧ wd_inj V ∧ nL = nL0 ∧ fr ≤ R.frames ∧ lo ≤ R.locals ∧ cells ≤ R.cells ∧ slots ≤ R.slots
theorem wk_sub {X : wk_X} {V : wd_V} {h : Hp} {pc : Nat} {lv lv' : List (Nat × Value)} {st : List Value} (hs : ∀ q ∈ lv', lv.lookup q.1 = some q.2) (k : WW X V h pc lv' st) : WW X V h pc lv st := by
  obtain ⟨p, l, e, R, s, m, args, below, meth, c, Q, nL, cells, slots⟩ := X
  intro H locs ls hP hS hl
  refine k H locs ls hP hS ⟨hl.1, hl.2.1, fun i v hv => hl.2.2 i v ?_⟩
  have : ∀ (l : List (Nat × Value)), l.lookup i = some v → (i, v) ∈ l := by
    intro l
    induction l with
    | nil => intro q; cases q
    | cons a l ih =>
      intro q
      rw [List.lookup_cons] at q
      by_cases hb : (i == a.1) = true
      · rw [hb] at q
        have e1 : i = a.1 := by simpa using hb
        cases q
        rw [e1]
        exact List.mem_cons_self
      · rw [Bool.not_eq_true] at hb
        rw [hb] at q
        exact List.mem_cons_of_mem _ (ih q)
  exact hs (i, v) (this lv' hv)
def wk_all (lv : List (Nat × Value)) : List (Nat × Value) → Prop
  | [] => True
  | q :: r => lv.lookup q.1 = some q.2 ∧ wk_all lv r
theorem wk_go {X : wk_X} {V : wd_V} {h : Hp} {pc : Nat} {lv lv' : List (Nat × Value)} {st : List Value} (k : WW X V h pc lv' st) (hs : wk_all lv lv') : WW X V h pc lv st := by
  refine wk_sub ?_ k
  revert hs
  clear k
  induction lv' with
  | nil => intro _ q hq; cases hq
  | cons a r ih =>
    intro h q hq
    rcases List.mem_cons.mp hq with rfl | h2
    · exact h.1
    · exact ih h.2 q h2
theorem wk_all_of {lv : List (Nat × Value)} : ∀ {l : List (Nat × Value)}, wk_all lv l → ∀ q ∈ l, lv.lookup q.1 = some q.2
  | [], _, q, hq => by cases hq
  | a :: r, h, q, hq => by
    rcases List.mem_cons.mp hq with rfl | h2
    · exact h.1
    · exact wk_all_of h.2 q h2

theorem wk_iconst {X : wk_X} {V : wd_V} {h : Hp} {pc : Nat} {lv : List (Nat × Value)} {st : List Value} {cc : ByteArray} {own : String} {nL fr lo : Nat} (C : wk_C X V cc own nL fr lo) {n : Int} {v : Int32} (d : decode cc pc = .ok (.iconst n, 1)) (hv : Int32.ofInt n = v) (k : WW X V h (pc + 1) lv (.int v :: st)) : WW X V h pc lv (st) := by
  obtain ⟨p, l, e, R, s, m, args, below, meth, c, Q, nL0, cells, slots⟩ := X
  obtain ⟨hx, hb, hml, hown, hts, hK, hI, rfl, hfr, hlo, hcl, hsl⟩ := C
  intro H locs ls hP hS hl
  exact lv_iconst hx hb d hv (k H locs ls hP hS hl)

theorem wk_bipush {X : wk_X} {V : wd_V} {h : Hp} {pc : Nat} {lv : List (Nat × Value)} {st : List Value} {cc : ByteArray} {own : String} {nL fr lo : Nat} (C : wk_C X V cc own nL fr lo) {n : Int} {v : Int32} (d : decode cc pc = .ok (.bipush n, 2)) (hv : (Int8.ofInt n).toInt32 = v) (k : WW X V h (pc + 2) lv (.int v :: st)) : WW X V h pc lv (st) := by
  obtain ⟨p, l, e, R, s, m, args, below, meth, c, Q, nL0, cells, slots⟩ := X
  obtain ⟨hx, hb, hml, hown, hts, hK, hI, rfl, hfr, hlo, hcl, hsl⟩ := C
  intro H locs ls hP hS hl
  exact lv_bipush hx hb d hv (k H locs ls hP hS hl)

theorem wk_sipush {X : wk_X} {V : wd_V} {h : Hp} {pc : Nat} {lv : List (Nat × Value)} {st : List Value} {cc : ByteArray} {own : String} {nL fr lo : Nat} (C : wk_C X V cc own nL fr lo) {n : Int} {v : Int32} (d : decode cc pc = .ok (.sipush n, 3)) (hv : (Int16.ofInt n).toInt32 = v) (k : WW X V h (pc + 3) lv (.int v :: st)) : WW X V h pc lv (st) := by
  obtain ⟨p, l, e, R, s, m, args, below, meth, c, Q, nL0, cells, slots⟩ := X
  obtain ⟨hx, hb, hml, hown, hts, hK, hI, rfl, hfr, hlo, hcl, hsl⟩ := C
  intro H locs ls hP hS hl
  exact lv_sipush hx hb d hv (k H locs ls hP hS hl)

theorem wk_lconst {X : wk_X} {V : wd_V} {h : Hp} {pc : Nat} {lv : List (Nat × Value)} {st : List Value} {cc : ByteArray} {own : String} {nL fr lo : Nat} (C : wk_C X V cc own nL fr lo) {n : Fin 2} {v : Int64} (d : decode cc pc = .ok (.lconst n, 1)) (hv : Int64.ofNat (n : Nat) = v) (k : WW X V h (pc + 1) lv (.long v :: st)) : WW X V h pc lv (st) := by
  obtain ⟨p, l, e, R, s, m, args, below, meth, c, Q, nL0, cells, slots⟩ := X
  obtain ⟨hx, hb, hml, hown, hts, hK, hI, rfl, hfr, hlo, hcl, hsl⟩ := C
  intro H locs ls hP hS hl
  exact lv_lconst hx hb d hv (k H locs ls hP hS hl)

theorem wk_ldc {X : wk_X} {V : wd_V} {h : Hp} {pc : Nat} {lv : List (Nat × Value)} {st : List Value} {cc : ByteArray} {own : String} {nL fr lo : Nat} (C : wk_C X V cc own nL fr lo) {i : Nat} {v : Int32} (d : decode cc pc = .ok (.ldc i, 2)) (hw : Cond.constant own i v ∈ lw_g) (k : WW X V h (pc + 2) lv (.int v :: st)) : WW X V h pc lv (st) := by
  obtain ⟨p, l, e, R, s, m, args, below, meth, c, Q, nL0, cells, slots⟩ := X
  obtain ⟨hx, hb, hml, hown, hts, hK, hI, rfl, hfr, hlo, hcl, hsl⟩ := C
  intro H locs ls hP hS hl
  exact lv_ldc hx hb hown (hts _ hw) d (k H locs ls hP hS hl)

theorem wk_ldc2 {X : wk_X} {V : wd_V} {h : Hp} {pc : Nat} {lv : List (Nat × Value)} {st : List Value} {cc : ByteArray} {own : String} {nL fr lo : Nat} (C : wk_C X V cc own nL fr lo) {i : Nat} {v : Int64} (d : decode cc pc = .ok (.ldc2_w i, 3)) (hw : Cond.constantLong own i v ∈ lw_g) (k : WW X V h (pc + 3) lv (.long v :: st)) : WW X V h pc lv (st) := by
  obtain ⟨p, l, e, R, s, m, args, below, meth, c, Q, nL0, cells, slots⟩ := X
  obtain ⟨hx, hb, hml, hown, hts, hK, hI, rfl, hfr, hlo, hcl, hsl⟩ := C
  intro H locs ls hP hS hl
  exact lv_ldc2 hx hb hown (hts _ hw) d (k H locs ls hP hS hl)

theorem wk_iload_n {X : wk_X} {V : wd_V} {h : Hp} {pc : Nat} {lv : List (Nat × Value)} {st : List Value} {cc : ByteArray} {own : String} {nL fr lo : Nat} (C : wk_C X V cc own nL fr lo) {n : Fin 4} (i : Nat) {x : Int32} (d : decode cc pc = .ok (.iload_n n, 1)) (hi : (n : Nat) = i) (hk : lv.lookup i = some (.int x)) (k : WW X V h (pc + 1) lv (.int x :: st)) : WW X V h pc lv (st) := by
  obtain ⟨p, l, e, R, s, m, args, below, meth, c, Q, nL0, cells, slots⟩ := X
  obtain ⟨hx, hb, hml, hown, hts, hK, hI, rfl, hfr, hlo, hcl, hsl⟩ := C
  intro H locs ls hP hS hl
  exact lv_iload_n hx hb d hi (hl.2.2 i _ hk).1 (k H locs ls hP hS hl)

theorem wk_iload {X : wk_X} {V : wd_V} {h : Hp} {pc : Nat} {lv : List (Nat × Value)} {st : List Value} {cc : ByteArray} {own : String} {nL fr lo : Nat} (C : wk_C X V cc own nL fr lo) {i : Nat} {x : Int32} (d : decode cc pc = .ok (.iload i, 2)) (hk : lv.lookup i = some (.int x)) (k : WW X V h (pc + 2) lv (.int x :: st)) : WW X V h pc lv (st) := by
  obtain ⟨p, l, e, R, s, m, args, below, meth, c, Q, nL0, cells, slots⟩ := X
  obtain ⟨hx, hb, hml, hown, hts, hK, hI, rfl, hfr, hlo, hcl, hsl⟩ := C
  intro H locs ls hP hS hl
  exact lv_iload hx hb d (hl.2.2 i _ hk).1 (k H locs ls hP hS hl)

theorem wk_aload_n {X : wk_X} {V : wd_V} {h : Hp} {pc : Nat} {lv : List (Nat × Value)} {st : List Value} {cc : ByteArray} {own : String} {nL fr lo : Nat} (C : wk_C X V cc own nL fr lo) {n : Fin 4} (i : Nat) {x : Nat} (d : decode cc pc = .ok (.aload_n n, 1)) (hi : (n : Nat) = i) (hk : lv.lookup i = some (.ref x)) (k : WW X V h (pc + 1) lv (.ref x :: st)) : WW X V h pc lv (st) := by
  obtain ⟨p, l, e, R, s, m, args, below, meth, c, Q, nL0, cells, slots⟩ := X
  obtain ⟨hx, hb, hml, hown, hts, hK, hI, rfl, hfr, hlo, hcl, hsl⟩ := C
  intro H locs ls hP hS hl
  exact lv_aload_n hx hb d hi (hl.2.2 i _ hk).1 (k H locs ls hP hS hl)

theorem wk_aload {X : wk_X} {V : wd_V} {h : Hp} {pc : Nat} {lv : List (Nat × Value)} {st : List Value} {cc : ByteArray} {own : String} {nL fr lo : Nat} (C : wk_C X V cc own nL fr lo) {i : Nat} {x : Nat} (d : decode cc pc = .ok (.aload i, 2)) (hk : lv.lookup i = some (.ref x)) (k : WW X V h (pc + 2) lv (.ref x :: st)) : WW X V h pc lv (st) := by
  obtain ⟨p, l, e, R, s, m, args, below, meth, c, Q, nL0, cells, slots⟩ := X
  obtain ⟨hx, hb, hml, hown, hts, hK, hI, rfl, hfr, hlo, hcl, hsl⟩ := C
  intro H locs ls hP hS hl
  exact lv_aload hx hb d (hl.2.2 i _ hk).1 (k H locs ls hP hS hl)

theorem wk_aload_nN {X : wk_X} {V : wd_V} {h : Hp} {pc : Nat} {lv : List (Nat × Value)} {st : List Value} {cc : ByteArray} {own : String} {nL fr lo : Nat} (C : wk_C X V cc own nL fr lo) {n : Fin 4} (i : Nat) (d : decode cc pc = .ok (.aload_n n, 1)) (hi : (n : Nat) = i) (hk : lv.lookup i = some .null) (k : WW X V h (pc + 1) lv (.null :: st)) : WW X V h pc lv (st) := by
  obtain ⟨p, l, e, R, s, m, args, below, meth, c, Q, nL0, cells, slots⟩ := X
  obtain ⟨hx, hb, hml, hown, hts, hK, hI, rfl, hfr, hlo, hcl, hsl⟩ := C
  intro H locs ls hP hS hl
  exact lv_aload_nN hx hb d hi (hl.2.2 i _ hk).1 (k H locs ls hP hS hl)

theorem wk_aloadN {X : wk_X} {V : wd_V} {h : Hp} {pc : Nat} {lv : List (Nat × Value)} {st : List Value} {cc : ByteArray} {own : String} {nL fr lo : Nat} (C : wk_C X V cc own nL fr lo) {i : Nat} (d : decode cc pc = .ok (.aload i, 2)) (hk : lv.lookup i = some .null) (k : WW X V h (pc + 2) lv (.null :: st)) : WW X V h pc lv (st) := by
  obtain ⟨p, l, e, R, s, m, args, below, meth, c, Q, nL0, cells, slots⟩ := X
  obtain ⟨hx, hb, hml, hown, hts, hK, hI, rfl, hfr, hlo, hcl, hsl⟩ := C
  intro H locs ls hP hS hl
  exact lv_aloadN hx hb d (hl.2.2 i _ hk).1 (k H locs ls hP hS hl)

theorem wk_aloadq {X : wk_X} {V : wd_V} {h : Hp} {pc : Nat} {lv : List (Nat × Value)} {st : List Value} {cc : ByteArray} {own : String} {nL fr lo : Nat} (C : wk_C X V cc own nL fr lo) {i : Nat} {o : Option Nat} (d : decode cc pc = .ok (.aload i, 2)) (hk : lv.lookup i = some (va_rf o)) (k : WW X V h (pc + 2) lv (va_rf o :: st)) : WW X V h pc lv st := by
  cases o with
  | none => exact wk_aloadN C d hk k
  | some x => exact wk_aload C d hk k
theorem wk_aload_nq {X : wk_X} {V : wd_V} {h : Hp} {pc : Nat} {lv : List (Nat × Value)} {st : List Value} {cc : ByteArray} {own : String} {nL fr lo : Nat} (C : wk_C X V cc own nL fr lo) {n : Fin 4} (i : Nat) {o : Option Nat} (d : decode cc pc = .ok (.aload_n n, 1)) (hi : (n : Nat) = i) (hk : lv.lookup i = some (va_rf o)) (k : WW X V h (pc + 1) lv (va_rf o :: st)) : WW X V h pc lv st := by
  cases o with
  | none => exact wk_aload_nN C i d hi hk k
  | some x => exact wk_aload_n C i d hi hk k

theorem wk_istore_n {X : wk_X} {V : wd_V} {h : Hp} {pc : Nat} {lv : List (Nat × Value)} {st : List Value} {cc : ByteArray} {own : String} {nL fr lo : Nat} (C : wk_C X V cc own nL fr lo) {n : Fin 4} (i : Nat) {x : Int32} (d : decode cc pc = .ok (.istore_n n, 1)) (hi : (n : Nat) = i) (hn : i < nL) (k : WW X V h (pc + 1) ((i, .int x) :: lv) st) : WW X V h pc lv (.int x :: st) := by
  obtain ⟨p, l, e, R, s, m, args, below, meth, c, Q, nL0, cells, slots⟩ := X
  obtain ⟨hx, hb, hml, hown, hts, hK, hI, rfl, hfr, hlo, hcl, hsl⟩ := C
  intro H locs ls hP hS hl
  subst hi
  obtain ⟨ls', e', h'⟩ := wk_store1 (v := .int x) hl hn rfl
  intro T hT Z
  obtain ⟨t, a, b⟩ := k H locs ls' hP hS h' T hT Z
  refine ⟨t, ?_, b⟩
  jvm_step Z.here [Z.here.top, ↓top_set Z.here.top, hx, hb, d, e']
  exact a

theorem wk_istore {X : wk_X} {V : wd_V} {h : Hp} {pc : Nat} {lv : List (Nat × Value)} {st : List Value} {cc : ByteArray} {own : String} {nL fr lo : Nat} (C : wk_C X V cc own nL fr lo) {i : Nat} {x : Int32} (d : decode cc pc = .ok (.istore i, 2))  (hn : i < nL) (k : WW X V h (pc + 2) ((i, .int x) :: lv) st) : WW X V h pc lv (.int x :: st) := by
  obtain ⟨p, l, e, R, s, m, args, below, meth, c, Q, nL0, cells, slots⟩ := X
  obtain ⟨hx, hb, hml, hown, hts, hK, hI, rfl, hfr, hlo, hcl, hsl⟩ := C
  intro H locs ls hP hS hl
  obtain ⟨ls', e', h'⟩ := wk_store1 (v := .int x) hl hn rfl
  intro T hT Z
  obtain ⟨t, a, b⟩ := k H locs ls' hP hS h' T hT Z
  refine ⟨t, ?_, b⟩
  jvm_step Z.here [Z.here.top, ↓top_set Z.here.top, hx, hb, d, e']
  exact a

theorem wk_astore_n {X : wk_X} {V : wd_V} {h : Hp} {pc : Nat} {lv : List (Nat × Value)} {st : List Value} {cc : ByteArray} {own : String} {nL fr lo : Nat} (C : wk_C X V cc own nL fr lo) {n : Fin 4} (i : Nat) {x : Nat} (d : decode cc pc = .ok (.astore_n n, 1)) (hi : (n : Nat) = i) (hn : i < nL) (k : WW X V h (pc + 1) ((i, .ref x) :: lv) st) : WW X V h pc lv (.ref x :: st) := by
  obtain ⟨p, l, e, R, s, m, args, below, meth, c, Q, nL0, cells, slots⟩ := X
  obtain ⟨hx, hb, hml, hown, hts, hK, hI, rfl, hfr, hlo, hcl, hsl⟩ := C
  intro H locs ls hP hS hl
  subst hi
  obtain ⟨ls', e', h'⟩ := wk_store1 (v := .ref x) hl hn rfl
  intro T hT Z
  obtain ⟨t, a, b⟩ := k H locs ls' hP hS h' T hT Z
  refine ⟨t, ?_, b⟩
  jvm_step Z.here [Z.here.top, ↓top_set Z.here.top, hx, hb, d, e', Value.isRef]
  exact a

theorem wk_astore {X : wk_X} {V : wd_V} {h : Hp} {pc : Nat} {lv : List (Nat × Value)} {st : List Value} {cc : ByteArray} {own : String} {nL fr lo : Nat} (C : wk_C X V cc own nL fr lo) {i : Nat} {x : Nat} (d : decode cc pc = .ok (.astore i, 2))  (hn : i < nL) (k : WW X V h (pc + 2) ((i, .ref x) :: lv) st) : WW X V h pc lv (.ref x :: st) := by
  obtain ⟨p, l, e, R, s, m, args, below, meth, c, Q, nL0, cells, slots⟩ := X
  obtain ⟨hx, hb, hml, hown, hts, hK, hI, rfl, hfr, hlo, hcl, hsl⟩ := C
  intro H locs ls hP hS hl
  obtain ⟨ls', e', h'⟩ := wk_store1 (v := .ref x) hl hn rfl
  intro T hT Z
  obtain ⟨t, a, b⟩ := k H locs ls' hP hS h' T hT Z
  refine ⟨t, ?_, b⟩
  jvm_step Z.here [Z.here.top, ↓top_set Z.here.top, hx, hb, d, e', Value.isRef]
  exact a

theorem wk_astore_nN {X : wk_X} {V : wd_V} {h : Hp} {pc : Nat} {lv : List (Nat × Value)} {st : List Value} {cc : ByteArray} {own : String} {nL fr lo : Nat} (C : wk_C X V cc own nL fr lo) {n : Fin 4} (i : Nat) (d : decode cc pc = .ok (.astore_n n, 1)) (hi : (n : Nat) = i) (hn : i < nL) (k : WW X V h (pc + 1) ((i, .null) :: lv) st) : WW X V h pc lv (.null :: st) := by
  obtain ⟨p, l, e, R, s, m, args, below, meth, c, Q, nL0, cells, slots⟩ := X
  obtain ⟨hx, hb, hml, hown, hts, hK, hI, rfl, hfr, hlo, hcl, hsl⟩ := C
  intro H locs ls hP hS hl
  subst hi
  obtain ⟨ls', e', h'⟩ := wk_store1 (v := .null) hl hn rfl
  intro T hT Z
  obtain ⟨t, a, b⟩ := k H locs ls' hP hS h' T hT Z
  refine ⟨t, ?_, b⟩
  jvm_step Z.here [Z.here.top, ↓top_set Z.here.top, hx, hb, d, e', Value.isRef]
  exact a

theorem wk_astoreN {X : wk_X} {V : wd_V} {h : Hp} {pc : Nat} {lv : List (Nat × Value)} {st : List Value} {cc : ByteArray} {own : String} {nL fr lo : Nat} (C : wk_C X V cc own nL fr lo) {i : Nat} (d : decode cc pc = .ok (.astore i, 2))  (hn : i < nL) (k : WW X V h (pc + 2) ((i, .null) :: lv) st) : WW X V h pc lv (.null :: st) := by
  obtain ⟨p, l, e, R, s, m, args, below, meth, c, Q, nL0, cells, slots⟩ := X
  obtain ⟨hx, hb, hml, hown, hts, hK, hI, rfl, hfr, hlo, hcl, hsl⟩ := C
  intro H locs ls hP hS hl
  obtain ⟨ls', e', h'⟩ := wk_store1 (v := .null) hl hn rfl
  intro T hT Z
  obtain ⟨t, a, b⟩ := k H locs ls' hP hS h' T hT Z
  refine ⟨t, ?_, b⟩
  jvm_step Z.here [Z.here.top, ↓top_set Z.here.top, hx, hb, d, e', Value.isRef]
  exact a

theorem wk_astoreq {X : wk_X} {V : wd_V} {h : Hp} {pc : Nat} {lv : List (Nat × Value)} {st : List Value} {cc : ByteArray} {own : String} {nL fr lo : Nat} (C : wk_C X V cc own nL fr lo) {i : Nat} {o : Option Nat} (d : decode cc pc = .ok (.astore i, 2)) (hn : i < nL) (k : WW X V h (pc + 2) ((i, va_rf o) :: lv) st) : WW X V h pc lv (va_rf o :: st) := by
  cases o with
  | none => exact wk_astoreN C d hn k
  | some x => exact wk_astore C d hn k
theorem wk_astore_nq {X : wk_X} {V : wd_V} {h : Hp} {pc : Nat} {lv : List (Nat × Value)} {st : List Value} {cc : ByteArray} {own : String} {nL fr lo : Nat} (C : wk_C X V cc own nL fr lo) {n : Fin 4} (i : Nat) {o : Option Nat} (d : decode cc pc = .ok (.astore_n n, 1)) (hi : (n : Nat) = i) (hn : i < nL) (k : WW X V h (pc + 1) ((i, va_rf o) :: lv) st) : WW X V h pc lv (va_rf o :: st) := by
  cases o with
  | none => exact wk_astore_nN C i d hi hn k
  | some x => exact wk_astore_n C i d hi hn k

theorem wk_iinc {X : wk_X} {V : wd_V} {h : Hp} {pc : Nat} {lv : List (Nat × Value)} {st : List Value} {cc : ByteArray} {own : String} {nL fr lo : Nat} (C : wk_C X V cc own nL fr lo) {i : Nat} {n : Int} {x v : Int32} (d : decode cc pc = .ok (.iinc i n, 3)) (hk : lv.lookup i = some (.int x)) (hv : Int32.ofInt n = v) (hn : i < nL) (k : WW X V h (pc + 3) ((i, .int (x + v)) :: lv) st) : WW X V h pc lv st := by
  obtain ⟨p, l, e, R, s, m, args, below, meth, c, Q, nL0, cells, slots⟩ := X
  obtain ⟨hx, hb, hml, hown, hts, hK, hI, rfl, hfr, hlo, hcl, hsl⟩ := C
  subst hv
  intro H locs ls hP hS hl
  have hg := (hl.2.2 i _ hk).1
  obtain ⟨ls', e', h'⟩ := wk_store1 (v := .int (x + Int32.ofInt n)) hl hn rfl
  intro T hT Z
  obtain ⟨t, a, b⟩ := k H locs ls' hP hS h' T hT Z
  refine ⟨t, ?_, b⟩
  jvm_step Z.here [Z.here.top, ↓top_set Z.here.top, hx, hb, d, hg, e']
  exact a

theorem wk_iadd {X : wk_X} {V : wd_V} {h : Hp} {pc : Nat} {lv : List (Nat × Value)} {st : List Value} {cc : ByteArray} {own : String} {nL fr lo : Nat} (C : wk_C X V cc own nL fr lo) {x y : Int32} (d : decode cc pc = .ok (.iadd, 1))  (k : WW X V h (pc + 1) lv (.int (x + y) :: st)) : WW X V h pc lv (.int y :: .int x :: st) := by
  obtain ⟨p, l, e, R, s, m, args, below, meth, c, Q, nL0, cells, slots⟩ := X
  obtain ⟨hx, hb, hml, hown, hts, hK, hI, rfl, hfr, hlo, hcl, hsl⟩ := C
  intro H locs ls hP hS hl
  exact lv_iadd hx hb d (k H locs ls hP hS hl)

theorem wk_isub {X : wk_X} {V : wd_V} {h : Hp} {pc : Nat} {lv : List (Nat × Value)} {st : List Value} {cc : ByteArray} {own : String} {nL fr lo : Nat} (C : wk_C X V cc own nL fr lo) {x y : Int32} (d : decode cc pc = .ok (.isub, 1))  (k : WW X V h (pc + 1) lv (.int (x - y) :: st)) : WW X V h pc lv (.int y :: .int x :: st) := by
  obtain ⟨p, l, e, R, s, m, args, below, meth, c, Q, nL0, cells, slots⟩ := X
  obtain ⟨hx, hb, hml, hown, hts, hK, hI, rfl, hfr, hlo, hcl, hsl⟩ := C
  intro H locs ls hP hS hl
  exact lv_isub hx hb d (k H locs ls hP hS hl)

theorem wk_imul {X : wk_X} {V : wd_V} {h : Hp} {pc : Nat} {lv : List (Nat × Value)} {st : List Value} {cc : ByteArray} {own : String} {nL fr lo : Nat} (C : wk_C X V cc own nL fr lo) {x y : Int32} (d : decode cc pc = .ok (.imul, 1))  (k : WW X V h (pc + 1) lv (.int (x * y) :: st)) : WW X V h pc lv (.int y :: .int x :: st) := by
  obtain ⟨p, l, e, R, s, m, args, below, meth, c, Q, nL0, cells, slots⟩ := X
  obtain ⟨hx, hb, hml, hown, hts, hK, hI, rfl, hfr, hlo, hcl, hsl⟩ := C
  intro H locs ls hP hS hl
  exact lv_imul hx hb d (k H locs ls hP hS hl)

theorem wk_iand {X : wk_X} {V : wd_V} {h : Hp} {pc : Nat} {lv : List (Nat × Value)} {st : List Value} {cc : ByteArray} {own : String} {nL fr lo : Nat} (C : wk_C X V cc own nL fr lo) {x y : Int32} (d : decode cc pc = .ok (.iand, 1))  (k : WW X V h (pc + 1) lv (.int (x &&& y) :: st)) : WW X V h pc lv (.int y :: .int x :: st) := by
  obtain ⟨p, l, e, R, s, m, args, below, meth, c, Q, nL0, cells, slots⟩ := X
  obtain ⟨hx, hb, hml, hown, hts, hK, hI, rfl, hfr, hlo, hcl, hsl⟩ := C
  intro H locs ls hP hS hl
  exact lv_iand hx hb d (k H locs ls hP hS hl)

theorem wk_ior {X : wk_X} {V : wd_V} {h : Hp} {pc : Nat} {lv : List (Nat × Value)} {st : List Value} {cc : ByteArray} {own : String} {nL fr lo : Nat} (C : wk_C X V cc own nL fr lo) {x y : Int32} (d : decode cc pc = .ok (.ior, 1))  (k : WW X V h (pc + 1) lv (.int (x ||| y) :: st)) : WW X V h pc lv (.int y :: .int x :: st) := by
  obtain ⟨p, l, e, R, s, m, args, below, meth, c, Q, nL0, cells, slots⟩ := X
  obtain ⟨hx, hb, hml, hown, hts, hK, hI, rfl, hfr, hlo, hcl, hsl⟩ := C
  intro H locs ls hP hS hl
  exact lv_ior hx hb d (k H locs ls hP hS hl)

theorem wk_ixor {X : wk_X} {V : wd_V} {h : Hp} {pc : Nat} {lv : List (Nat × Value)} {st : List Value} {cc : ByteArray} {own : String} {nL fr lo : Nat} (C : wk_C X V cc own nL fr lo) {x y : Int32} (d : decode cc pc = .ok (.ixor, 1))  (k : WW X V h (pc + 1) lv (.int (x ^^^ y) :: st)) : WW X V h pc lv (.int y :: .int x :: st) := by
  obtain ⟨p, l, e, R, s, m, args, below, meth, c, Q, nL0, cells, slots⟩ := X
  obtain ⟨hx, hb, hml, hown, hts, hK, hI, rfl, hfr, hlo, hcl, hsl⟩ := C
  intro H locs ls hP hS hl
  exact lv_ixor hx hb d (k H locs ls hP hS hl)

theorem wk_ineg {X : wk_X} {V : wd_V} {h : Hp} {pc : Nat} {lv : List (Nat × Value)} {st : List Value} {cc : ByteArray} {own : String} {nL fr lo : Nat} (C : wk_C X V cc own nL fr lo) {x : Int32} (d : decode cc pc = .ok (.ineg, 1))  (k : WW X V h (pc + 1) lv (.int (-x) :: st)) : WW X V h pc lv (.int x :: st) := by
  obtain ⟨p, l, e, R, s, m, args, below, meth, c, Q, nL0, cells, slots⟩ := X
  obtain ⟨hx, hb, hml, hown, hts, hK, hI, rfl, hfr, hlo, hcl, hsl⟩ := C
  intro H locs ls hP hS hl
  exact lv_ineg hx hb d (k H locs ls hP hS hl)

theorem wk_idiv {X : wk_X} {V : wd_V} {h : Hp} {pc : Nat} {lv : List (Nat × Value)} {st : List Value} {cc : ByteArray} {own : String} {nL fr lo : Nat} (C : wk_C X V cc own nL fr lo) {x y : Int32} (d : decode cc pc = .ok (.idiv, 1)) (hne : ¬ y = 0) (k : WW X V h (pc + 1) lv (.int (x / y) :: st)) : WW X V h pc lv (.int y :: .int x :: st) := by
  obtain ⟨p, l, e, R, s, m, args, below, meth, c, Q, nL0, cells, slots⟩ := X
  obtain ⟨hx, hb, hml, hown, hts, hK, hI, rfl, hfr, hlo, hcl, hsl⟩ := C
  intro H locs ls hP hS hl
  exact lv_idiv hx hb d hne (k H locs ls hP hS hl)

theorem wk_irem {X : wk_X} {V : wd_V} {h : Hp} {pc : Nat} {lv : List (Nat × Value)} {st : List Value} {cc : ByteArray} {own : String} {nL fr lo : Nat} (C : wk_C X V cc own nL fr lo) {x y : Int32} (d : decode cc pc = .ok (.irem, 1)) (hne : ¬ y = 0) (k : WW X V h (pc + 1) lv (.int (x - x / y * y) :: st)) : WW X V h pc lv (.int y :: .int x :: st) := by
  obtain ⟨p, l, e, R, s, m, args, below, meth, c, Q, nL0, cells, slots⟩ := X
  obtain ⟨hx, hb, hml, hown, hts, hK, hI, rfl, hfr, hlo, hcl, hsl⟩ := C
  intro H locs ls hP hS hl
  exact lv_irem hx hb d hne (k H locs ls hP hS hl)

theorem wk_ishl {X : wk_X} {V : wd_V} {h : Hp} {pc : Nat} {lv : List (Nat × Value)} {st : List Value} {cc : ByteArray} {own : String} {nL fr lo : Nat} (C : wk_C X V cc own nL fr lo) {x y : Int32} (d : decode cc pc = .ok (.ishl, 1))  (k : WW X V h (pc + 1) lv (.int (x <<< (y &&& 31)) :: st)) : WW X V h pc lv (.int y :: .int x :: st) := by
  obtain ⟨p, l, e, R, s, m, args, below, meth, c, Q, nL0, cells, slots⟩ := X
  obtain ⟨hx, hb, hml, hown, hts, hK, hI, rfl, hfr, hlo, hcl, hsl⟩ := C
  intro H locs ls hP hS hl
  exact lv_ishl hx hb d (k H locs ls hP hS hl)

theorem wk_ishr {X : wk_X} {V : wd_V} {h : Hp} {pc : Nat} {lv : List (Nat × Value)} {st : List Value} {cc : ByteArray} {own : String} {nL fr lo : Nat} (C : wk_C X V cc own nL fr lo) {x y : Int32} (d : decode cc pc = .ok (.ishr, 1))  (k : WW X V h (pc + 1) lv (.int (x >>> (y &&& 31)) :: st)) : WW X V h pc lv (.int y :: .int x :: st) := by
  obtain ⟨p, l, e, R, s, m, args, below, meth, c, Q, nL0, cells, slots⟩ := X
  obtain ⟨hx, hb, hml, hown, hts, hK, hI, rfl, hfr, hlo, hcl, hsl⟩ := C
  intro H locs ls hP hS hl
  exact lv_ishr hx hb d (k H locs ls hP hS hl)

theorem wk_iushr {X : wk_X} {V : wd_V} {h : Hp} {pc : Nat} {lv : List (Nat × Value)} {st : List Value} {cc : ByteArray} {own : String} {nL fr lo : Nat} (C : wk_C X V cc own nL fr lo) {x y : Int32} (d : decode cc pc = .ok (.iushr, 1))  (k : WW X V h (pc + 1) lv (.int ((x.toUInt32 >>> (y.toUInt32 &&& Int32.toUInt32 31)).toInt32) :: st)) : WW X V h pc lv (.int y :: .int x :: st) := by
  obtain ⟨p, l, e, R, s, m, args, below, meth, c, Q, nL0, cells, slots⟩ := X
  obtain ⟨hx, hb, hml, hown, hts, hK, hI, rfl, hfr, hlo, hcl, hsl⟩ := C
  intro H locs ls hP hS hl
  exact lv_iushr hx hb d rfl (k H locs ls hP hS hl)

theorem wk_i2b {X : wk_X} {V : wd_V} {h : Hp} {pc : Nat} {lv : List (Nat × Value)} {st : List Value} {cc : ByteArray} {own : String} {nL fr lo : Nat} (C : wk_C X V cc own nL fr lo) {x : Int32} (d : decode cc pc = .ok (.i2b, 1))  (k : WW X V h (pc + 1) lv (.int (x.toInt8.toInt32) :: st)) : WW X V h pc lv (.int x :: st) := by
  obtain ⟨p, l, e, R, s, m, args, below, meth, c, Q, nL0, cells, slots⟩ := X
  obtain ⟨hx, hb, hml, hown, hts, hK, hI, rfl, hfr, hlo, hcl, hsl⟩ := C
  intro H locs ls hP hS hl
  exact lv_i2b hx hb d rfl (k H locs ls hP hS hl)

theorem wk_i2l {X : wk_X} {V : wd_V} {h : Hp} {pc : Nat} {lv : List (Nat × Value)} {st : List Value} {cc : ByteArray} {own : String} {nL fr lo : Nat} (C : wk_C X V cc own nL fr lo) {x : Int32} (d : decode cc pc = .ok (.i2l, 1))  (k : WW X V h (pc + 1) lv (.long (x.toInt64) :: st)) : WW X V h pc lv (.int x :: st) := by
  obtain ⟨p, l, e, R, s, m, args, below, meth, c, Q, nL0, cells, slots⟩ := X
  obtain ⟨hx, hb, hml, hown, hts, hK, hI, rfl, hfr, hlo, hcl, hsl⟩ := C
  intro H locs ls hP hS hl
  exact lv_i2l hx hb d rfl (k H locs ls hP hS hl)

theorem wk_l2i {X : wk_X} {V : wd_V} {h : Hp} {pc : Nat} {lv : List (Nat × Value)} {st : List Value} {cc : ByteArray} {own : String} {nL fr lo : Nat} (C : wk_C X V cc own nL fr lo) {x : Int64} (d : decode cc pc = .ok (.l2i, 1))  (k : WW X V h (pc + 1) lv (.int (x.toInt32) :: st)) : WW X V h pc lv (.long x :: st) := by
  obtain ⟨p, l, e, R, s, m, args, below, meth, c, Q, nL0, cells, slots⟩ := X
  obtain ⟨hx, hb, hml, hown, hts, hK, hI, rfl, hfr, hlo, hcl, hsl⟩ := C
  intro H locs ls hP hS hl
  exact lv_l2i hx hb d rfl (k H locs ls hP hS hl)

theorem wk_ladd {X : wk_X} {V : wd_V} {h : Hp} {pc : Nat} {lv : List (Nat × Value)} {st : List Value} {cc : ByteArray} {own : String} {nL fr lo : Nat} (C : wk_C X V cc own nL fr lo) {x y : Int64} (d : decode cc pc = .ok (.ladd, 1))  (k : WW X V h (pc + 1) lv (.long (x + y) :: st)) : WW X V h pc lv (.long y :: .long x :: st) := by
  obtain ⟨p, l, e, R, s, m, args, below, meth, c, Q, nL0, cells, slots⟩ := X
  obtain ⟨hx, hb, hml, hown, hts, hK, hI, rfl, hfr, hlo, hcl, hsl⟩ := C
  intro H locs ls hP hS hl
  exact lv_ladd hx hb d (k H locs ls hP hS hl)

theorem wk_lsub {X : wk_X} {V : wd_V} {h : Hp} {pc : Nat} {lv : List (Nat × Value)} {st : List Value} {cc : ByteArray} {own : String} {nL fr lo : Nat} (C : wk_C X V cc own nL fr lo) {x y : Int64} (d : decode cc pc = .ok (.lsub, 1))  (k : WW X V h (pc + 1) lv (.long (x - y) :: st)) : WW X V h pc lv (.long y :: .long x :: st) := by
  obtain ⟨p, l, e, R, s, m, args, below, meth, c, Q, nL0, cells, slots⟩ := X
  obtain ⟨hx, hb, hml, hown, hts, hK, hI, rfl, hfr, hlo, hcl, hsl⟩ := C
  intro H locs ls hP hS hl
  exact lv_lsub hx hb d (k H locs ls hP hS hl)

theorem wk_lmul {X : wk_X} {V : wd_V} {h : Hp} {pc : Nat} {lv : List (Nat × Value)} {st : List Value} {cc : ByteArray} {own : String} {nL fr lo : Nat} (C : wk_C X V cc own nL fr lo) {x y : Int64} (d : decode cc pc = .ok (.lmul, 1))  (k : WW X V h (pc + 1) lv (.long (x * y) :: st)) : WW X V h pc lv (.long y :: .long x :: st) := by
  obtain ⟨p, l, e, R, s, m, args, below, meth, c, Q, nL0, cells, slots⟩ := X
  obtain ⟨hx, hb, hml, hown, hts, hK, hI, rfl, hfr, hlo, hcl, hsl⟩ := C
  intro H locs ls hP hS hl
  exact lv_lmul hx hb d (k H locs ls hP hS hl)

theorem wk_lcmp {X : wk_X} {V : wd_V} {h : Hp} {pc : Nat} {lv : List (Nat × Value)} {st : List Value} {cc : ByteArray} {own : String} {nL fr lo : Nat} (C : wk_C X V cc own nL fr lo) {x y : Int64} (d : decode cc pc = .ok (.lcmp, 1))  (k : WW X V h (pc + 1) lv (.int (lg_cmp x y) :: st)) : WW X V h pc lv (.long y :: .long x :: st) := by
  obtain ⟨p, l, e, R, s, m, args, below, meth, c, Q, nL0, cells, slots⟩ := X
  obtain ⟨hx, hb, hml, hown, hts, hK, hI, rfl, hfr, hlo, hcl, hsl⟩ := C
  intro H locs ls hP hS hl
  exact W.lcmp hx hb d (k H locs ls hP hS hl)

theorem wk_dup {X : wk_X} {V : wd_V} {h : Hp} {pc : Nat} {lv : List (Nat × Value)} {st : List Value} {cc : ByteArray} {own : String} {nL fr lo : Nat} (C : wk_C X V cc own nL fr lo) {va : Value} (d : decode cc pc = .ok (.dup, 1)) (hva : va.category = 1) (k : WW X V h (pc + 1) lv (va :: va :: st)) : WW X V h pc lv (va :: st) := by
  obtain ⟨p, l, e, R, s, m, args, below, meth, c, Q, nL0, cells, slots⟩ := X
  obtain ⟨hx, hb, hml, hown, hts, hK, hI, rfl, hfr, hlo, hcl, hsl⟩ := C
  intro H locs ls hP hS hl
  exact lv_dup hx hb d hva (k H locs ls hP hS hl)

theorem wk_pop {X : wk_X} {V : wd_V} {h : Hp} {pc : Nat} {lv : List (Nat × Value)} {st : List Value} {cc : ByteArray} {own : String} {nL fr lo : Nat} (C : wk_C X V cc own nL fr lo) {va : Value} (d : decode cc pc = .ok (.pop, 1)) (hva : va.category = 1) (k : WW X V h (pc + 1) lv (st)) : WW X V h pc lv (va :: st) := by
  obtain ⟨p, l, e, R, s, m, args, below, meth, c, Q, nL0, cells, slots⟩ := X
  obtain ⟨hx, hb, hml, hown, hts, hK, hI, rfl, hfr, hlo, hcl, hsl⟩ := C
  intro H locs ls hP hS hl
  exact lv_pop hx hb d hva (k H locs ls hP hS hl)

theorem wk_dup2 {X : wk_X} {V : wd_V} {h : Hp} {pc : Nat} {lv : List (Nat × Value)} {st : List Value} {cc : ByteArray} {own : String} {nL fr lo : Nat} (C : wk_C X V cc own nL fr lo) {va vb : Value} (d : decode cc pc = .ok (.dup2, 1)) (hva : va.category = 1) (hvb : vb.category = 1) (k : WW X V h (pc + 1) lv (va :: vb :: va :: vb :: st)) : WW X V h pc lv (va :: vb :: st) := by
  obtain ⟨p, l, e, R, s, m, args, below, meth, c, Q, nL0, cells, slots⟩ := X
  obtain ⟨hx, hb, hml, hown, hts, hK, hI, rfl, hfr, hlo, hcl, hsl⟩ := C
  intro H locs ls hP hS hl
  exact lv_dup2_11 hx hb d hva hvb (k H locs ls hP hS hl)

theorem wk_null {X : wk_X} {V : wd_V} {h : Hp} {pc : Nat} {lv : List (Nat × Value)} {st : List Value} {cc : ByteArray} {own : String} {nL fr lo : Nat} (C : wk_C X V cc own nL fr lo)  (d : decode cc pc = .ok (.aconst_null, 1))  (k : WW X V h (pc + 1) lv (.null :: st)) : WW X V h pc lv (st) := by
  obtain ⟨p, l, e, R, s, m, args, below, meth, c, Q, nL0, cells, slots⟩ := X
  obtain ⟨hx, hb, hml, hown, hts, hK, hI, rfl, hfr, hlo, hcl, hsl⟩ := C
  intro H locs ls hP hS hl
  exact lv_null hx hb d (k H locs ls hP hS hl)

theorem wk_if_eq {X : wk_X} {V : wd_V} {h : Hp} {pc : Nat} {lv : List (Nat × Value)} {st : List Value} {cc : ByteArray} {own : String} {nL fr lo : Nat} (C : wk_C X V cc own nL fr lo) {β : Type} {a b : Option β} {r : β} {x : Int32} {off : Int} {tgt : Nat} (d : decode cc pc = .ok (.ifCond .eq off, 3)) (ht : (pc : Int) + off = (tgt : Int)) (hf : (if x = 0 then a else b) = some r) (kt : x = 0 → a = some r → WW X V h tgt lv st) (kf : ¬ x = 0 → b = some r → WW X V h (pc + 3) lv st) : WW X V h pc lv (.int x :: st) := by
  obtain ⟨p, l, e, R, s, m, args, below, meth, c, Q, nL0, cells, slots⟩ := X
  obtain ⟨hx, hb, hml, hown, hts, hK, hI, rfl, hfr, hlo, hcl, hsl⟩ := C
  intro H locs ls hP hS hl
  exact lv_if_eq hx hb d ht (fun z => kt z ((if_pos z).symm.trans hf) H locs ls hP hS hl) (fun z => kf z ((if_neg z).symm.trans hf) H locs ls hP hS hl)

theorem wk_icmp_eq {X : wk_X} {V : wd_V} {h : Hp} {pc : Nat} {lv : List (Nat × Value)} {st : List Value} {cc : ByteArray} {own : String} {nL fr lo : Nat} (C : wk_C X V cc own nL fr lo) {β : Type} {a b : Option β} {r : β} {x y : Int32} {off : Int} {tgt : Nat} (d : decode cc pc = .ok (.if_icmp .eq off, 3)) (ht : (pc : Int) + off = (tgt : Int)) (hf : (if x = y then a else b) = some r) (kt : x = y → a = some r → WW X V h tgt lv st) (kf : ¬ x = y → b = some r → WW X V h (pc + 3) lv st) : WW X V h pc lv (.int y :: .int x :: st) := by
  obtain ⟨p, l, e, R, s, m, args, below, meth, c, Q, nL0, cells, slots⟩ := X
  obtain ⟨hx, hb, hml, hown, hts, hK, hI, rfl, hfr, hlo, hcl, hsl⟩ := C
  intro H locs ls hP hS hl
  exact lv_icmp_eq hx hb d ht (fun z => kt z ((if_pos z).symm.trans hf) H locs ls hP hS hl) (fun z => kf z ((if_neg z).symm.trans hf) H locs ls hP hS hl)

theorem wk_if_ne {X : wk_X} {V : wd_V} {h : Hp} {pc : Nat} {lv : List (Nat × Value)} {st : List Value} {cc : ByteArray} {own : String} {nL fr lo : Nat} (C : wk_C X V cc own nL fr lo) {β : Type} {a b : Option β} {r : β} {x : Int32} {off : Int} {tgt : Nat} (d : decode cc pc = .ok (.ifCond .ne off, 3)) (ht : (pc : Int) + off = (tgt : Int)) (hf : (if x = 0 then a else b) = some r) (kt : ¬ x = 0 → b = some r → WW X V h tgt lv st) (kf : x = 0 → a = some r → WW X V h (pc + 3) lv st) : WW X V h pc lv (.int x :: st) := by
  obtain ⟨p, l, e, R, s, m, args, below, meth, c, Q, nL0, cells, slots⟩ := X
  obtain ⟨hx, hb, hml, hown, hts, hK, hI, rfl, hfr, hlo, hcl, hsl⟩ := C
  intro H locs ls hP hS hl
  exact lv_if_ne hx hb d ht (fun z => kt z ((if_neg z).symm.trans hf) H locs ls hP hS hl) (fun z => kf z ((if_pos z).symm.trans hf) H locs ls hP hS hl)

theorem wk_icmp_ne {X : wk_X} {V : wd_V} {h : Hp} {pc : Nat} {lv : List (Nat × Value)} {st : List Value} {cc : ByteArray} {own : String} {nL fr lo : Nat} (C : wk_C X V cc own nL fr lo) {β : Type} {a b : Option β} {r : β} {x y : Int32} {off : Int} {tgt : Nat} (d : decode cc pc = .ok (.if_icmp .ne off, 3)) (ht : (pc : Int) + off = (tgt : Int)) (hf : (if x = y then a else b) = some r) (kt : ¬ x = y → b = some r → WW X V h tgt lv st) (kf : x = y → a = some r → WW X V h (pc + 3) lv st) : WW X V h pc lv (.int y :: .int x :: st) := by
  obtain ⟨p, l, e, R, s, m, args, below, meth, c, Q, nL0, cells, slots⟩ := X
  obtain ⟨hx, hb, hml, hown, hts, hK, hI, rfl, hfr, hlo, hcl, hsl⟩ := C
  intro H locs ls hP hS hl
  exact lv_icmp_ne hx hb d ht (fun z => kt z ((if_neg z).symm.trans hf) H locs ls hP hS hl) (fun z => kf z ((if_pos z).symm.trans hf) H locs ls hP hS hl)

theorem wk_if_lt {X : wk_X} {V : wd_V} {h : Hp} {pc : Nat} {lv : List (Nat × Value)} {st : List Value} {cc : ByteArray} {own : String} {nL fr lo : Nat} (C : wk_C X V cc own nL fr lo) {β : Type} {a b : Option β} {r : β} {x : Int32} {off : Int} {tgt : Nat} (d : decode cc pc = .ok (.ifCond .lt off, 3)) (ht : (pc : Int) + off = (tgt : Int)) (hf : (if x < 0 then a else b) = some r) (kt : x < 0 → a = some r → WW X V h tgt lv st) (kf : ¬ x < 0 → b = some r → WW X V h (pc + 3) lv st) : WW X V h pc lv (.int x :: st) := by
  obtain ⟨p, l, e, R, s, m, args, below, meth, c, Q, nL0, cells, slots⟩ := X
  obtain ⟨hx, hb, hml, hown, hts, hK, hI, rfl, hfr, hlo, hcl, hsl⟩ := C
  intro H locs ls hP hS hl
  exact lv_if_lt hx hb d ht (fun z => kt z ((if_pos z).symm.trans hf) H locs ls hP hS hl) (fun z => kf z ((if_neg z).symm.trans hf) H locs ls hP hS hl)

theorem wk_icmp_lt {X : wk_X} {V : wd_V} {h : Hp} {pc : Nat} {lv : List (Nat × Value)} {st : List Value} {cc : ByteArray} {own : String} {nL fr lo : Nat} (C : wk_C X V cc own nL fr lo) {β : Type} {a b : Option β} {r : β} {x y : Int32} {off : Int} {tgt : Nat} (d : decode cc pc = .ok (.if_icmp .lt off, 3)) (ht : (pc : Int) + off = (tgt : Int)) (hf : (if x < y then a else b) = some r) (kt : x < y → a = some r → WW X V h tgt lv st) (kf : ¬ x < y → b = some r → WW X V h (pc + 3) lv st) : WW X V h pc lv (.int y :: .int x :: st) := by
  obtain ⟨p, l, e, R, s, m, args, below, meth, c, Q, nL0, cells, slots⟩ := X
  obtain ⟨hx, hb, hml, hown, hts, hK, hI, rfl, hfr, hlo, hcl, hsl⟩ := C
  intro H locs ls hP hS hl
  exact lv_icmp_lt hx hb d ht (fun z => kt z ((if_pos z).symm.trans hf) H locs ls hP hS hl) (fun z => kf z ((if_neg z).symm.trans hf) H locs ls hP hS hl)

theorem wk_if_ge {X : wk_X} {V : wd_V} {h : Hp} {pc : Nat} {lv : List (Nat × Value)} {st : List Value} {cc : ByteArray} {own : String} {nL fr lo : Nat} (C : wk_C X V cc own nL fr lo) {β : Type} {a b : Option β} {r : β} {x : Int32} {off : Int} {tgt : Nat} (d : decode cc pc = .ok (.ifCond .ge off, 3)) (ht : (pc : Int) + off = (tgt : Int)) (hf : (if 0 ≤ x then a else b) = some r) (kt : 0 ≤ x → a = some r → WW X V h tgt lv st) (kf : ¬ 0 ≤ x → b = some r → WW X V h (pc + 3) lv st) : WW X V h pc lv (.int x :: st) := by
  obtain ⟨p, l, e, R, s, m, args, below, meth, c, Q, nL0, cells, slots⟩ := X
  obtain ⟨hx, hb, hml, hown, hts, hK, hI, rfl, hfr, hlo, hcl, hsl⟩ := C
  intro H locs ls hP hS hl
  exact lv_if_ge hx hb d ht (fun z => kt z ((if_pos z).symm.trans hf) H locs ls hP hS hl) (fun z => kf z ((if_neg z).symm.trans hf) H locs ls hP hS hl)

theorem wk_icmp_ge {X : wk_X} {V : wd_V} {h : Hp} {pc : Nat} {lv : List (Nat × Value)} {st : List Value} {cc : ByteArray} {own : String} {nL fr lo : Nat} (C : wk_C X V cc own nL fr lo) {β : Type} {a b : Option β} {r : β} {x y : Int32} {off : Int} {tgt : Nat} (d : decode cc pc = .ok (.if_icmp .ge off, 3)) (ht : (pc : Int) + off = (tgt : Int)) (hf : (if y ≤ x then a else b) = some r) (kt : y ≤ x → a = some r → WW X V h tgt lv st) (kf : ¬ y ≤ x → b = some r → WW X V h (pc + 3) lv st) : WW X V h pc lv (.int y :: .int x :: st) := by
  obtain ⟨p, l, e, R, s, m, args, below, meth, c, Q, nL0, cells, slots⟩ := X
  obtain ⟨hx, hb, hml, hown, hts, hK, hI, rfl, hfr, hlo, hcl, hsl⟩ := C
  intro H locs ls hP hS hl
  exact lv_icmp_ge hx hb d ht (fun z => kt z ((if_pos z).symm.trans hf) H locs ls hP hS hl) (fun z => kf z ((if_neg z).symm.trans hf) H locs ls hP hS hl)

theorem wk_if_gt {X : wk_X} {V : wd_V} {h : Hp} {pc : Nat} {lv : List (Nat × Value)} {st : List Value} {cc : ByteArray} {own : String} {nL fr lo : Nat} (C : wk_C X V cc own nL fr lo) {β : Type} {a b : Option β} {r : β} {x : Int32} {off : Int} {tgt : Nat} (d : decode cc pc = .ok (.ifCond .gt off, 3)) (ht : (pc : Int) + off = (tgt : Int)) (hf : (if 0 < x then a else b) = some r) (kt : 0 < x → a = some r → WW X V h tgt lv st) (kf : ¬ 0 < x → b = some r → WW X V h (pc + 3) lv st) : WW X V h pc lv (.int x :: st) := by
  obtain ⟨p, l, e, R, s, m, args, below, meth, c, Q, nL0, cells, slots⟩ := X
  obtain ⟨hx, hb, hml, hown, hts, hK, hI, rfl, hfr, hlo, hcl, hsl⟩ := C
  intro H locs ls hP hS hl
  exact lv_if_gt hx hb d ht (fun z => kt z ((if_pos z).symm.trans hf) H locs ls hP hS hl) (fun z => kf z ((if_neg z).symm.trans hf) H locs ls hP hS hl)

theorem wk_icmp_gt {X : wk_X} {V : wd_V} {h : Hp} {pc : Nat} {lv : List (Nat × Value)} {st : List Value} {cc : ByteArray} {own : String} {nL fr lo : Nat} (C : wk_C X V cc own nL fr lo) {β : Type} {a b : Option β} {r : β} {x y : Int32} {off : Int} {tgt : Nat} (d : decode cc pc = .ok (.if_icmp .gt off, 3)) (ht : (pc : Int) + off = (tgt : Int)) (hf : (if y < x then a else b) = some r) (kt : y < x → a = some r → WW X V h tgt lv st) (kf : ¬ y < x → b = some r → WW X V h (pc + 3) lv st) : WW X V h pc lv (.int y :: .int x :: st) := by
  obtain ⟨p, l, e, R, s, m, args, below, meth, c, Q, nL0, cells, slots⟩ := X
  obtain ⟨hx, hb, hml, hown, hts, hK, hI, rfl, hfr, hlo, hcl, hsl⟩ := C
  intro H locs ls hP hS hl
  exact lv_icmp_gt hx hb d ht (fun z => kt z ((if_pos z).symm.trans hf) H locs ls hP hS hl) (fun z => kf z ((if_neg z).symm.trans hf) H locs ls hP hS hl)

theorem wk_if_le {X : wk_X} {V : wd_V} {h : Hp} {pc : Nat} {lv : List (Nat × Value)} {st : List Value} {cc : ByteArray} {own : String} {nL fr lo : Nat} (C : wk_C X V cc own nL fr lo) {β : Type} {a b : Option β} {r : β} {x : Int32} {off : Int} {tgt : Nat} (d : decode cc pc = .ok (.ifCond .le off, 3)) (ht : (pc : Int) + off = (tgt : Int)) (hf : (if x ≤ 0 then a else b) = some r) (kt : x ≤ 0 → a = some r → WW X V h tgt lv st) (kf : ¬ x ≤ 0 → b = some r → WW X V h (pc + 3) lv st) : WW X V h pc lv (.int x :: st) := by
  obtain ⟨p, l, e, R, s, m, args, below, meth, c, Q, nL0, cells, slots⟩ := X
  obtain ⟨hx, hb, hml, hown, hts, hK, hI, rfl, hfr, hlo, hcl, hsl⟩ := C
  intro H locs ls hP hS hl
  exact lv_if_le hx hb d ht (fun z => kt z ((if_pos z).symm.trans hf) H locs ls hP hS hl) (fun z => kf z ((if_neg z).symm.trans hf) H locs ls hP hS hl)

theorem wk_icmp_le {X : wk_X} {V : wd_V} {h : Hp} {pc : Nat} {lv : List (Nat × Value)} {st : List Value} {cc : ByteArray} {own : String} {nL fr lo : Nat} (C : wk_C X V cc own nL fr lo) {β : Type} {a b : Option β} {r : β} {x y : Int32} {off : Int} {tgt : Nat} (d : decode cc pc = .ok (.if_icmp .le off, 3)) (ht : (pc : Int) + off = (tgt : Int)) (hf : (if x ≤ y then a else b) = some r) (kt : x ≤ y → a = some r → WW X V h tgt lv st) (kf : ¬ x ≤ y → b = some r → WW X V h (pc + 3) lv st) : WW X V h pc lv (.int y :: .int x :: st) := by
  obtain ⟨p, l, e, R, s, m, args, below, meth, c, Q, nL0, cells, slots⟩ := X
  obtain ⟨hx, hb, hml, hown, hts, hK, hI, rfl, hfr, hlo, hcl, hsl⟩ := C
  intro H locs ls hP hS hl
  exact lv_icmp_le hx hb d ht (fun z => kt z ((if_pos z).symm.trans hf) H locs ls hP hS hl) (fun z => kf z ((if_neg z).symm.trans hf) H locs ls hP hS hl)

theorem wk_goto {X : wk_X} {V : wd_V} {h : Hp} {pc : Nat} {lv : List (Nat × Value)} {st : List Value} {cc : ByteArray} {own : String} {nL fr lo : Nat} (C : wk_C X V cc own nL fr lo) {off : Int} {tgt : Nat} (d : decode cc pc = .ok (.goto off, 3)) (ht : (pc : Int) + off = (tgt : Int)) (k : WW X V h tgt lv st) : WW X V h pc lv st := by
  obtain ⟨p, l, e, R, s, m, args, below, meth, c, Q, nL0, cells, slots⟩ := X
  obtain ⟨hx, hb, hml, hown, hts, hK, hI, rfl, hfr, hlo, hcl, hsl⟩ := C
  intro H locs ls hP hS hl
  exact lv_goto hx hb d ht (k H locs ls hP hS hl)

theorem wk_tableIn {X : wk_X} {V : wd_V} {h : Hp} {pc : Nat} {lv : List (Nat × Value)} {st : List Value} {cc : ByteArray} {own : String} {nL fr lo : Nat} (C : wk_C X V cc own nL fr lo) {dflt lo1 hi1 : Int} {offs : Array Int} {len : Nat} {x : Int32} {z off : Int} {tgt : Nat} (d : decode cc pc = .ok (.tableswitch dflt lo1 hi1 offs, len)) (hz : x.toInt = z) (h1 : ¬ z < lo1) (h2 : ¬ hi1 < z) (ho : offs[(z - lo1).toNat]? = some off) (ht : (pc : Int) + off = (tgt : Int)) (k : WW X V h tgt lv st) : WW X V h pc lv (.int x :: st) := by
  obtain ⟨p, l, e, R, s, m, args, below, meth, c, Q, nL0, cells, slots⟩ := X
  obtain ⟨hx, hb, hml, hown, hts, hK, hI, rfl, hfr, hlo, hcl, hsl⟩ := C
  intro H locs ls hP hS hl
  subst hz
  exact lv_tableIn hx hb d h1 h2 ho ht (k H locs ls hP hS hl)

theorem wk_tableOut {X : wk_X} {V : wd_V} {h : Hp} {pc : Nat} {lv : List (Nat × Value)} {st : List Value} {cc : ByteArray} {own : String} {nL fr lo : Nat} (C : wk_C X V cc own nL fr lo) {dflt lo1 hi1 : Int} {offs : Array Int} {len : Nat} {x : Int32} {tgt : Nat} (d : decode cc pc = .ok (.tableswitch dflt lo1 hi1 offs, len)) (h1 : x.toInt < lo1 ∨ hi1 < x.toInt) (ht : (pc : Int) + dflt = (tgt : Int)) (k : WW X V h tgt lv st) : WW X V h pc lv (.int x :: st) := by
  obtain ⟨p, l, e, R, s, m, args, below, meth, c, Q, nL0, cells, slots⟩ := X
  obtain ⟨hx, hb, hml, hown, hts, hK, hI, rfl, hfr, hlo, hcl, hsl⟩ := C
  intro H locs ls hP hS hl
  exact lv_tableOut hx hb d h1 ht (k H locs ls hP hS hl)

theorem wk_out6 {x : Int32} (c0 : ¬ x = 0) (c1 : ¬ x = 1) (c2 : ¬ x = 2) (c3 : ¬ x = 3) (c4 : ¬ x = 4) (c5 : ¬ x = 5) : x.toInt < 0 ∨ 5 < x.toInt := by
  apply Classical.byContradiction
  intro hc
  have hh : x.toInt = 0 ∨ x.toInt = 1 ∨ x.toInt = 2 ∨ x.toInt = 3 ∨ x.toInt = 4 ∨ x.toInt = 5 := by omega
  rcases hh with h | h | h | h | h | h
  · exact c0 (Int32.toInt_inj.mp h)
  · exact c1 (Int32.toInt_inj.mp h)
  · exact c2 (Int32.toInt_inj.mp h)
  · exact c3 (Int32.toInt_inj.mp h)
  · exact c4 (Int32.toInt_inj.mp h)
  · exact c5 (Int32.toInt_inj.mp h)
theorem wk_out16 {x : Int32} (c0 : ¬ x = 0) (c1 : ¬ x = 1) (c2 : ¬ x = 2) (c3 : ¬ x = 3) (c4 : ¬ x = 4) (c5 : ¬ x = 5) (c6 : ¬ x = 6) (c7 : ¬ x = 7) (c8 : ¬ x = 8) (c9 : ¬ x = 9) (c10 : ¬ x = 10) (c11 : ¬ x = 11) (c12 : ¬ x = 12) (c13 : ¬ x = 13) (c14 : ¬ x = 14) (c15 : ¬ x = 15) : x.toInt < 0 ∨ 15 < x.toInt := by
  apply Classical.byContradiction
  intro hc
  have hh : x.toInt = 0 ∨ x.toInt = 1 ∨ x.toInt = 2 ∨ x.toInt = 3 ∨ x.toInt = 4 ∨ x.toInt = 5 ∨ x.toInt = 6 ∨ x.toInt = 7 ∨ x.toInt = 8 ∨ x.toInt = 9 ∨ x.toInt = 10 ∨ x.toInt = 11 ∨ x.toInt = 12 ∨ x.toInt = 13 ∨ x.toInt = 14 ∨ x.toInt = 15 := by omega
  rcases hh with h | h | h | h | h | h | h | h | h | h | h | h | h | h | h | h
  · exact c0 (Int32.toInt_inj.mp h)
  · exact c1 (Int32.toInt_inj.mp h)
  · exact c2 (Int32.toInt_inj.mp h)
  · exact c3 (Int32.toInt_inj.mp h)
  · exact c4 (Int32.toInt_inj.mp h)
  · exact c5 (Int32.toInt_inj.mp h)
  · exact c6 (Int32.toInt_inj.mp h)
  · exact c7 (Int32.toInt_inj.mp h)
  · exact c8 (Int32.toInt_inj.mp h)
  · exact c9 (Int32.toInt_inj.mp h)
  · exact c10 (Int32.toInt_inj.mp h)
  · exact c11 (Int32.toInt_inj.mp h)
  · exact c12 (Int32.toInt_inj.mp h)
  · exact c13 (Int32.toInt_inj.mp h)
  · exact c14 (Int32.toInt_inj.mp h)
  · exact c15 (Int32.toInt_inj.mp h)
theorem wk_cat1 {av : List Value} (h : av.all (fun v => v.category == 1) = true) : ∀ i v, (lv_args 0 av).lookup i = some v → v.category = 1 := by
  have key : ∀ (l : List Value) (n : Nat), l.all (fun v => v.category == 1) = true → ∀ i v, (lv_args n l).lookup i = some v → v.category = 1 := by
    intro l
    induction l with
    | nil => intro n _ i v q; cases q
    | cons a l ih =>
      intro n hl i v q
      rw [List.all_cons, Bool.and_eq_true] at hl
      rw [lv_args, List.lookup_cons] at q
      by_cases hb : (i == n) = true
      · rw [hb] at q
        cases q
        simpa using hl.1
      · rw [Bool.not_eq_true] at hb
        rw [hb] at q
        exact ih _ hl.2 i v q
  exact key av 0 h

/-- an answer that may be none: what the rest is, by both cases -/
def oq {β : Type} (o : Option Nat) (a : Option β) (b : Nat → Option β) : Option β := match o with
  | none => a
  | some j => b j
theorem wk_ifnullq {X : wk_X} {V : wd_V} {h : Hp} {pc : Nat} {lv : List (Nat × Value)} {st : List Value} {cc : ByteArray} {own : String} {nL fr lo : Nat} (C : wk_C X V cc own nL fr lo) {β : Type} {o : Option Nat} {a : Option β} {b : Nat → Option β} {r : β} {g : Nat → Nat} {off : Int} {tgt : Nat} (d : decode cc pc = .ok (.ifnull off, 3)) (ht : (pc : Int) + off = (tgt : Int)) (hf : oq o a b = some r) (kt : o = none → a = some r → WW X V h tgt lv st) (kf : ∀ j, o = some j → b j = some r → WW X V h (pc + 3) lv st) : WW X V h pc lv (va_rf (o.map g) :: st) := by
  obtain ⟨p, l, e, R, s, m, args, below, meth, c, Q, nL0, cells, slots⟩ := X
  obtain ⟨hx, hb, hml, hown, hts, hK, hI, rfl, hfr, hlo, hcl, hsl⟩ := C
  intro H locs ls hP hS hl
  cases o with
  | none => exact lv_ifnullN hx hb d ht (kt rfl hf H locs ls hP hS hl)
  | some j => exact lv_ifnull hx hb d (kf j rfl hf H locs ls hP hS hl)
theorem wk_ifnonnullq {X : wk_X} {V : wd_V} {h : Hp} {pc : Nat} {lv : List (Nat × Value)} {st : List Value} {cc : ByteArray} {own : String} {nL fr lo : Nat} (C : wk_C X V cc own nL fr lo) {β : Type} {o : Option Nat} {a : Option β} {b : Nat → Option β} {r : β} {g : Nat → Nat} {off : Int} {tgt : Nat} (d : decode cc pc = .ok (.ifnonnull off, 3)) (ht : (pc : Int) + off = (tgt : Int)) (hf : oq o a b = some r) (kt : ∀ j, o = some j → b j = some r → WW X V h tgt lv st) (kf : o = none → a = some r → WW X V h (pc + 3) lv st) : WW X V h pc lv (va_rf (o.map g) :: st) := by
  obtain ⟨p, l, e, R, s, m, args, below, meth, c, Q, nL0, cells, slots⟩ := X
  obtain ⟨hx, hb, hml, hown, hts, hK, hI, rfl, hfr, hlo, hcl, hsl⟩ := C
  intro H locs ls hP hS hl
  cases o with
  | none => exact lv_ifnonnullN hx hb d (kf rfl hf H locs ls hP hS hl)
  | some j => exact lv_ifnonnull hx hb d ht (kt j rfl hf H locs ls hP hS hl)
/-- a check that the rest hangs on; a call whose answer the rest takes -/
def chk {β : Type} (c : Prop) [Decidable c] (k : Option β) : Option β := if c then k else none
theorem chk_some {β : Type} {c : Prop} [Decidable c] {k : Option β} {r : β} (hf : chk c k = some r) : c ∧ k = some r := by
  unfold chk at hf
  split at hf
  · exact ⟨by assumption, hf⟩
  · cases hf
theorem chk_t {β : Type} {c : Prop} [Decidable c] {k : Option β} (hc : c) : chk c k = k := by simp [chk, hc]
def bd {α β : Type} (o : Option (α × Hp)) (k : α → Hp → Option β) : Option β := match o with
  | none => none
  | some q => k q.1 q.2
theorem bd_some {α β : Type} {o : Option (α × Hp)} {k : α → Hp → Option β} {r : β} (hf : bd o k = some r) : ∃ a h, o = some (a, h) ∧ k a h = some r := by
  cases o with
  | none => cases hf
  | some q => exact ⟨q.1, q.2, rfl, hf⟩
theorem bd_t {α β : Type} {o : Option (α × Hp)} {k : α → Hp → Option β} {a : α} {h : Hp} (e : o = some (a, h)) : bd o k = k a h := by subst e; rfl
abbrev inR (i : Int32) (n : Nat) : Prop := ¬ i < 0 ∧ i.toNatClampNeg < n
theorem inR_vp {i : Int32} {n : Nat} (h : inR i n) : vp_in i n := fun q => by
  rcases q with q | q
  · exact h.1 q
  · exact absurd h.2 (Nat.not_lt.mpr q)
/-- how many turns a loop may take here: more than any takes -/
def fuel : Nat := 1000000
/-- a class's words, and one field of it as another class names it -/
def wk_Fd (V : wd_V) (own : String) (index : Nat) (ref CC : String) (T : u_T) (Nf ci k : Nat) : Prop := (∀ w ∈ u_ws CC T Nf, w ∈ lw_g) ∧ (wd_cl V)[ci]? = some (CC, T, Nf) ∧ k < Nf ∧ Cond.fieldLink own index ref (T k).2.1 (T k).2.2.1 ∈ lw_g ∧ (T k).1 = ref

theorem wk_get {X : wk_X} {V : wd_V} {h : Hp} {pc : Nat} {lv : List (Nat × Value)} {st : List Value} {cc : ByteArray} {own : String} {nL fr lo : Nat} (C : wk_C X V cc own nL fr lo) {i k ci index Nf : Nat} {ref CC : String} {T : u_T} {fs : List Value} {v : Value} (g : wk_Fd V own index ref CC T Nf ci k) (hi : i < wd_N V) (he : wd_E V i (h i) = .inr (ci, fs)) (hv : fs[k]? = some v) (d : decode cc pc = .ok (.getfield index, 3)) (kk : WW X V h (pc + 3) lv (v :: st)) : WW X V h pc lv (.ref (wd_ad V i) :: st) := by
  obtain ⟨p, l, e, R, s, m, args, below, meth, c, Q, nL0, cells, slots⟩ := X
  obtain ⟨hx, hb, hml, hown, hts, hK, hI, rfl, hfr, hlo, hcl, hsl⟩ := C
  intro H locs ls hP hS hl
  obtain ⟨g1, g2, g3, g4, g5⟩ := g
  exact va_get hx hb hts g1 hown hK hP i (by rw [wd_at hi, he]) g2 k g3 (hts _ g4) (fun x q => by rw [← g5]; exact q) hv d (kk H locs ls hP hS hl)

theorem wk_put {X : wk_X} {V : wd_V} {h : Hp} {pc : Nat} {lv : List (Nat × Value)} {st : List Value} {cc : ByteArray} {own : String} {nL fr lo : Nat} (C : wk_C X V cc own nL fr lo) {i k ci index Nf : Nat} {ref CC : String} {T : u_T} {ty0 : Nat → FieldType} {fs : List Value} {v : Int32} (g : wk_Fd V own index ref CC T Nf ci k) (hty : ∀ k, k < Nf → parseFieldDescriptor (T k).2.2.1 = some (ty0 k)) (hnm : ∀ a, a < Nf → ∀ b, b < Nf → a ≠ b → (T a).2.1 ≠ (T b).2.1) (hfin : (T k).2.2.2 = false) (hd : parseFieldDescriptor (T k).2.2.1 = some .int) (hi : i < wd_N V) (he : wd_E V i (h i) = .inr (ci, fs)) (hl0 : k < fs.length) (he2 : wd_E V i (upd (h i) k v) = .inr (ci, fs.set k (.int v))) (d : decode cc pc = .ok (.putfield index, 3)) (kk : WW X V (up2 h i k v) (pc + 3) lv st) : WW X V h pc lv (.int v :: .ref (wd_ad V i) :: st) := by
  obtain ⟨p, l, e, R, s, m, args, below, meth, c, Q, nL0, cells, slots⟩ := X
  obtain ⟨hx, hb, hml, hown, hts, hK, hI, rfl, hfr, hlo, hcl, hsl⟩ := C
  intro H locs ls hP hS hl
  obtain ⟨g1, g2, g3, g4, g5⟩ := g
  refine va_put hx hb hts g1 ty0 hty hnm hown hK hP (wd_Dof hI h) hS i (by rw [wd_at hi, he]) g2 k g3 (hts _ g4) (fun x q => by rw [← g5]; exact q) hfin hd rfl rfl hl0 d (fun H1 locs1 hP1 hD1 hS1 => ?_)
  rw [← he2, wd_set hi] at hP1
  exact kk H1 locs1 ls hP1 hS1 hl

theorem wk_iald {X : wk_X} {V : wd_V} {h : Hp} {pc : Nat} {lv : List (Nat × Value)} {st : List Value} {cc : ByteArray} {own : String} {nL fr lo : Nat} (C : wk_C X V cc own nL fr lo) {j n t0 : Nat} {cA : ClassId} {i : Int32} (hi : j < wd_N V) (he : wd_E V j (h j) = .inl (cA, n, .inl (h j))) (ht : (wd_ty V)[t0]? = some (cA, .int)) (hin : inR i n) (d : decode cc pc = .ok (.iaload, 1)) (kk : WW X V h (pc + 1) lv (.int (h j i.toNatClampNeg) :: st)) : WW X V h pc lv (.int i :: .ref (wd_ad V j) :: st) := by
  obtain ⟨p, l, e, R, s, m, args, below, meth, c, Q, nL0, cells, slots⟩ := X
  obtain ⟨hx, hb, hml, hown, hts, hK, hI, rfl, hfr, hlo, hcl, hsl⟩ := C
  intro H locs ls hP hS hl
  exact va_iald hx hb hK hP j t0 (by rw [wd_at hi, he]) ht (inR_vp hin) d (kk H locs ls hP hS hl)

theorem wk_bald {X : wk_X} {V : wd_V} {h : Hp} {pc : Nat} {lv : List (Nat × Value)} {st : List Value} {cc : ByteArray} {own : String} {nL fr lo : Nat} (C : wk_C X V cc own nL fr lo) {j n t0 : Nat} {cA : ClassId} {i : Int32} (hi : j < wd_N V) (he : wd_E V j (h j) = .inl (cA, n, .inl (h j))) (ht : (wd_ty V)[t0]? = some (cA, .byte)) (hin : inR i n) (d : decode cc pc = .ok (.baload, 1)) (kk : WW X V h (pc + 1) lv (.int (h j i.toNatClampNeg) :: st)) : WW X V h pc lv (.int i :: .ref (wd_ad V j) :: st) := by
  obtain ⟨p, l, e, R, s, m, args, below, meth, c, Q, nL0, cells, slots⟩ := X
  obtain ⟨hx, hb, hml, hown, hts, hK, hI, rfl, hfr, hlo, hcl, hsl⟩ := C
  intro H locs ls hP hS hl
  exact va_bald hx hb hK hP j t0 (by rw [wd_at hi, he]) ht (inR_vp hin) d (kk H locs ls hP hS hl)

theorem wk_iast {X : wk_X} {V : wd_V} {h : Hp} {pc : Nat} {lv : List (Nat × Value)} {st : List Value} {cc : ByteArray} {own : String} {nL fr lo : Nat} (C : wk_C X V cc own nL fr lo) {j n t0 : Nat} {cA : ClassId} {i x : Int32} (hi : j < wd_N V) (he : ∀ f, wd_E V j f = .inl (cA, n, .inl f)) (ht : (wd_ty V)[t0]? = some (cA, .int)) (hin : inR i n) (d : decode cc pc = .ok (.iastore, 1)) (kk : WW X V (up2 h j i.toNatClampNeg (x)) (pc + 1) lv st) : WW X V h pc lv (.int x :: .int i :: .ref (wd_ad V j) :: st) := by
  obtain ⟨p, l, e, R, s, m, args, below, meth, c, Q, nL0, cells, slots⟩ := X
  obtain ⟨hx, hb, hml, hown, hts, hK, hI, rfl, hfr, hlo, hcl, hsl⟩ := C
  intro H locs ls hP hS hl
  refine va_iast hx hb hK hP (wd_Dof hI h) hS j t0 (by rw [wd_at hi, he]) ht (inR_vp hin) d (fun H1 locs1 hP1 hD1 hS1 => ?_)
  rw [← he, wd_set hi] at hP1
  exact kk H1 locs1 ls hP1 hS1 hl

theorem wk_bast {X : wk_X} {V : wd_V} {h : Hp} {pc : Nat} {lv : List (Nat × Value)} {st : List Value} {cc : ByteArray} {own : String} {nL fr lo : Nat} (C : wk_C X V cc own nL fr lo) {j n t0 : Nat} {cA : ClassId} {i x : Int32} (hi : j < wd_N V) (he : ∀ f, wd_E V j f = .inl (cA, n, .inl f)) (ht : (wd_ty V)[t0]? = some (cA, .byte)) (hin : inR i n) (d : decode cc pc = .ok (.bastore, 1)) (kk : WW X V (up2 h j i.toNatClampNeg (vp_nar .byte x)) (pc + 1) lv st) : WW X V h pc lv (.int x :: .int i :: .ref (wd_ad V j) :: st) := by
  obtain ⟨p, l, e, R, s, m, args, below, meth, c, Q, nL0, cells, slots⟩ := X
  obtain ⟨hx, hb, hml, hown, hts, hK, hI, rfl, hfr, hlo, hcl, hsl⟩ := C
  intro H locs ls hP hS hl
  refine va_bast hx hb hK hP (wd_Dof hI h) hS j t0 (by rw [wd_at hi, he]) ht (inR_vp hin) d (fun H1 locs1 hP1 hD1 hS1 => ?_)
  rw [← he, wd_set hi] at hP1
  exact kk H1 locs1 ls hP1 hS1 hl

theorem wk_alen {X : wk_X} {V : wd_V} {h : Hp} {pc : Nat} {lv : List (Nat × Value)} {st : List Value} {cc : ByteArray} {own : String} {nL fr lo : Nat} (C : wk_C X V cc own nL fr lo) {j n t0 : Nat} {cA : ClassId} {x : vp_A} {ty : FieldType} {v : Int32} (hi : j < wd_N V) (he : wd_E V j (h j) = .inl (cA, x)) (ht : (wd_ty V)[t0]? = some (cA, ty)) (hv : Int32.ofNat x.1 = v) (d : decode cc pc = .ok (.arraylength, 1)) (kk : WW X V h (pc + 1) lv (.int v :: st)) : WW X V h pc lv (.ref (wd_ad V j) :: st) := by
  obtain ⟨p, l, e, R, s, m, args, below, meth, c, Q, nL0, cells, slots⟩ := X
  obtain ⟨hx, hb, hml, hown, hts, hK, hI, rfl, hfr, hlo, hcl, hsl⟩ := C
  intro H locs ls hP hS hl
  exact va_alen hx hb hK hP j t0 (by rw [wd_at hi, he]) ht hv d (kk H locs ls hP hS hl)

theorem wk_aald {X : wk_X} {V : wd_V} {h : Hp} {pc : Nat} {lv : List (Nat × Value)} {st : List Value} {cc : ByteArray} {own : String} {nL fr lo : Nat} (C : wk_C X V cc own nL fr lo) {j n t0 : Nat} {cA : ClassId} {CC : String} {f : Nat → Option Nat} {i : Int32} (hi : j < wd_N V) (he : wd_E V j (h j) = .inl (cA, n, .inr (.inr (.inr (.inr f))))) (ht : (wd_ty V)[t0]? = some (cA, .object CC)) (hin : inR i n) (d : decode cc pc = .ok (.aaload, 1)) (kk : WW X V h (pc + 1) lv (va_rf (f i.toNatClampNeg) :: st)) : WW X V h pc lv (.int i :: .ref (wd_ad V j) :: st) := by
  obtain ⟨p, l, e, R, s, m, args, below, meth, c, Q, nL0, cells, slots⟩ := X
  obtain ⟨hx, hb, hml, hown, hts, hK, hI, rfl, hfr, hlo, hcl, hsl⟩ := C
  intro H locs ls hP hS hl
  exact va_aldq hx hb hK hP j t0 (by rw [wd_at hi, he]) ht (inR_vp hin) d (kk H locs ls hP hS hl)

/-- a method's contract over the world: from h it ends with rv and h' -/
def wk_Pc (V : wd_V) (av : List Value) (h : Hp) : Array Value → State → Prop := va_Pc av (fun U => wd_P V h U.heap ∧ va_K (wd_D V) (wd_cl V) (wd_ty V) U)
def wk_Qc (V : wd_V) (rv : Option Value) (h' : Hp) : Array Value → State → Outcome → State → Prop := fun _ st oc t => oc = .returned rv ∧ wd_P V h' t.heap ∧ va_F (wd_A V) st t
def wk_M (l : Launch) (V : wd_V) (y : MethodName) (cc : ByteArray) (maxL : Nat) (ret : Option FieldType) (fr lo : Nat) (av : List Value) (h : Hp) (rv : Option Value) (h' : Hp) : Prop :=
  Met l y (Cond.code y cc maxL ret :: lw_g) ({ frames := fr, cells := 0, slots := 0, locals := lo }) (wk_Pc V av h) (wk_Qc V rv h') 0 0 (wd_A V)
def wk_Q (X : wk_X) (V : wd_V) (rv : Option Value) (h' : Hp) (ret : Option FieldType) : Prop :=
  match X with
  | (p, l, e, R, s, m, args, below, meth, c, Q, nL, cells, slots) => Q = MQ below (wk_Qc V rv h') args s cells slots (wd_A V) ∧ meth.sig.returnType = ret ∧ meth.locks = false
theorem wk_ireturn {X : wk_X} {V : wd_V} {h : Hp} {pc : Nat} {lv : List (Nat × Value)} {cc : ByteArray} {own : String} {nL fr lo : Nat} (C : wk_C X V cc own nL fr lo) {v : Int32} (q : wk_Q X V (some (.int v)) h (some .int)) (d : decode cc pc = .ok (.ireturn, 1)) : WW X V h pc lv [.int v] := by
  obtain ⟨p, l, e, R, s, m, args, below, meth, c, Q, nL0, cells, slots⟩ := X
  obtain ⟨hx, hb, hml, hown, hts, hK, hI, rfl, hfr, hlo, hcl, hsl⟩ := C
  intro H locs ls hP hS hl
  obtain ⟨rfl, hr, hlocks⟩ := q
  exact W.iret hx hb hr (fun t ht hW => ⟨rfl, by rw [ht]; exact hP, hS.F ht⟩) hS.2.2 d
theorem wk_zreturn {X : wk_X} {V : wd_V} {h : Hp} {pc : Nat} {lv : List (Nat × Value)} {cc : ByteArray} {own : String} {nL fr lo : Nat} (C : wk_C X V cc own nL fr lo) {v : Int32} (q : wk_Q X V (some (.int v)) h (some .boolean)) (hn : narrow .boolean (.int v) = .int v) (d : decode cc pc = .ok (.ireturn, 1)) : WW X V h pc lv [.int v] := by
  obtain ⟨p, l, e, R, s, m, args, below, meth, c, Q, nL0, cells, slots⟩ := X
  obtain ⟨hx, hb, hml, hown, hts, hK, hI, rfl, hfr, hlo, hcl, hsl⟩ := C
  intro H locs ls hP hS hl
  obtain ⟨rfl, hr, hlocks⟩ := q
  exact W.zret hx hb hr hn (fun t ht hW => ⟨rfl, by rw [ht]; exact hP, hS.F ht⟩) hS.2.2 d
theorem wk_return {X : wk_X} {V : wd_V} {h : Hp} {pc : Nat} {lv : List (Nat × Value)} {cc : ByteArray} {own : String} {nL fr lo : Nat} (C : wk_C X V cc own nL fr lo) (q : wk_Q X V none h none) (d : decode cc pc = .ok (.return_, 1)) : WW X V h pc lv [] := by
  obtain ⟨p, l, e, R, s, m, args, below, meth, c, Q, nL0, cells, slots⟩ := X
  obtain ⟨hx, hb, hml, hown, hts, hK, hI, rfl, hfr, hlo, hcl, hsl⟩ := C
  intro H locs ls hP hS hl
  obtain ⟨rfl, hr, hlocks⟩ := q
  exact W.vret hx hb hr (fun t ht hW => ⟨rfl, by rw [ht]; exact hP, hS.F ht⟩) hS.2.2 d
theorem wk_areturn {X : wk_X} {V : wd_V} {h : Hp} {pc : Nat} {lv : List (Nat × Value)} {cc : ByteArray} {own : String} {nL fr lo : Nat} (C : wk_C X V cc own nL fr lo) {o : Option Nat} {rt : String} (q : wk_Q X V (some (va_rf o)) h (some (.object rt))) (d : decode cc pc = .ok (.areturn, 1)) : WW X V h pc lv [va_rf o] := by
  obtain ⟨p, l, e, R, s, m, args, below, meth, c, Q, nL0, cells, slots⟩ := X
  obtain ⟨hx, hb, hml, hown, hts, hK, hI, rfl, hfr, hlo, hcl, hsl⟩ := C
  intro H locs ls hP hS hl
  obtain ⟨rfl, hr, hlocks⟩ := q
  exact W.aret hx hb hr (Or.inl ⟨_, rfl⟩) (by cases o with
    | none => exact Or.inl rfl
    | some a => exact Or.inr ⟨a, rfl⟩) (fun t ht hW => ⟨rfl, by rw [ht]; exact hP, hS.F ht⟩) hS.2.2 d

/-- Met.ofW for a method of a class some of whose methods are run by entries: this one isn't -/
theorem wk_ofW {l : Launch} {y : MethodName} {ws ws' : List Cond} {rm : Room} {Pc : Array Value → State → Prop} {Qc : Array Value → State → Outcome → State → Prop} {mc ms : Nat} {free : Addr → Prop} {cc : ByteArray} {maxL : Nat} {ret : Option FieldType}
    (hy : plainFor y = true) (hw : ws = Cond.code y cc maxL ret :: ws')
    (body : ∀ p e s m args below meth c s₁, BodyLoose p l y (headSpec ws rm) cc maxL ret e s m args below meth c s₁ → c.maxLocals = maxL → Pc args s →
      W p l e (headSpec ws rm).room s m args below meth c s.heap [] 0 0 (MQ below Qc args s mc ms free) (entryFrame m args maxL)) : Met l y ws rm Pc Qc mc ms free := by
  refine MetFree.of_bodySF (code := cc) (maxLocals := maxL) (ret := ret) hy ?_ ?_
  · intro args s m h hn
    obtain ⟨meth, c, h1, h2, h3, h4, h5, h6, -, -⟩ := Cond.code_spec hn (atoms_spec (ws := ws) h _ (by rw [hw]; exact List.mem_cons_self))
    exact ⟨meth, c, h1, h2, h3, h4, h5, h6⟩
  · intro p e s m args below meth c s₁ B hml hP _
    have hh0 : s₁.heap = s.heap := by rw [B.state]; rfl
    obtain ⟨t, a1, o, b1, b2, b3⟩ := body p e s m args below meth c s₁ B hml hP s₁ hh0 (Stand.of_body B)
    exact ⟨t, o, a1, b1, b2, ⟨b3.1, b3.2⟩⟩

/-- a body's walk gives its contract -/
theorem wk_met {l : Launch} {V : wd_V} {y : MethodName} {cc : ByteArray} {maxL fr lo : Nat} {ret : Option FieldType} {own : String} {av : List Value} {h h' : Hp} {rv : Option Value} (hI : wd_inj V) (hy : plainName y.cls = true) (ho : y.cls = own) (hlen : (lg_sl av).length ≤ maxL) (hcat : ∀ i v, (lv_args 0 av).lookup i = some v → v.category = 1)
    (body : ∀ X, X.2.1 = l → wk_C X V cc own maxL fr lo → wk_Q X V rv h' ret → WW X V h 0 (lv_args 0 av) []) : wk_M l V y cc maxL ret fr lo av h rv h' := by
  refine Met.ofW (cc := cc) (maxL := maxL) (ret := ret) hy rfl ?_
  intro p e s m args below meth c s₁ B hml hv
  obtain ⟨rfl, hP, hK⟩ := hv
  have hts0 := atoms_spec (ws := Cond.code y cc maxL ret :: lw_g) B.pre
  have hown : s.vm.findClass own = some m.cls := by rw [← ho]; exact findClass_of_methodNamed B.named
  have hl := lv_entry av hlen
  rw [lg_entry_eq]
  refine body (p, l, e, (headSpec (Cond.code y cc maxL ret :: lw_g) { frames := fr, cells := 0, slots := 0, locals := lo }).room, s, m, av.toArray, below, meth, c, _, maxL, 0, 0) rfl ⟨B.exec, B.bytes, hml, hown, fun w hw => hts0 w (List.mem_cons_of_mem _ hw), hK, hI, rfl, Nat.le_refl _, Nat.le_refl _, Nat.zero_le _, Nat.zero_le _⟩ ⟨rfl, B.returns, B.notSynchronized⟩ s.heap [] _ hP va_S.rf ⟨hl.1, hl.2.1, fun i v hv => ⟨?_, hcat i v hv⟩⟩
  have : ∀ (L : List (Nat × Value)), L.lookup i = some v → (i, v) ∈ L := by
    intro L
    induction L with
    | nil => intro q; cases q
    | cons a L ih =>
      intro q
      rw [List.lookup_cons] at q
      by_cases hb : (i == a.1) = true
      · rw [hb] at q
        have e1 : i = a.1 := by simpa using hb
        cases q
        rw [e1]
        exact List.mem_cons_self
      · rw [Bool.not_eq_true] at hb
        rw [hb] at q
        exact List.mem_cons_of_mem _ (ih q)
  exact hl.2.2 (i, v) (this _ hv)

/-- a body's walk gives its contract -/
theorem wk_metF {l : Launch} {V : wd_V} {y : MethodName} {cc : ByteArray} {maxL fr lo : Nat} {ret : Option FieldType} {own : String} {av : List Value} {h h' : Hp} {rv : Option Value} (hI : wd_inj V) (hy : plainFor y = true) (ho : y.cls = own) (hlen : (lg_sl av).length ≤ maxL) (hcat : ∀ i v, (lv_args 0 av).lookup i = some v → v.category = 1)
    (body : ∀ X, X.2.1 = l → wk_C X V cc own maxL fr lo → wk_Q X V rv h' ret → WW X V h 0 (lv_args 0 av) []) : wk_M l V y cc maxL ret fr lo av h rv h' := by
  refine wk_ofW (cc := cc) (maxL := maxL) (ret := ret) hy rfl ?_
  intro p e s m args below meth c s₁ B hml hv
  obtain ⟨rfl, hP, hK⟩ := hv
  have hts0 := atoms_spec (ws := Cond.code y cc maxL ret :: lw_g) B.pre
  have hown : s.vm.findClass own = some m.cls := by rw [← ho]; exact findClass_of_methodNamed B.named
  have hl := lv_entry av hlen
  rw [lg_entry_eq]
  refine body (p, l, e, (headSpec (Cond.code y cc maxL ret :: lw_g) { frames := fr, cells := 0, slots := 0, locals := lo }).room, s, m, av.toArray, below, meth, c, _, maxL, 0, 0) rfl ⟨B.exec, B.bytes, hml, hown, fun w hw => hts0 w (List.mem_cons_of_mem _ hw), hK, hI, rfl, Nat.le_refl _, Nat.le_refl _, Nat.zero_le _, Nat.zero_le _⟩ ⟨rfl, B.returns, B.notSynchronized⟩ s.heap [] _ hP va_S.rf ⟨hl.1, hl.2.1, fun i v hv => ⟨?_, hcat i v hv⟩⟩
  have : ∀ (L : List (Nat × Value)), L.lookup i = some v → (i, v) ∈ L := by
    intro L
    induction L with
    | nil => intro q; cases q
    | cons a L ih =>
      intro q
      rw [List.lookup_cons] at q
      by_cases hb : (i == a.1) = true
      · rw [hb] at q
        have e1 : i = a.1 := by simpa using hb
        cases q
        rw [e1]
        exact List.mem_cons_self
      · rw [Bool.not_eq_true] at hb
        rw [hb] at q
        exact List.mem_cons_of_mem _ (ih q)
  exact hl.2.2 (i, v) (this _ hv)

/-- the words of a call of y by place idx of class own -/
def wk_cw (own : String) (idx : Nat) (y : MethodName) (cc : ByteArray) (maxL : Nat) (ret : Option FieldType) (n : Nat) : Prop :=
  Cond.methodLink own idx y ∈ lw_g ∧ Cond.initialized y.cls ∈ lw_g ∧ Cond.code y cc maxL ret ∈ lw_g ∧ goodWord (Cond.code y cc maxL ret) = true ∧ y.cls ≠ "java/lang/invoke/MethodHandle" ∧ y.cls ≠ "java/lang/invoke/VarHandle" ∧ (parseMethodDescriptor y.desc).map (fun d => d.parameters.length) = some n
theorem wk_blind (V : wd_V) (av : List Value) (h : Hp) : FrameBlind (wk_Pc V av h) := by
  intro a U g mk q
  obtain ⟨q0, q1, q2⟩ := q
  exact ⟨q0, q1, va_K.moved (u := U) (U := U.calling g mk a) (Vm.Alike.refl U.vm) q2⟩
def wk_allgood : Prop := ∀ w ∈ lw_g, (w.onTables && w.keeps) = true ∨ ∃ ty, w = .arrayClass ty
theorem wk_goodIn {y : MethodName} {cc : ByteArray} {maxL n idx : Nat} {own : String} {ret : Option FieldType} (w : wk_cw own idx y cc maxL ret n) (hg : wk_allgood) : GoodIn lw_g (Cond.code y cc maxL ret :: lw_g) := by
  intro q hq
  rcases List.mem_cons.mp hq with rfl | h
  · exact ⟨w.2.2.1, good_of_word w.2.2.2.1⟩
  · exact ⟨h, hg q h⟩
theorem wk_after {p : Program} {l : Launch} {e : Env} {R : Room} {s : State} {m : MethodId} {args : Array Value} {below : List Frame} {meth : Method} {c : Code} {H : Heap} {locs : List Loc} {ls : Array Slot} {pc : Nat} {stk rest : List Value} {Q : State → Prop} {V : wd_V} {rv : Option Value} {h1 : Hp} {a : Array Value} {cells slots : Nat} (run : va_Run p l e R s m args below meth c H locs cells slots 0 0 (F0 m pc ls stk) rest (wk_Qc V rv h1 a) (wd_A V)) (hS : va_S (wd_A V) s.heap H locs)
    (k : ∀ (H1 : Heap) (locs1 : List Loc), wd_P V h1 H1 → va_S (wd_A V) s.heap H1 locs1 → W p l e R s m args below meth c H1 locs1 cells slots Q (F0 m (pc + 3) ls (rv.toList ++ rest))) : W p l e R s m args below meth c H locs cells slots Q (F0 m pc ls stk) := by
  intro T hT Z
  obtain ⟨v, st₀, t, T', L, h0, Z', hL, e1, e2, ⟨hv, hb1, hz, hk⟩, st⟩ := run T hT Z
  cases hv
  rw [h0] at hz hk
  obtain ⟨t2, a1, b1⟩ := k T'.heap (locs ++ L) (by rw [e1]; exact hb1) ⟨Nat.le_trans hS.1 (by rw [e1]; exact hz), fun q h1 h2 => by rw [e1, hk q (Nat.lt_of_lt_of_le h1 hS.1) h2]; exact hS.2.1 q h1 h2, fun q hq => by
      rcases List.mem_append.mp hq with h | h
      · exact hS.2.2 q h
      · exact hL q h⟩ T' rfl Z'
  exact ⟨t2, st t2 a1, b1⟩
theorem wk_callV {X : wk_X} {V : wd_V} {h : Hp} {pc : Nat} {lv : List (Nat × Value)} {cc : ByteArray} {own : String} {nL fr lo : Nat} (C : wk_C X V cc own nL fr lo) {i ci idx n maxL fr1 lo1 : Nat} {y : MethodName} {bytes : ByteArray} {ret : Option FieldType} {r : vw_C} {fs As rest stk : List Value} {h1 : Hp} {rv : Option Value} (hg : wk_allgood) (w : wk_cw own idx y bytes maxL ret n) (w2 : Cond.instanceMethod y ∈ lw_g ∧ Cond.selects r.1 y y ∈ lw_g) (hM : wk_M X.2.1 V y bytes maxL ret fr1 lo1 (.ref (wd_ad V i) :: As) h rv h1) (hi : i < wd_N V) (he : wd_E V i (h i) = .inr (ci, fs)) (hc : (wd_cl V)[ci]? = some r) (hn : As.length = n) (hst : stk = As.reverse ++ .ref (wd_ad V i) :: rest) (hroom : (rest.map fun v => v.category).sum ≤ 8) (hR : fr1 + 1 ≤ fr ∧ 8 + (maxL + 11) + lo1 ≤ lo) (d : decode cc pc = .ok (.invokevirtual idx, 3)) (k : WW X V h1 (pc + 3) lv (rv.toList ++ rest)) : WW X V h pc lv stk := by
  obtain ⟨p, l, e, R, s, m, args, below, meth, c, Q, nL0, cells, slots⟩ := X
  obtain ⟨hx, hb, hml, hown, hts, hK, hI, rfl, hfr, hlo, hcl, hsl⟩ := C
  intro H locs ls hP hS hl
  subst hst
  have run := va_runV (g := F0 m pc ls (As.reverse ++ .ref (wd_ad V i) :: rest)) (As := As) (rest := rest) (locs := locs) (cells := cells) (slots := slots) (below := below) (meth := meth) (e := e) ⟨hx, hb, hml, hown, hts⟩ hM ⟨callB_of (R := R) n hts (wk_goodIn w hg) rfl rfl rfl (hts _ w.2.1) (hts _ w.1) w.2.2.2.2 ⟨Nat.le_trans hR.1 hfr, Nat.le_trans hR.2 hlo⟩, hts _ w2.1, hts _ w2.2⟩ ⟨wk_blind V _ h, va_recv hK hP hc (q0 := i) (by rw [wd_at hi, he]), fun U hU hW => ⟨rfl, by rw [hU]; exact hP, va_K.moved hW.alike hK⟩⟩ rfl hn hl.1 rfl (lv_room hroom) d ⟨hcl, hsl⟩
  exact wk_after run hS (fun H1 locs1 hP1 hS1 => k H1 locs1 ls hP1 hS1 hl)
theorem wk_callS {X : wk_X} {V : wd_V} {h : Hp} {pc : Nat} {lv : List (Nat × Value)} {cc : ByteArray} {own : String} {nL fr lo : Nat} (C : wk_C X V cc own nL fr lo) {idx n maxL fr1 lo1 : Nat} {y : MethodName} {bytes : ByteArray} {ret : Option FieldType} {As rest stk : List Value} {h1 : Hp} {rv : Option Value} (hg : wk_allgood) (w : wk_cw own idx y bytes maxL ret n) (w2 : Cond.static y ∈ lw_g) (hM : wk_M X.2.1 V y bytes maxL ret fr1 lo1 As h rv h1) (hn : As.length = n) (hst : stk = As.reverse ++ rest) (hroom : (rest.map fun v => v.category).sum ≤ 8) (hR : fr1 + 1 ≤ fr ∧ 8 + (maxL + 11) + lo1 ≤ lo) (d : decode cc pc = .ok (.invokestatic idx, 3)) (k : WW X V h1 (pc + 3) lv (rv.toList ++ rest)) : WW X V h pc lv stk := by
  obtain ⟨p, l, e, R, s, m, args, below, meth, c, Q, nL0, cells, slots⟩ := X
  obtain ⟨hx, hb, hml, hown, hts, hK, hI, rfl, hfr, hlo, hcl, hsl⟩ := C
  intro H locs ls hP hS hl
  subst hst
  have run := va_runS (g := F0 m pc ls (As.reverse ++ rest)) (As := As) (rest := rest) (locs := locs) (cells := cells) (slots := slots) (below := below) (meth := meth) (e := e) ⟨hx, hb, hml, hown, hts⟩ hM ⟨callB_of (R := R) n hts (wk_goodIn w hg) rfl rfl rfl (hts _ w.2.1) (hts _ w.1) w.2.2.2.2 ⟨Nat.le_trans hR.1 hfr, Nat.le_trans hR.2 hlo⟩, hts _ w2⟩ ⟨wk_blind V _ h, fun U hU hW => ⟨rfl, by rw [hU]; exact hP, va_K.moved hW.alike hK⟩⟩ rfl hn hl.1 rfl (lv_room hroom) d ⟨hcl, hsl⟩
  exact wk_after run hS (fun H1 locs1 hP1 hS1 => k H1 locs1 ls hP1 hS1 hl)
def wk_mw (own : String) (idx : Nat) (y : MethodName) (code : ByteArray) (n : Nat) : Prop := Cond.methodLink own idx y ∈ lw_g ∧ Cond.static y ∈ lw_g ∧ Cond.initialized "java/lang/Math" ∈ lw_g ∧ Cond.code y code n (some .int) ∈ lw_g
theorem wk_mmax {X : wk_X} {V : wd_V} {h : Hp} {pc : Nat} {lv : List (Nat × Value)} {st : List Value} {cc : ByteArray} {own : String} {nL fr lo : Nat} (C : wk_C X V cc own nL fr lo) {idx : Nat} {x y : Int32} (w : wk_mw own idx Lib.Math.max.name Lib.Math.max.code 2) (hR : 1 ≤ fr ∧ (st.map fun v => v.category).sum + 13 ≤ lo) (d : decode cc pc = .ok (.invokestatic idx, 3)) (k : WW X V h (pc + 3) lv (.int (if x < y then y else x) :: st)) : WW X V h pc lv (.int y :: .int x :: st) := by
  obtain ⟨p, l, e, R, s, m, args, below, meth, c, Q, nL0, cells, slots⟩ := X
  obtain ⟨hx, hb, hml, hown, hts, hK, hI, rfl, hfr, hlo, hcl, hsl⟩ := C
  intro H locs ls hP hS hl
  exact va_mmax hx hb (hml.trans hl.1.symm) hown (hts _ w.1) (hts _ w.2.1) (hts _ w.2.2.1) (hts _ w.2.2.2) (Nat.le_trans hR.1 hfr) (Nat.le_trans hR.2 hlo) hcl hsl d (k H locs ls hP hS hl)
theorem wk_mmin {X : wk_X} {V : wd_V} {h : Hp} {pc : Nat} {lv : List (Nat × Value)} {st : List Value} {cc : ByteArray} {own : String} {nL fr lo : Nat} (C : wk_C X V cc own nL fr lo) {idx : Nat} {x y : Int32} (w : wk_mw own idx Lib.Math.min.name Lib.Math.min.code 2) (hR : 1 ≤ fr ∧ (st.map fun v => v.category).sum + 13 ≤ lo) (d : decode cc pc = .ok (.invokestatic idx, 3)) (k : WW X V h (pc + 3) lv (.int (if y < x then y else x) :: st)) : WW X V h pc lv (.int y :: .int x :: st) := by
  obtain ⟨p, l, e, R, s, m, args, below, meth, c, Q, nL0, cells, slots⟩ := X
  obtain ⟨hx, hb, hml, hown, hts, hK, hI, rfl, hfr, hlo, hcl, hsl⟩ := C
  intro H locs ls hP hS hl
  exact va_mmin hx hb (hml.trans hl.1.symm) hown (hts _ w.1) (hts _ w.2.1) (hts _ w.2.2.1) (hts _ w.2.2.2) (Nat.le_trans hR.1 hfr) (Nat.le_trans hR.2 hlo) hcl hsl d (k H locs ls hP hS hl)
theorem wk_mabs {X : wk_X} {V : wd_V} {h : Hp} {pc : Nat} {lv : List (Nat × Value)} {st : List Value} {cc : ByteArray} {own : String} {nL fr lo : Nat} (C : wk_C X V cc own nL fr lo) {idx : Nat} {x : Int32} (w : wk_mw own idx Lib.Math.abs.name Lib.Math.abs.code 1) (hR : 1 ≤ fr ∧ (st.map fun v => v.category).sum + 13 ≤ lo) (d : decode cc pc = .ok (.invokestatic idx, 3)) (k : WW X V h (pc + 3) lv (.int (if 0 ≤ x then x else 0 - x) :: st)) : WW X V h pc lv (.int x :: st) := by
  obtain ⟨p, l, e, R, s, m, args, below, meth, c, Q, nL0, cells, slots⟩ := X
  obtain ⟨hx, hb, hml, hown, hts, hK, hI, rfl, hfr, hlo, hcl, hsl⟩ := C
  intro H locs ls hP hS hl
  exact va_mabs hx hb (hml.trans hl.1.symm) hown (hts _ w.1) (hts _ w.2.1) (hts _ w.2.2.1) (hts _ w.2.2.2) (Nat.le_trans hR.1 hfr) (Nat.le_trans hR.2 hlo) hcl hsl d (k H locs ls hP hS hl)
/-- a long put aside and taken up again at once -/
theorem wk_lstload {X : wk_X} {V : wd_V} {h : Hp} {pc : Nat} {lv : List (Nat × Value)} {st : List Value} {cc : ByteArray} {own : String} {nL fr lo : Nat} (C : wk_C X V cc own nL fr lo) {i : Nat} {x : Int64} (d : decode cc pc = .ok (.lstore i, 2)) (d2 : decode cc (pc + 2) = .ok (.lload i, 2)) (hn : i + 1 < nL) (h0 : lv.lookup i = none) (h1 : lv.lookup (i + 1) = none) (k : WW X V h (pc + 4) lv (.long x :: st)) : WW X V h pc lv (.long x :: st) := by
  obtain ⟨p, l, e, R, s, m, args, below, meth, c, Q, nL0, cells, slots⟩ := X
  obtain ⟨hx, hb, hml, hown, hts, hK, hI, rfl, hfr, hlo, hcl, hsl⟩ := C
  intro H locs ls hP hS hl
  obtain ⟨hs, hw, hv⟩ := hl
  obtain ⟨ls', e', h'⟩ := lv_store2 (v := .long x) (l := []) ⟨hs, hw, fun q hq => by cases hq⟩ hn rfl
  have hl' : wk_lv ls' nL0 lv := by
    refine ⟨h'.1, h'.2.1, fun j w hj => ?_⟩
    obtain ⟨a, b⟩ := hv j w hj
    have n0 : j ≠ i := fun q => by rw [q, h0] at hj; cases hj
    have n1 : j ≠ i + 1 := fun q => by rw [q, h1] at hj; cases hj
    obtain ⟨ls2, e2, g2⟩ := lv_store2 (v := .long x) (l := [(j, w)]) ⟨hs, hw, fun q hq => by
      rw [List.mem_singleton] at hq
      subst hq
      exact a⟩ hn rfl
    rw [e'] at e2
    cases e2
    refine ⟨g2.2.2 (j, w) (List.mem_cons_of_mem _ ?_), b⟩
    simp [n0, n1, b]
  intro T hT Z
  obtain ⟨t, a, b⟩ := lv_lload (pc := pc + 2) hx hb d2 (h'.2.2 (i, .long x) List.mem_cons_self) (k H locs ls' hP hS hl') T hT Z
  refine ⟨t, ?_, b⟩
  jvm_step Z.here [Z.here.top, ↓top_set Z.here.top, hx, hb, d, e']
  exact a

/-- the script: an int array that no cell of the world is -/
def wk_S (X : wk_X) (V : wd_V) (b L : Nat) (xs : Nat → Int32) : Prop :=
  match X with
  | (p, l, e, R, s, m, args, below, meth, c, Q, nL, cells, slots) => va_X b L xs s s.heap ∧ b < s.heap.size ∧ ¬ wd_A V b
theorem wk_sld {X : wk_X} {V : wd_V} {h : Hp} {pc : Nat} {lv : List (Nat × Value)} {st : List Value} {cc : ByteArray} {own : String} {nL fr lo : Nat} (C : wk_C X V cc own nL fr lo) {b L : Nat} {xs : Nat → Int32} {i : Int32} (hs : wk_S X V b L xs) (hin : inR i L) (d : decode cc pc = .ok (.iaload, 1)) (k : WW X V h (pc + 1) lv (.int (xs i.toNatClampNeg) :: st)) : WW X V h pc lv (.int i :: .ref b :: st) := by
  obtain ⟨p, l, e, R, s, m, args, below, meth, c, Q, nL0, cells, slots⟩ := X
  obtain ⟨hx, hb, hml, hown, hts, hK, hI, rfl, hfr, hlo, hcl, hsl⟩ := C
  obtain ⟨s1, s2, s3⟩ := hs
  intro H locs ls hP hS hl
  exact va_sld hx hb s1 s2 s3 hS (inR_vp hin) d (k H locs ls hP hS hl)
theorem wk_slen {X : wk_X} {V : wd_V} {h : Hp} {pc : Nat} {lv : List (Nat × Value)} {st : List Value} {cc : ByteArray} {own : String} {nL fr lo : Nat} (C : wk_C X V cc own nL fr lo) {b L : Nat} {xs : Nat → Int32} (hs : wk_S X V b L xs) (d : decode cc pc = .ok (.arraylength, 1)) (k : WW X V h (pc + 1) lv (.int (Int32.ofNat L) :: st)) : WW X V h pc lv (.ref b :: st) := by
  obtain ⟨p, l, e, R, s, m, args, below, meth, c, Q, nL0, cells, slots⟩ := X
  obtain ⟨hx, hb, hml, hown, hts, hK, hI, rfl, hfr, hlo, hcl, hsl⟩ := C
  obtain ⟨s1, s2, s3⟩ := hs
  intro H locs ls hP hS hl
  exact va_slen hx hb s1 s2 s3 hS d (k H locs ls hP hS hl)

