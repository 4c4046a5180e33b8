theorem lk9 {qx qm b i : Nat} {D : va_G} {u v : ((Nat → Nat) × (Nat → ClassId))} {w : Value} (hw : ([(0, .ref b), (1, .ref (cad (gg9 D qx qm u v) 0)), (2, .ref (cad (gg9 D qx qm u v) 46)), (3, .int 0)] : List (Nat × Value)).lookup i = some w) : ([(3, .int 0), (2, .ref qm), (1, .ref qx), (0, .ref b)] : List (Nat × Value)).lookup i = some w := by
  have e0 : cad (gg9 D qx qm u v) 0 = qx := rfl
  have e1 : cad (gg9 D qx qm u v) 46 = qm := rfl
  rw [e0, e1] at hw
  rcases i with _ | _ | _ | _ | i
  · exact hw
  · exact hw
  · exact hw
  · exact hw
  · simp [List.lookup_cons] at hw
set_option maxHeartbeats 8000000 in
set_option maxRecDepth 100000 in
/-- the law's loop, behind the two constructors -/
theorem law_go {p : Program} {e : Env} {s : State} {m : MethodId} {below : List Frame} {meth : Method} {c : Code} {l : Launch} {b L : Nat} {xs : Nat → Int32} (hL : L ≤ 3072) (C0 : lw_At p s m meth c b L xs) (D : va_G) (qx qm : Nat) (u v : ((Nat → Nat) × (Nat → ClassId))) {cs ss : Nat} (hcs : cs ≤ 600000) (hss : ss ≤ 7302250) : WL (p, l, e, room_1, s, m, #[Value.ref b], below, meth, c, lw_Z below #[Value.ref b] s, 4, 600000, 7302250) cs ss D (fun q => s.heap.size ≤ q) (tyD9 u ++ tyM9 v) (wsD qx u ++ wsM qm v) 18 [(3, .int 0), (2, .ref qm), (1, .ref qx), (0, .ref b)] [] := by
  obtain ⟨hx, hb, hr, hml, hown, hts0, hX, hbl, hlocks, hgv⟩ := C0
  have hts : ∀ w ∈ lw_g, w.before #[Value.ref b] s = true := fun w hw => hts0 w (List.mem_filter.mp hw).1
  intro H locs ls hK hP hD hS hl
  obtain ⟨hPw, hKw⟩ := pw9 hK hP
  have hreg : ∃ e9 : va_E, (wsD qx u ++ wsM qm v)[pos9.getD 3 0]? = some (ad9 qx qm u v 3, e9) := ⟨_, rfl⟩
  have hpl : ∀ k, k < 56 → ∃ e9 : va_E, (wsD qx u ++ wsM qm v)[pos9.getD k 0]? = some (ad9 qx qm u v k, e9) := fun k hk => by
    by_cases h3 : k = 3
    · subst h3
      exact hreg
    · exact pl9 D qx qm u v k hk h3
  have hI : wd_inj (vC (gg9 D qx qm u v)) := by
    intro i j hi hj e9
    obtain ⟨a1, e1⟩ := hpl i hi
    obtain ⟨a2, e2⟩ := hpl j hj
    exact pos9_inj i hi j hj (hD.1 _ _ _ _ e1 e2 e9)
  have hA : ∀ q, wd_A (vC (gg9 D qx qm u v)) q → s.heap.size ≤ q := by
    rintro q ⟨i, hi, rfl⟩
    obtain ⟨a1, e1⟩ := hpl i hi
    exact hD.2 _ _ e1
  obtain ⟨h', hf⟩ := main_pure L xs hL
  have C : wk_C (p, l, e, room_1, s, m, #[Value.ref b], below, meth, c, lw_Z below #[Value.ref b] s, 4, 600000, 7302250) (vC (gg9 D qx qm u v)) code RW 4 7 180 := ⟨hx, hb, hml, hown, hts, hKw, hI, rfl, Nat.le_of_ble_eq_true rfl, Nat.le_of_ble_eq_true rfl, Nat.le_refl _, Nat.le_refl _⟩
  have hs : wk_S (p, l, e, room_1, s, m, #[Value.ref b], below, meth, c, lw_Z below #[Value.ref b] s, 4, 600000, 7302250) (vC (gg9 D qx qm u v)) b L xs := ⟨hX, hbl, fun q => absurd (hA b q) (Nat.not_le.mpr hbl)⟩
  have hq : wk_QL (p, l, e, room_1, s, m, #[Value.ref b], below, meth, c, lw_Z below #[Value.ref b] s, 4, 600000, 7302250) (vC (gg9 D qx qm u v)) b := ⟨rfl, hr, hlocks, rfl, rfl, rfl, rfl, hA⟩
  have K := b_W_law_18 hI C hs fuel hf ⟨rfl, hq⟩
  refine W.widen (k := 600000) (n := 7302250) hcs hss ?_
  refine va_forget (fun q h9 => hS.2.2 q h9) ?_
  refine K H [] ls hPw ⟨hS.1, fun q h1 h2 => hS.2.1 q h1 (Nat.not_le.mpr h1), fun _ h9 => by cases h9⟩ ⟨hl.1, hl.2.1, fun i w hw => hl.2.2 i w ?_⟩
  exact lk9 hw
set_option maxRecDepth 100000 in
theorem wd_yD_init : Cond.code yD_init cD_init 2 none ∈ lw_g := (lw_gm 66 rfl rfl)
set_option maxRecDepth 100000 in
theorem wd_yM_init : Cond.code yM_init cM_init 1 none ∈ lw_g := (lw_gm 551 rfl rfl)
set_option maxHeartbeats 8000000 in
set_option maxRecDepth 100000 in
theorem whole_start {p : Program} {e : Env} {s : State} {m : MethodId} {below : List Frame} {meth : Method} {c : Code} (l : Launch) {b L : Nat} {xs : Nat → Int32} (hL : L ≤ 3072) (C0 : lw_At p s m meth c b L xs) : W p l e room_1 s m #[Value.ref b] below meth c s.heap [] 0 0 (lw_Z below #[Value.ref b] s) (entryFrame m ([Value.ref b] : List Value).toArray 4) := by
  obtain ⟨hx, hb, hr, hml, hown, hts0, hX, hbl, hlocks, hgv⟩ := id C0
  have hts : ∀ w ∈ lw_g, w.before #[Value.ref b] s = true := fun w hw => hts0 w (List.mem_filter.mp hw).1
  obtain ⟨c0, i0, K0⟩ := u_known (C := RL) (T := TL) (N := 2) (n := 2) hts iwL (hts (.instantiable RL 2) (lw_gm 71 (by decide +kernel) rfl))
  obtain ⟨c1, i1, K1⟩ := u_known (C := RN) (T := TN) (N := 4) (n := 4) hts iwN (hts (.instantiable RN 4) (lw_gm 115 (by decide +kernel) rfl))
  obtain ⟨c2, i2, K2⟩ := u_known (C := RR) (T := TR) (N := 1) (n := 1) hts iwR (hts (.instantiable RR 1) (lw_gm 92 (by decide +kernel) rfl))
  obtain ⟨c3, i3, K3⟩ := u_known (C := RK) (T := TK) (N := 7) (n := 7) hts iwK (hts (.instantiable RK 7) (lw_gm 109 (by decide +kernel) rfl))
  obtain ⟨c4, i4, K4⟩ := u_known (C := RT) (T := TT) (N := 0) (n := 0) hts iwT (hts (.instantiable RT 0) (lw_gm 102 (by decide +kernel) rfl))
  obtain ⟨c5, i5, K5⟩ := u_known (C := RD) (T := TD) (N := 12) (n := 12) hts iwD (hts (.instantiable RD 12) (lw_gm 63 (by decide +kernel) rfl))
  obtain ⟨c6, i6, K6⟩ := u_known (C := RM) (T := TM) (N := 14) (n := 14) hts iwM (hts (.instantiable RM 14) (lw_gm 548 (by decide +kernel) rfl))
  obtain ⟨D, hKc⟩ : ∃ D : va_G, ∀ (k : Nat) (q : vw_C), classes[k]? = some q → u_Kn s q.1 q.2.1 q.2.2 (D.1 k) (D.2 k) := by
    refine ⟨(fun k => match k with | 0 => c0 | 1 => c1 | 2 => c2 | 3 => c3 | 4 => c4 | 5 => c5 | _ => c6, fun k => match k with | 0 => i0 | 1 => i1 | 2 => i2 | 3 => i3 | 4 => i4 | 5 => i5 | _ => i6), ?_⟩
    intro k q hq
    match k, hq with
    | 0, hq => cases hq; exact K0
    | 1, hq => cases hq; exact K1
    | 2, hq => cases hq; exact K2
    | 3, hq => cases hq; exact K3
    | 4, hq => cases hq; exact K4
    | 5, hq => cases hq; exact K5
    | 6, hq => cases hq; exact K6
    | k + 7, hq => simp [classes] at hq
  have C : wl_C (p, l, e, room_1, s, m, #[Value.ref b], below, meth, c, lw_Z below #[Value.ref b] s, 4, 600000, 7302250) (fun q => s.heap.size ≤ q) code RW 4 9 362 600000 7302250 := ⟨hx, hb, hml, hown, hts, rfl, Nat.le_refl _, Nat.le_refl _, Nat.le_refl _, Nat.le_refl _, fun _ h => h⟩
  have key : WL (p, l, e, room_1, s, m, #[Value.ref b], below, meth, c, lw_Z below #[Value.ref b] s, 4, 600000, 7302250) 0 0 D (fun q => s.heap.size ≤ q) [] [] 0 [(0, .ref b)] [] := by
    refine wl_new (ci := 5) (fs := [.null, .null, .null, .null, .null, .null, .null, .null, .null, .int 0, .int 0, .int 0]) C iwD tyD_ok (lw_gm 62 (by decide +kernel) rfl) (lw_gm 63 (by decide +kernel) rfl) (lw_gm 54 (by decide +kernel) rfl) rfl dfD (Nat.le_of_ble_eq_true rfl) (Nat.le_of_ble_eq_true rfl) dW_law_0 (fun qx => ?_)
    refine wl_dup C dW_law_3 rfl ?_
    refine wl_ctor (As := []) (st := [.ref qx]) C rfl (lw_gm 64 (by decide +kernel) rfl) (lw_gm 54 (by decide +kernel) rfl) (lw_gm 65 (by decide +kernel) rfl) wd_yD_init rfl rfl (by decide +kernel) (fun a U g mk z => ⟨va_Nw.same rfl rfl z.1, va_Nw.same rfl rfl z.2.1, va_Nw.same rfl rfl z.2.2.1, va_AO.moved (Vm.Alike.refl U.vm) z.2.2.2⟩) (fun U hW => ⟨va_Nw.warmM hW (va_Nw.of rfl (hts0 (.methodLinkNest RD 27 yR_init RD) (List.mem_of_getElem? (i := 93) (by decide +kernel)))), va_Nw.warmM hW (va_Nw.of rfl (hts0 (.methodLinkNest RD 34 yT_init RD) (List.mem_of_getElem? (i := 103) (by decide +kernel)))), va_Nw.warmM hW (va_Nw.of rfl (hts0 (.methodLinkNest RD 41 yK_init RD) (List.mem_of_getElem? (i := 110) (by decide +kernel)))), va_AO.moved hW.alike (va_AO.of (hts0 (.arrayOver (.object "NumberDesk$Line")) (List.mem_of_getElem? (i := 90) (by decide +kernel))))⟩) (fun sz => mi_D _ D qx sz) rfl rfl (Nat.le_of_ble_eq_true rfl) (by decide) (Nat.le_of_ble_eq_true rfl) (Nat.le_of_ble_eq_true rfl) dW_law_4 (fun u => ?_)
    refine wl_is (ws' := wsD qx u) (tys' := tyD9 u) (c9 := 46) (s9 := 3722) rfl rfl rfl rfl ?_
    refine wl_astore_n C 1 dW_law_7 rfl (by decide) ?_
    refine wl_new (ci := 6) (fs := [.null, .int 0, .null, .null, .int 0, .int 0, .int 0, .null, .null, .null, .null, .null, .null, .int 0]) C iwM tyM_ok (lw_gm 547 (by decide +kernel) rfl) (lw_gm 548 (by decide +kernel) rfl) (lw_gm 61 (by decide +kernel) rfl) rfl dfM (Nat.le_of_ble_eq_true rfl) (Nat.le_of_ble_eq_true rfl) dW_law_8 (fun qm => ?_)
    refine wl_dup C dW_law_11 rfl ?_
    refine wl_ctor (As := []) (st := [.ref qm]) C rfl (lw_gm 549 (by decide +kernel) rfl) (lw_gm 61 (by decide +kernel) rfl) (lw_gm 550 (by decide +kernel) rfl) wd_yM_init rfl rfl (by decide +kernel) (fun _ _ _ _ z => z) (fun _ _ => trivial) (fun sz => mi_M _ D qm sz) rfl rfl (Nat.le_of_ble_eq_true rfl) (by decide) (Nat.le_of_ble_eq_true rfl) (Nat.le_of_ble_eq_true rfl) dW_law_12 (fun v => ?_)
    refine wl_is (ws' := wsD qx u ++ wsM qm v) (tys' := tyD9 u ++ tyM9 v) (c9 := 56) (s9 := 20901) rfl rfl rfl rfl ?_
    refine wl_astore_n C 2 dW_law_15 rfl (by decide) ?_
    refine wl_iconst C dW_law_16 kiconst_0 ?_
    refine wl_istore_n C 3 dW_law_17 rfl (by decide) ?_
    exact law_go hL C0 D qx qm u v (Nat.le_of_ble_eq_true rfl) (Nat.le_of_ble_eq_true rfl)
  have hl := lv_entry ([.ref b]) (n := 4) (Nat.le_of_ble_eq_true rfl)
  rw [lg_entry_eq]
  refine key s.heap [] _ ⟨hKc, fun k q h => by simp at h⟩ (fun k q h => by simp at h) ⟨fun i j p q h => by simp at h, fun k q h => by simp at h⟩ va_S.rf ⟨hl.1, hl.2.1, fun i w hw => ?_⟩
  rcases i with _ | i
  · cases hw
    exact ⟨hl.2.2 (0, .ref b) List.mem_cons_self, rfl⟩
  · simp [List.lookup_cons] at hw
