/-! PURE 30: what a call of work reckons -/
theorem rN_same {n : Nat} {t : Int × Nat × Int} (h : nd t.2.1 ≤ n) : rN n t = t := by
  unfold rN
  rw [rnd_same h]
theorem strp_e : ∀ (m c : Nat) (e : Int), e ≤ (strp m c e).2 ∧ (strp m c e).2 ≤ e + m
  | 0, c, e => ⟨Int.le_refl _, by show e ≤ e + ((0 : Nat) : Int); omega⟩
  | m + 1, c, e => by
    unfold strp
    split
    · have := strp_e m (c / 10) (e + 1)
      omega
    · constructor
      · exact Int.le_refl _
      · show e ≤ e + ((m + 1 : Nat) : Int)
        omega
theorem stT_ok {b n : Nat} {t : Int × Nat × Int} (H : okN b n t) : okN (b + n) n (stT t) := by
  obtain ⟨t1, t2, t3, t4, t5, t6⟩ := H
  have a := strp_nd (nd t.2.1) t.2.1 t.2.2
  have c := strp_e (nd t.2.1) t.2.1 t.2.2
  have z : t.2.1 = 0 → strip t.2.1 t.2.2 = (0, t.2.2) := fun q => by
    unfold strip
    rw [q, nd_0]
    rfl
  refine ⟨t1, ⟨fun q => ?_, fun q => ?_⟩, fun q => ?_, ?_, ?_, ?_⟩
  · show (strip t.2.1 t.2.2).1 = 0
    rw [z (t2.mp q)]
  · have q : (strip t.2.1 t.2.2).1 = 0 := q
    apply t2.mpr
    rcases Nat.eq_zero_or_pos t.2.1 with w | w
    · exact w
    · have := a.2 w
      have q : (strp (nd t.2.1) t.2.1 t.2.2).1 = 0 := q
      omega
  · have q : (strip t.2.1 t.2.2).1 = 0 := q
    show (strip t.2.1 t.2.2).2 = 0
    have w : t.2.1 = 0 := by
      rcases Nat.eq_zero_or_pos t.2.1 with w | w
      · exact w
      · have := a.2 w
        have q : (strp (nd t.2.1) t.2.1 t.2.2).1 = 0 := q
        omega
    rw [z w]
    exact t3 w
  · show -((b + n : Nat) : Int) ≤ (strp (nd t.2.1) t.2.1 t.2.2).2
    omega
  · show (strp (nd t.2.1) t.2.1 t.2.2).2 ≤ ((b + n : Nat) : Int)
    omega
  · show nd (strp (nd t.2.1) t.2.1 t.2.2).1 ≤ n
    omega
theorem exS_ok {b m : Nat} {t u : Int × Nat × Int} (H1 : okN b m t) (H2 : okN b m u) : okN b (2 * b + m + 1) (exS t u) := by
  obtain ⟨t1, t2, t3, t4, t5, t6⟩ := id H1
  obtain ⟨u1, u2, u3, u4, u5, u6⟩ := id H2
  obtain ⟨l1, l2, l3⟩ := lwE_p t u
  unfold exS
  by_cases q1 : u.2.1 = 0
  · rw [if_pos q1]
    exact okN_w H1 (Nat.le_refl _) (by omega)
  rw [if_neg q1]
  by_cases q2 : t.2.1 = 0
  · rw [if_pos q2]
    exact okN_w H2 (Nat.le_refl _) (by omega)
  rw [if_neg q2]
  have X := sX_lt (c := t.2.1) (K := 2 * b + m) l1 (by omega)
  have Y := sX_lt (c := u.2.1) (K := 2 * b + m) l2 (by omega)
  have P : 10 ^ (2 * b + m + 1) = 10 ^ (2 * b + m) * 10 := Nat.pow_succ _ _
  have bl : -(b : Int) ≤ lwE t u ∧ lwE t u ≤ b := by omega
  by_cases q3 : t.1 = u.1
  · rw [if_pos q3]
    exact nrm_ok t1 (fun z => absurd (t2.mp z) q2) bl (nd_le_of (by omega))
  rw [if_neg q3]
  split
  · exact nrm_ok u1 (fun z => absurd (u2.mp z) q1) bl (nd_le_of (by omega))
  · exact nrm_ok t1 (fun z => absurd (t2.mp z) q2) bl (nd_le_of (by omega))
theorem qu0_ok {b n n1 : Nat} {t u : Int × Nat × Int} (H1 : okN b n1 t) (H2 : okN b n1 u) (hu : 0 < u.2.1) : okN (2 * b + 2 * n1 + n + 2) (n1 + n + 2) (qu0 n t u) := by
  obtain ⟨t1, t2, t3, t4, t5, t6⟩ := H1
  obtain ⟨u1, u2, u3, u4, u5, u6⟩ := H2
  have a := qT_le (n + 1) t.2.1 u.2.1 (nd u.2.1 + n + 2) 0
  have s := sg_mul t1 u1
  have a : quS n t u ≤ nd u.2.1 + n + 2 := by
    have := a.2
    unfold quS
    omega
  unfold qu0
  refine nrm_ok s.1 (fun z => ?_) ⟨by omega, by omega⟩ ?_
  · rcases s.2 z with w | w
    · rw [t2.mp w, pfx_00, Nat.zero_div]
    · have := u2.mp w
      omega
  · have c := nd_mono (Nat.div_le_self (pfx t.2.1 (quS n t u)) u.2.1)
    have d := nd_le_of (pfx_lt t.2.1 (quS n t u))
    omega
theorem pwT_ok {n : Nat} {v : Int} {b : Int × Nat × Int} (hn : 0 < n) (hn2 : n ≤ 20) (hb : okN 1501 20 b) (hz : v < 0 → 0 < b.2.1) : okN 20000000 n (pwT n v b) := by
  have pm := pwM_b n v
  have op : okN 5000000 (pwM n v) (pwP n v b) := pwL_ok (v := v.natAbs) (by omega) (by omega) hb 10 (1, 1, 0) (by omega) (one_ok (by omega))
  unfold pwT
  split
  · exact okN_w (stT_ok (rN_ok hn op)) (by omega) (Nat.le_refl _)
  · have pp : 0 < (pwP n v b).2.1 := pwL_pos (by omega) (hz (by omega)) 10 (1, 1, 0) Nat.one_pos
    have o2 := qu0_ok (n := pwM n v) (t := (1, 1, 0)) (one_ok (b := 5000000) (n := pwM n v) (by omega)) op pp
    have o3 : okN _ _ (stT (quT (pwM n v) (1, 1, 0) (pwP n v b))) := stT_ok (rN_ok (n := pwM n v) (by omega) o2)
    exact okN_w (stT_ok (rN_ok hn o3)) (by omega) (Nat.le_refl _)
def ptP (t u : Int × Nat × Int) : Int × Nat × Int := nrm (t.1 * u.1) (ptW t u) 0
def prT (t u : Int × Nat × Int) : Int × Nat × Int := nrm ((ptP t u).1 * u.1) ((ptP t u).2.1 * u.2.1) ((ptP t u).2.2 + u.2.2)
def wkR (op : Int) (n : Nat) (t u : Int × Nat × Int) : Int × (Int × Nat × Int) :=
  if op = 0 then (0, rN n (exS t u)) else if op = 1 then (0, rN n (exS t (ngT 1 u))) else if op = 2 then (0, mulR n t u)
  else if op = 6 then (match wv u.1 u.2.1 u.2.2 with
    | none => (26, (0, 0, 0))
    | some v => (pwC v t, pwT n v t))
  else if u.2.1 = 0 then (42, (0, 0, 0))
  else if op = 3 then (0, rN n (stT (quT n t u)))
  else if n < nd (ptW t u) then (26, (0, 0, 0))
  else if op = 4 then (0, ptP t u) else (0, rN n (exS t (ngT 1 (prT t u))))
theorem ptP_ok {b1 b2 n1 n2 n : Nat} {t u : Int × Nat × Int} (H1 : okN b1 n1 t) (H2 : okN b2 n2 u) (hu : 0 < u.2.1) (h : nd (ptW t u) ≤ n) : okN 0 n (ptP t u) := by
  obtain ⟨t1, t2, -⟩ := H1
  obtain ⟨u1, u2, -⟩ := H2
  have s := sg_mul t1 u1
  refine nrm_ok s.1 (fun z => ?_) ⟨by omega, by omega⟩ h
  rcases s.2 z with w | w
  · unfold ptW
    rw [t2.mp w, pfx_00, Nat.zero_div]
  · have := u2.mp w
    omega
theorem wkR_ok {op : Int} {n : Nat} {t u : Int × Nat × Int} (hn : 0 < n) (hn2 : n ≤ 20) (H1 : okN 1501 20 t) (H2 : okN 1501 20 u) (h0 : (wkR op n t u).1 = 0) : okN 100000000 20 (wkR op n t u).2 := by
  unfold wkR at h0 ⊢
  by_cases o0 : op = 0
  · rw [if_pos o0]
    exact okN_w (rN_ok hn (exS_ok H1 H2)) (by omega) hn2
  rw [if_neg o0] at h0 ⊢
  by_cases o1 : op = 1
  · rw [if_pos o1]
    exact okN_w (rN_ok hn (exS_ok H1 (ngT_ok H2))) (by omega) hn2
  rw [if_neg o1] at h0 ⊢
  by_cases o2 : op = 2
  · rw [if_pos o2]
    exact okN_w (mulR_ok hn H1 H2) (by omega) hn2
  rw [if_neg o2] at h0 ⊢
  by_cases o6 : op = 6
  · rw [if_pos o6] at h0 ⊢
    cases hx : wv u.1 u.2.1 u.2.2 with
    | none =>
      rw [hx] at h0
      exact absurd (show (26 : Int) = 0 from h0) (by decide)
    | some v =>
      rw [hx] at h0
      have h0 : pwC v t = 0 := h0
      refine okN_w (pwT_ok (v := v) hn hn2 H1 (fun z => ?_)) (by omega) hn2
      unfold pwC at h0
      by_cases a : v < -999 ∨ 999 < v
      · rw [if_pos a] at h0
        omega
      · rw [if_neg a] at h0
        by_cases b : v < 0 ∧ t.2.1 = 0
        · rw [if_pos b] at h0
          omega
        · omega
  rw [if_neg o6] at h0 ⊢
  by_cases c0 : u.2.1 = 0
  · rw [if_pos c0] at h0
    exact absurd h0 (by decide)
  rw [if_neg c0] at h0 ⊢
  by_cases o3 : op = 3
  · rw [if_pos o3]
    have o : okN _ _ (stT (quT n t u)) := stT_ok (rN_ok hn (qu0_ok (n := n) H1 H2 (by omega)))
    exact okN_w (rN_ok hn o) (by omega) hn2
  rw [if_neg o3] at h0 ⊢
  by_cases cw : n < nd (ptW t u)
  · rw [if_pos cw] at h0
    exact absurd h0 (by decide)
  rw [if_neg cw] at h0 ⊢
  have oP := ptP_ok (n := 20) H1 H2 (by omega) (by omega)
  by_cases o4 : op = 4
  · rw [if_pos o4]
    exact okN_w oP (by omega) (Nat.le_refl _)
  rw [if_neg o4]
  have oQ : okN _ _ (prT t u) := pr_ok oP H2
  exact okN_w (rN_ok hn (exS_ok (okN_w H1 (by omega) (by omega)) (ngT_ok (okN_w oQ (show 0 + 1501 ≤ 1501 by omega) (show 20 + 20 ≤ 40 by omega))))) (by omega) hn2
-- ===== the class =====
theorem C_reckon {op : Int} {n : Nat} {t u : Int × Nat × Int} {h : Hp} (ho : 0 ≤ op ∧ op ≤ 6) (hn : 0 < n) (hn2 : n ≤ 20) (ot : okN 1501 20 t) (ou : okN 1501 20 u) (Nt : isN h 29 t.1 t.2.1 t.2.2) (Nu : isN h 31 u.1 u.2.1 u.2.2) : ∃ h', f_K_reckon (iI op) 29 31 (iI (n : Int)) 33 h = some (iI (wkR op n t u).1, h') ∧ ((wkR op n t u).1 = 0 → isN h' 33 (wkR op n t u).2.1 (wkR op n t u).2.2.1 (wkR op n t u).2.2.2) ∧ fr h h' := by
  have u1 := ou.1
  unfold isS at u1
  have u2 := ou.2.1
  have ot2 : okN 10000 20 t := okN_w ot (by omega) (Nat.le_refl _)
  have ou2 : okN 10000 20 u := okN_w ou (by omega) (Nat.le_refl _)
  have rd : ∀ (g : Hp) (w : Int × Nat × Int) (c : Int32), fr h g → isN g 33 w.1 w.2.1 w.2.2 → ∃ h', bd (f_N_roundTo 33 (iI (n : Int)) g) (fun _u161 h161 => some (c, h161)) = some (c, h') ∧ isN h' 33 (rN n w).1 (rN n w).2.1 (rN n w).2.2 ∧ fr h h' := by
    intro g w c fg N
    obtain ⟨g1, e1, N1, k1⟩ := N_roundTo N hn (by omega)
    rw [bd_t e1]
    exact ⟨g1, rfl, N1, fr_t fg (fr_kp (by omega) (by omega) (by omega) (by omega) k1)⟩
  have ra : ∀ (g : Hp) (c : Int32), fr h g → ∃ h', bd (f_N_roundTo 33 (iI (n : Int)) g) (fun _u161 h161 => some (c, h161)) = some (c, h') ∧ fr h h' := by
    intro g c fg
    obtain ⟨g1, e1, k1⟩ := N_any (h := g) hn hn2
    rw [bd_t e1]
    exact ⟨g1, rfl, fr_t fg (fr_kp (by omega) (by omega) (by omega) (by omega) k1)⟩
  have fS : ∀ g g' : Hp, kS g g' → fr g g' := fun g g' k j hj => k j (by omega) (by omega) (by omega) (by omega) (by omega)
  have r20 : ((op < 3 ∨ 5 < op) ∨ 0 < u.2.1) → ∃ h', f_K_reckon_20 (iI op) 29 31 (iI (n : Int)) 33 h = some (iI (wkR op n t u).1, h') ∧ ((wkR op n t u).1 = 0 → isN h' 33 (wkR op n t u).2.1 (wkR op n t u).2.2.1 (wkR op n t u).2.2.2) ∧ fr h h' := by
    intro hu
    unfold f_K_reckon_20 wkR
    by_cases o0 : op = 0
    · rw [if_pos (by rw [o0]; rfl), if_pos o0]
      obtain ⟨g1, w, e1, N1, -, s1, k1⟩ := C_sum (j := 31) (fl := 0) (Or.inl rfl) (by omega) ot2 (okN_w ou2 (Nat.le_refl _) (by omega)) Nt Nu
      rw [bd_t (show f_K_sum 29 31 0 33 h = _ from e1)]
      obtain ⟨g2, e2, N2, f2⟩ := rd g1 w 0 (fS _ _ k1) N1
      rw [s1 n hn hn2] at N2
      exact ⟨g2, e2, fun _ => N2, f2⟩
    rw [if_neg (by rw [i0, iI_eq ⟨by omega, by omega⟩ ⟨by omega, by omega⟩]; exact o0), if_neg o0]
    by_cases o1 : op = 1
    · rw [if_pos (by rw [o1]; rfl), if_pos o1]
      obtain ⟨g1, w, e1, N1, -, s1, k1⟩ := C_sum (j := 31) (fl := 1) (Or.inl rfl) (by omega) ot2 (okN_w ou2 (Nat.le_refl _) (by omega)) Nt Nu
      rw [bd_t (show f_K_sum 29 31 1 33 h = _ from e1)]
      obtain ⟨g2, e2, N2, f2⟩ := rd g1 w 0 (fS _ _ k1) N1
      rw [s1 n hn hn2] at N2
      exact ⟨g2, e2, fun _ => N2, f2⟩
    rw [if_neg (by rw [i1, iI_eq ⟨by omega, by omega⟩ ⟨by omega, by omega⟩]; exact o1), if_neg o1]
    have t6 := ot.2.2.2.2.2
    have u6 := ou.2.2.2.2.2
    by_cases o2 : op = 2
    · rw [if_pos (by rw [o2]; rfl), if_pos o2]
      obtain ⟨g1, e1, N1, k1⟩ := K_prod (i := 29) (j := 31) (z := 33) (t := t) (u := u) (by omega) (by omega) (by omega) (by omega) (by omega) (by omega) (by decide) (by omega) Nt Nu
      rw [bd_t e1]
      obtain ⟨g2, e2, N2, f2⟩ := rd g1 _ 0 (fun j hj => k1 j (by omega) (by omega) (by omega)) N1
      exact ⟨g2, e2, fun _ => N2, f2⟩
    rw [if_neg (by rw [show (2 : Int32) = iI 2 from rfl, iI_eq ⟨by omega, by omega⟩ ⟨by omega, by omega⟩]; exact o2), if_neg o2]
    by_cases o6 : op = 6
    · rw [if_neg (by rw [show (3 : Int32) = iI 3 from rfl, iI_eq ⟨by omega, by omega⟩ ⟨by omega, by omega⟩]; omega), if_neg (by rw [show (4 : Int32) = iI 4 from rfl, iI_eq ⟨by omega, by omega⟩ ⟨by omega, by omega⟩]; omega), if_neg (by rw [show (5 : Int32) = iI 5 from rfl, iI_eq ⟨by omega, by omega⟩ ⟨by omega, by omega⟩]; omega), if_pos o6]
      have o4 := ou.2.2.2.1
      have o5 := ou.2.2.2.2.1
      rw [bd_t (N_whole Nu ou.1 ⟨by omega, by omega⟩)]
      cases hx : wv u.1 u.2.1 u.2.2 with
      | none =>
        obtain ⟨g1, e1, -, k1⟩ := K_pow (n := n) (v := -2000000000) hn hn2 ⟨by omega, by omega⟩ ot Nt
        have c26 : pwC (-2000000000) t = 26 := if_pos (by omega)
        rw [c26] at e1
        rw [show (none : Option Int).getD (-2000000000) = -2000000000 from rfl, bd_t e1]
        obtain ⟨g2, e2, f2⟩ := ra g1 (iI 26) (fun j hj => k1 j (by omega) (by omega) (by omega) (by omega) (by omega) (by omega) (by omega) (by omega) (by omega))
        exact ⟨g2, e2, fun z => absurd (show (26 : Int) = 0 from z) (by decide), f2⟩
      | some v =>
        have vb : bI v := by
          unfold wv at hx
          have h9 := nd_lt u.2.1
          by_cases a : 9 < (nd u.2.1 : Int) + u.2.2
          · rw [if_pos a] at hx
            cases hx
          · rw [if_neg a] at hx
            by_cases b : 0 ≤ u.2.2
            · rw [if_pos b] at hx
              have hx := Option.some.inj hx
              have c : u.2.1 * 10 ^ u.2.2.toNat < 10 ^ 9 := sX_lt (c := u.2.1) (e := u.2.2) (L := 0) (K := 9) b (by omega) |> fun z => by
                unfold sX at z
                rw [Int.sub_zero] at z
                exact z
              have d : (10 : Nat) ^ 9 = 1000000000 := by decide
              rw [d] at c
              obtain ⟨V, hV⟩ : ∃ V, u.2.1 * 10 ^ u.2.2.toNat = V := ⟨_, rfl⟩
              rw [hV] at hx c
              split at hx <;> omega
            · rw [if_neg b] at hx
              by_cases z : u.2.1 % 10 ^ (-u.2.2).toNat = 0
              · rw [if_pos z] at hx
                have hx := Option.some.inj hx
                have c : u.2.1 / 10 ^ (-u.2.2).toNat < 10 ^ 9 := by
                  rw [Nat.div_lt_iff_lt_mul (p10 _), ← Nat.pow_add]
                  exact Nat.lt_of_lt_of_le h9 (Nat.pow_le_pow_right (by decide) (by omega))
                have d : (10 : Nat) ^ 9 = 1000000000 := by decide
                rw [d] at c
                obtain ⟨V, hV⟩ : ∃ V, u.2.1 / 10 ^ (-u.2.2).toNat = V := ⟨_, rfl⟩
                rw [hV] at hx c
                split at hx <;> omega
              · rw [if_neg z] at hx
                cases hx
        obtain ⟨g1, e1, N1, k1⟩ := K_pow (n := n) (v := v) hn hn2 vb ot Nt
        have f1 : fr h g1 := fun j hj => k1 j (by omega) (by omega) (by omega) (by omega) (by omega) (by omega) (by omega) (by omega) (by omega)
        rw [show (some v : Option Int).getD (-2000000000) = v from rfl, bd_t e1]
        show ∃ h', _ = some (iI (pwC v t), h') ∧ (pwC v t = 0 → isN h' 33 (pwT n v t).1 (pwT n v t).2.1 (pwT n v t).2.2) ∧ _
        by_cases z : pwC v t = 0
        · obtain ⟨g2, e2, N2, f2⟩ := rd g1 (pwT n v t) (iI (pwC v t)) f1 (N1 z)
          have ok := pwT_ok (v := v) hn hn2 ot (fun y => by
            unfold pwC at z
            by_cases a : v < -999 ∨ 999 < v
            · rw [if_pos a] at z
              omega
            · rw [if_neg a] at z
              by_cases b : v < 0 ∧ t.2.1 = 0
              · rw [if_pos b] at z
                omega
              · omega)
          rw [rN_same ok.2.2.2.2.2] at N2
          exact ⟨g2, e2, fun _ => N2, f2⟩
        · obtain ⟨g2, e2, f2⟩ := ra g1 (iI (pwC v t)) f1
          exact ⟨g2, e2, fun y => absurd y z, f2⟩
    rw [if_neg o6]
    have c0 : 0 < u.2.1 := by omega
    rw [if_neg (show ¬ u.2.1 = 0 by omega)]
    by_cases o3 : op = 3
    · rw [if_pos (by rw [o3]; rfl), if_pos o3]
      obtain ⟨g1, e1, N1, k1⟩ := K_quot (i := 29) (j := 31) (z := 33) (n := n) (t := t) (u := u) (by omega) (by omega) (by omega) (by omega) (by omega) rfl c0 hn (by omega) (by omega) Nt Nu
      rw [bd_t e1]
      obtain ⟨g2, e2, N2, f2⟩ := rd g1 _ 0 (fun j hj => k1 j (by omega) (by omega) (by omega) (by omega)) N1
      exact ⟨g2, e2, fun _ => N2, f2⟩
    rw [if_neg (by rw [show (3 : Int32) = iI 3 from rfl, iI_eq ⟨by omega, by omega⟩ ⟨by omega, by omega⟩]; exact o3), if_neg o3]
    by_cases o4 : op = 4
    · rw [if_pos (by rw [o4]; rfl), if_pos o4]
      obtain ⟨g1, e1, N1, k1⟩ := K_part (i := 29) (j := 31) (z := 33) (n := n) (t := t) (u := u) (by omega) (by omega) (by omega) (by omega) (by omega) rfl c0 hn hn2 ot2 ou2 Nt Nu
      have f1 : fr h g1 := fun j hj => k1 j (by omega) (by omega) (by omega) (by omega)
      rw [bd_t e1]
      by_cases w : nd (ptW t u) ≤ n
      · rw [if_pos w, if_neg (show ¬ n < nd (ptW t u) by omega)]
        obtain ⟨g2, e2, N2, f2⟩ := rd g1 (ptP t u) (iI 0) f1 (N1 w)
        rw [rN_same (ptP_ok ot ou c0 w).2.2.2.2.2] at N2
        exact ⟨g2, e2, fun _ => N2, f2⟩
      · rw [if_neg w, if_pos (show n < nd (ptW t u) by omega)]
        obtain ⟨g2, e2, f2⟩ := ra g1 (iI 26) f1
        exact ⟨g2, e2, fun z => absurd z (by decide), f2⟩
    rw [if_neg (by rw [show (4 : Int32) = iI 4 from rfl, iI_eq ⟨by omega, by omega⟩ ⟨by omega, by omega⟩]; exact o4), if_neg o4, if_pos (by rw [show op = 5 by omega]; rfl)]
    unfold f_K_restOf
    obtain ⟨g1, e1, N1, k1⟩ := K_part (i := 29) (j := 31) (z := 40) (n := n) (t := t) (u := u) (by omega) (by omega) (by omega) (by omega) (by omega) rfl c0 hn hn2 ot2 ou2 Nt Nu
    have f1 : fr h g1 := fun j hj => k1 j (by omega) (by omega) (by omega) (by omega)
    rw [bd_t e1]
    by_cases w : nd (ptW t u) ≤ n
    · rw [if_pos w, if_neg (show ¬ n < nd (ptW t u) by omega), if_pos (by rfl)]
      have oP := ptP_ok ot ou c0 w
      obtain ⟨g2, e2, N2, k2⟩ := K_prod (i := 40) (j := 31) (z := 42) (t := ptP t u) (u := u) (by omega) (by omega) (by omega) (by omega) (by omega) (by omega) (by decide) (by have := oP.2.2.2.2.2; omega) (N1 w) (isN_eq Nu (k1 31 (by omega) (by omega) (by omega) (by omega)) (k1 32 (by omega) (by omega) (by omega) (by omega)))
      rw [bd_t e2]
      have oQ : okN _ _ (prT t u) := pr_ok oP ou
      obtain ⟨g3, w3, e3, N3, -, s3, k3⟩ := C_sum (j := 42) (fl := 1) (u := prT t u) (Or.inr rfl) (by omega) ot2 (okN_w oQ (by omega) (by omega)) (isN_eq Nt (by rw [k2 29 (by omega) (by omega) (by omega), k1 29 (by omega) (by omega) (by omega) (by omega)]) (by rw [k2 30 (by omega) (by omega) (by omega), k1 30 (by omega) (by omega) (by omega) (by omega)])) N2
      rw [bd_t (show f_K_sum 29 42 1 33 g2 = _ from e3)]
      have f3 : fr h g3 := fr_t f1 (fr_t (fun j hj => k2 j (by omega) (by omega) (by omega)) (fS _ _ k3))
      obtain ⟨g4, e4, N4, f4⟩ := rd g3 w3 (iI 0) f3 N3
      rw [s3 n hn hn2] at N4
      exact ⟨g4, e4, fun _ => N4, f4⟩
    · rw [if_neg w, if_pos (show n < nd (ptW t u) by omega), if_neg (by decide)]
      obtain ⟨g2, e2, f2⟩ := ra g1 (iI 26) f1
      exact ⟨g2, e2, fun z => absurd z (by decide), f2⟩
  unfold f_K_reckon
  by_cases a1 : op < 3
  · rw [if_pos (by rw [show (3 : Int32) = iI 3 from rfl, iI_lt ⟨by omega, by omega⟩ ⟨by omega, by omega⟩]; exact a1)]
    exact r20 (Or.inl (Or.inl a1))
  rw [if_neg (by rw [show (3 : Int32) = iI 3 from rfl, iI_lt ⟨by omega, by omega⟩ ⟨by omega, by omega⟩]; exact a1)]
  by_cases a2 : 5 < op
  · rw [if_pos (by rw [show (5 : Int32) = iI 5 from rfl, iI_lt ⟨by omega, by omega⟩ ⟨by omega, by omega⟩]; exact a2)]
    exact r20 (Or.inl (Or.inr a2))
  rw [if_neg (by rw [show (5 : Int32) = iI 5 from rfl, iI_lt ⟨by omega, by omega⟩ ⟨by omega, by omega⟩]; exact a2), Nu.2.2]
  by_cases a3 : u.2.1 = 0
  · have ew : wkR op n t u = (42, (0, 0, 0)) := by
      unfold wkR
      rw [if_neg (by omega), if_neg (by omega), if_neg (by omega), if_neg (by omega), if_pos a3]
    rw [if_pos (by rw [u2.mpr a3]; rfl), ew]
    exact ⟨h, rfl, fun z => absurd z (by decide), fr_r _⟩
  · have s0 : u.1 ≠ 0 := fun z => a3 (u2.mp z)
    rw [if_neg (by rw [i0, iI_eq ⟨by omega, by omega⟩ ⟨by omega, by omega⟩]; exact s0)]
    exact r20 (Or.inr (by omega))
