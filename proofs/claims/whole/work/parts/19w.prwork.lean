/-! PURE 31: what the reference works -/
theorem prT_okE {t u : Int × Nat × Int} (et : okE t) (eu : okE u) (ht : t.2.1 = 0 → t.2.2 = 0) (hu : 0 < u.2.1) : okE (prT t u) := by
  unfold okE at *
  have hP : (ptP t u).2.1 = ptW t u ∧ (ptP t u).2.2 = 0 := by
    unfold ptP nrm
    split
    · rename_i w
      exact ⟨w.symm, rfl⟩
    · exact ⟨rfl, rfl⟩
  unfold prT nrm
  rw [hP.1, hP.2]
  by_cases q : ptW t u * u.2.1 = 0
  · rw [if_pos q]
    exact ⟨by decide, by decide⟩
  rw [if_neg q]
  show -1200 ≤ 0 + u.2.2 ∧ (nd (ptW t u * u.2.1) : Int) + (0 + u.2.2) ≤ 1201
  refine ⟨by omega, ?_⟩
  obtain ⟨l1, l2, l3⟩ := lwE_p t u
  have eW := ptW_eq (t := t) (u := u)
  have Yp := sX_pos (e := u.2.2) (L := lwE t u) hu
  have le1 : ptW t u * sX u.2.1 u.2.2 (lwE t u) ≤ sX t.2.1 t.2.2 (lwE t u) := by
    rw [eW]
    exact Nat.div_mul_le_self _ _
  have le2 : sX (ptW t u * u.2.1) u.2.2 (lwE t u) = ptW t u * sX u.2.1 u.2.2 (lwE t u) := by
    unfold sX
    rw [Nat.mul_assoc]
  have ht0 : t.2.1 ≠ 0 := fun w => by
    apply q
    have : ptW t u = 0 := by
      unfold ptW
      rw [w, pfx_00, Nat.zero_div]
    rw [this, Nat.zero_mul]
  rcases Int.lt_or_le ((nd t.2.1 : Int) + t.2.2) ((nd (ptW t u * u.2.1) : Int) + u.2.2) with w | w
  · have a := sX_lt (c := t.2.1) (K := ((nd t.2.1 : Int) + t.2.2 - lwE t u).toNat) l1 (by omega)
    have b := sX_ge (c := ptW t u * u.2.1) (K := ((nd t.2.1 : Int) + t.2.2 - lwE t u).toNat) (by omega) l2 (by omega)
    omega
  · omega
theorem M_worked {op v : Int} {n : Nat} {t u : Int × Nat × Int} {h : Hp} (ho : 0 ≤ op ∧ op ≤ 6) (hn : 0 < n) (hn2 : n ≤ 20) (ot : okN 1501 20 t) (ou : okN 1501 20 u) (et : okE t) (eu : okE u) (h4 : h 46 4 = iI (n : Int)) (hu : 3 ≤ op → op ≤ 5 → 0 < u.2.1) (hv : op = 6 → wv u.1 u.2.1 u.2.2 = some v ∧ -999 ≤ v ∧ v ≤ 999) (Mt : isM h 0 t.1 t.2.1 t.2.2) (Mu : isM h 1 u.1 u.2.1 u.2.2) : ∃ h', f_M_worked (iI op) (iI v) h = some (iI (wkR op n t u).1, h') ∧ ((wkR op n t u).1 = 0 → isM h' 2 (wkR op n t u).2.1 (wkR op n t u).2.2.1 (wkR op n t u).2.2.2) ∧ fw h h' := by
  have t6 := ot.2.2.2.2.2
  have u6 := ou.2.2.2.2.2
  have ot2 : okN 10000 100 t := okN_w ot (by omega) (by omega)
  have ou2 : okN 10000 100 u := okN_w ou (by omega) (by omega)
  have rd : ∀ (g : Hp) (w : Int × Nat × Int), fw h g → isM g 2 w.1 w.2.1 w.2.2 → ∃ h', bd (f_M_round 2 (g 46 4) g) (fun _u160 h160 => some ((0 : Int32), h160)) = some (0, h') ∧ isM h' 2 (rN n w).1 (rN n w).2.1 (rN n w).2.2 ∧ fw h h' := by
    intro g w fg M
    obtain ⟨g1, e1, M1, k1⟩ := M_round (z := 2) (n := n) (by omega) M hn (by omega)
    rw [show g 46 4 = iI (n : Int) by rw [fg.2 4 (by omega)]; exact h4, bd_t (show f_M_round 2 (iI (n : Int)) g = _ from e1)]
    exact ⟨g1, rfl, M1, fw_t fg (fw_km k1)⟩
  unfold f_M_worked wkR
  by_cases o0 : op = 0
  · rw [if_pos (by rw [o0]; rfl), if_pos o0]
    obtain ⟨g1, e1, M1, k1⟩ := M_add (x := 0) (y := 1) (z := 2) (fl := 0) (by omega) (by omega) (by omega) (by omega) (by omega) (by omega) ot2 ou2 et eu Mt Mu
    rw [bd_t (show f_M_add 0 1 0 2 h = _ from e1)]
    obtain ⟨g2, e2, M2, f2⟩ := rd g1 _ (fw_km k1) M1
    exact ⟨g2, e2, fun _ => M2, f2⟩
  rw [if_neg (by rw [i0, iI_eq ⟨by omega, by omega⟩ ⟨by omega, by omega⟩]; exact o0), if_neg o0]
  by_cases o1 : op = 1
  · rw [if_pos (by rw [o1]; rfl), if_pos o1]
    obtain ⟨g1, e1, M1, k1⟩ := M_add (x := 0) (y := 1) (z := 2) (fl := 1) (by omega) (by omega) (by omega) (by omega) (by omega) (by omega) ot2 ou2 et eu Mt Mu
    rw [bd_t (show f_M_add 0 1 1 2 h = _ from e1)]
    obtain ⟨g2, e2, M2, f2⟩ := rd g1 _ (fw_km k1) M1
    exact ⟨g2, e2, fun _ => M2, f2⟩
  rw [if_neg (by rw [i1, iI_eq ⟨by omega, by omega⟩ ⟨by omega, by omega⟩]; exact o1), if_neg o1]
  by_cases o2 : op = 2
  · rw [if_pos (by rw [o2]; rfl), if_pos o2]
    obtain ⟨g1, e1, M1, k1⟩ := M_mul (x := 0) (y := 1) (z := 2) (t := t) (u := u) (by omega) (by omega) (by omega) (by omega) (by omega) ot.1 ou.1 ot.2.1 ou.2.1 (by unfold mn; omega) Mt Mu
    rw [bd_t (show f_M_multiply 0 1 2 h = _ from e1)]
    obtain ⟨g2, e2, M2, f2⟩ := rd g1 _ (fw_km k1) M1
    exact ⟨g2, e2, fun _ => M2, f2⟩
  rw [if_neg (by rw [show (2 : Int32) = iI 2 from rfl, iI_eq ⟨by omega, by omega⟩ ⟨by omega, by omega⟩]; exact o2), if_neg o2]
  by_cases o6 : op = 6
  · obtain ⟨hx, hv1, hv2⟩ := hv o6
    rw [if_neg (by rw [show (3 : Int32) = iI 3 from rfl, iI_eq ⟨by omega, by omega⟩ ⟨by omega, by omega⟩]; omega), if_neg (by rw [show (4 : Int32) = iI 4 from rfl, iI_eq ⟨by omega, by omega⟩ ⟨by omega, by omega⟩]; omega), if_neg (by rw [show (5 : Int32) = iI 5 from rfl, iI_eq ⟨by omega, by omega⟩ ⟨by omega, by omega⟩]; omega), if_pos o6, hx]
    obtain ⟨g1, e1, M1, f1⟩ := M_raise (n := n) (v := v) hn hn2 ⟨hv1, hv2⟩ ot h4 Mt
    rw [bd_t e1]
    exact ⟨g1, rfl, M1, f1⟩
  rw [if_neg o6]
  have c0 : 0 < u.2.1 := hu (by omega) (by omega)
  rw [if_neg (show ¬ u.2.1 = 0 by omega)]
  by_cases o3 : op = 3
  · rw [if_pos (by rw [o3]; rfl), if_pos o3, h4]
    obtain ⟨g1, e1, M1, k1⟩ := M_div (x := 0) (y := 1) (z := 2) (n := n) (t := t) (u := u) (by omega) (by omega) (by omega) (by omega) (by omega) ot.1 ot.2.1 c0 (by omega) (by omega) (by omega) Mt Mu
    rw [bd_t (show f_M_divide 0 1 (iI (n : Int)) 2 h = _ from e1)]
    obtain ⟨g2, e2, M2, k2⟩ := M_round (z := 2) (n := n) (by omega) M1 hn (by omega)
    rw [show g1 46 4 = iI (n : Int) by rw [(fw_kd k1).2 4 (by omega)]; exact h4, bd_t (show f_M_round 2 (iI (n : Int)) g1 = _ from e2)]
    obtain ⟨g3, e3, M3, k3⟩ := M_noZeros (z := 2) (by omega) M2
    rw [bd_t (show f_M_noZeros 2 g2 = _ from e3)]
    obtain ⟨g4, e4, M4, f4⟩ := rd g3 (stT (quT n t u)) (fw_t (fw_kd k1) (fw_t (fw_km k2) (fw_km k3))) M3
    exact ⟨g4, e4, fun _ => M4, f4⟩
  rw [if_neg (by rw [show (3 : Int32) = iI 3 from rfl, iI_eq ⟨by omega, by omega⟩ ⟨by omega, by omega⟩]; exact o3), if_neg o3]
  obtain ⟨g1, e1, M1, k1⟩ := M_part (x := 0) (y := 1) (z := 2) (n := n) (t := t) (u := u) (by omega) (by omega) (by omega) (by omega) (by omega) hn hn2 h4 (okN_w ot (by omega) (Nat.le_refl _)) (okN_w ou (by omega) (Nat.le_refl _)) c0 Mt Mu
  have e1 : f_M_part 0 1 2 h = _ := e1
  by_cases o4 : op = 4
  · rw [if_pos (by rw [o4]; rfl), if_pos o4, bd_t e1]
    by_cases w : nd (ptW t u) ≤ n
    · rw [if_pos w, if_neg (by decide), if_neg (show ¬ n < nd (ptW t u) by omega)]
      exact ⟨g1, rfl, fun _ => M1 w, fw_kd k1⟩
    · rw [if_neg w, if_pos (by rfl), if_pos (show n < nd (ptW t u) by omega)]
      exact ⟨g1, rfl, fun z => absurd z (by decide), fw_kd k1⟩
  rw [if_neg (by rw [show (4 : Int32) = iI 4 from rfl, iI_eq ⟨by omega, by omega⟩ ⟨by omega, by omega⟩]; exact o4), if_neg o4, if_pos (by rw [show op = 5 by omega]; rfl), bd_t e1]
  by_cases w : nd (ptW t u) ≤ n
  · rw [if_pos w, if_neg (by decide), if_neg (show ¬ n < nd (ptW t u) by omega)]
    have oP := ptP_ok ot ou c0 w
    have oP6 := oP.2.2.2.2.2
    obtain ⟨g2, e2, M2, k2⟩ := M_mul (x := 1) (y := 2) (z := 3) (t := u) (u := ptP t u) (by omega) (by omega) (by omega) (by omega) (by omega) ou.1 oP.1 ou.2.1 oP.2.1 (by unfold mn; omega) (isM_kd (by omega) Mu k1) (M1 w)
    rw [bd_t (show f_M_multiply 1 2 3 g1 = _ from e2)]
    rw [Int.mul_comm u.1, Nat.mul_comm u.2.1, Int.add_comm u.2.2] at M2
    have oQ : okN _ _ (prT t u) := pr_ok oP ou
    obtain ⟨g3, e3, M3, k3⟩ := M_add (x := 0) (y := 3) (z := 2) (fl := 1) (u := prT t u) (by omega) (by omega) (by omega) (by omega) (by omega) (by omega) ot2 (okN_w oQ (by omega) (by omega)) et (prT_okE et eu ot.2.2.1 c0) (isM_km (by omega) (isM_kd (by omega) Mt k1) k2) M2
    rw [bd_t (show f_M_add 0 3 1 2 g2 = _ from e3)]
    obtain ⟨g4, e4, M4, f4⟩ := rd g3 _ (fw_t (fw_kd k1) (fw_t (fw_km k2) (fw_km k3))) M3
    exact ⟨g4, e4, fun _ => M4, f4⟩
  · rw [if_neg w, if_pos (by rfl), if_pos (show n < nd (ptW t u) by omega)]
    exact ⟨g1, rfl, fun z => absurd z (by decide), fw_kd k1⟩
/-- a whole value of at most three digits -/
theorem whole_hi {s e v : Int} {c : Nat} (hz : c = 0 → e = 0) (h : wv s c e = some v) : (mn c : Int) - 1 + e ≤ 2 ↔ -999 ≤ v ∧ v ≤ 999 := by
  have key : ∀ V : Nat, (c = 0 → V = 0) → (0 < c → 0 < V ∧ (nd V : Int) = (nd c : Int) + e) → ((mn c : Int) - 1 + e ≤ 2 ↔ V ≤ 999) := by
    intro V h0 h1
    by_cases q : c = 0
    · have := h0 q
      rw [q, mn_0, hz q]
      omega
    · obtain ⟨a, b⟩ := h1 (by omega)
      have m := mn_c (c := c) (by omega)
      have l := nd_lt V
      have g := nd_le a
      constructor
      · intro w
        have : 10 ^ nd V ≤ 10 ^ 3 := Nat.pow_le_pow_right (by decide) (by omega)
        have d : (10 : Nat) ^ 3 = 1000 := by decide
        omega
      · intro w
        have d : nd V ≤ 3 := nd_le_of (by have d : (10 : Nat) ^ 3 = 1000 := by decide
                                          omega)
        omega
  unfold wv at h
  by_cases a : 9 < (nd c : Int) + e
  · rw [if_pos a] at h
    cases h
  rw [if_neg a] at h
  by_cases b : 0 ≤ e
  · rw [if_pos b] at h
    have h := Option.some.inj h
    have k := key (c * 10 ^ e.toNat) (fun w => by rw [w, Nat.zero_mul]) (fun w => ⟨Nat.mul_pos w (p10 _), by rw [nd_mulp w]; omega⟩)
    rw [k]
    obtain ⟨V, hV⟩ : ∃ V, c * 10 ^ e.toNat = V := ⟨_, rfl⟩
    rw [hV] at h ⊢
    split at h <;> omega
  · rw [if_neg b] at h
    by_cases z : c % 10 ^ (-e).toNat = 0
    · rw [if_pos z] at h
      have h := Option.some.inj h
      have dm := Nat.div_add_mod c (10 ^ (-e).toNat)
      rw [z, Nat.add_zero, Nat.mul_comm] at dm
      have k := key (c / 10 ^ (-e).toNat) (fun w => by rw [w, Nat.zero_div]) (fun w => by
        have vp : 0 < c / 10 ^ (-e).toNat := by
          rcases Nat.eq_zero_or_pos (c / 10 ^ (-e).toNat) with y | y
          · rw [y, Nat.zero_mul] at dm
            omega
          · exact y
        refine ⟨vp, ?_⟩
        have := nd_mulp vp (-e).toNat
        rw [dm] at this
        omega)
      rw [k]
      obtain ⟨V, hV⟩ : ∃ V, c / 10 ^ (-e).toNat = V := ⟨_, rfl⟩
      rw [hV] at h ⊢
      split at h <;> omega
    · rw [if_neg z] at h
      cases h
