/-! PURE 27: the reference's part -/
theorem ptW_eq {t u : Int × Nat × Int} : ptW t u = sX t.2.1 t.2.2 (lwE t u) / sX u.2.1 u.2.2 (lwE t u) := by
  unfold ptW lwE sX pfx
  by_cases q : u.2.2 ≤ t.2.2
  · rw [if_pos q, Int.sub_self]
    show _ = _ / (u.2.1 * 10 ^ 0)
    rw [Nat.pow_zero, Nat.mul_one]
    by_cases w : t.2.2 = u.2.2
    · rw [if_pos (by omega), show nd t.2.1 - ((nd t.2.1 : Int) + t.2.2 - u.2.2).toNat = 0 by omega, show (t.2.2 - u.2.2).toNat = 0 by omega, Nat.pow_zero, Nat.div_one, Nat.mul_one]
    · rw [if_neg (by omega), show ((nd t.2.1 : Int) + t.2.2 - u.2.2).toNat - nd t.2.1 = (t.2.2 - u.2.2).toNat by omega]
  · rw [if_neg q, Int.sub_self, if_pos (by omega)]
    show _ = t.2.1 * 10 ^ 0 / _
    rw [Nat.pow_zero, Nat.mul_one, Nat.mul_comm, ← Nat.div_div_eq_div_mul]
    by_cases w : (nd t.2.1 : Int) + t.2.2 - u.2.2 ≤ 0
    · rw [Nat.div_eq_of_lt (Nat.lt_of_lt_of_le (nd_lt t.2.1) (Nat.pow_le_pow_right (by decide) (show nd t.2.1 ≤ nd t.2.1 - ((nd t.2.1 : Int) + t.2.2 - u.2.2).toNat by omega))), Nat.div_eq_of_lt (Nat.lt_of_lt_of_le (nd_lt t.2.1) (Nat.pow_le_pow_right (by decide) (show nd t.2.1 ≤ (u.2.2 - t.2.2).toNat by omega)))]
    · rw [show nd t.2.1 - ((nd t.2.1 : Int) + t.2.2 - u.2.2).toNat = (u.2.2 - t.2.2).toNat by omega]
theorem pfx_lt (c T : Nat) : pfx c T < 10 ^ T := by
  induction T with
  | zero => rw [pfx_0]; decide
  | succ T ih =>
    rw [pfx_s, Nat.pow_succ]
    have := dz_lt c (T : Int)
    omega
theorem M_cmp2 {x y X Y : Nat} {t u : Int × Nat × Int} {L : Int} {v3 : Int32} {h : Hp} (hx : x < 5) (hy : y < 5) (b1 : -100000 ≤ t.2.2 ∧ t.2.2 ≤ 100000) (b2 : -100000 ≤ u.2.2 ∧ u.2.2 ≤ 100000) (bL : -100000 ≤ L ∧ L ≤ 100000) (hX : ∀ k : Nat, dp t.2.1 t.2.2 (L + (k : Int)) = X / 10 ^ k % 10) (hY : ∀ k : Nat, dp u.2.1 u.2.2 (L + (k : Int)) = Y / 10 ^ k % 10) (M1 : isM h x t.1 t.2.1 t.2.2) (M2 : isM h y u.1 u.2.1 u.2.2) : ∀ (m n : Nat), m < 100000 → m + 1 < n → f_M_part_67 n (iI (x : Int)) (iI (y : Int)) v3 0 (iI L) (iI (L + (m : Int) - 1)) h = f_M_part_102 (iI (x : Int)) (iI (y : Int)) v3 (iI (cmpF X Y m)) h := by
  intro m
  induction m with
  | zero =>
    intro n hm hn
    obtain ⟨n, rfl⟩ : ∃ q, n = q + 1 := ⟨n - 1, by omega⟩
    rw [f_M_part_67, if_pos (by rw [iI_lt ⟨by omega, by omega⟩ ⟨by omega, by omega⟩]; omega)]
    rfl
  | succ m ih =>
    intro n hm hn
    obtain ⟨n, rfl⟩ : ∃ q, n = q + 2 := ⟨n - 2, by omega⟩
    have a := Nat.mod_lt (X / 10 ^ m) (show 10 > 0 by decide)
    have b := Nat.mod_lt (Y / 10 ^ m) (show 10 > 0 by decide)
    have em : L + ((m + 1 : Nat) : Int) - 1 = L + (m : Int) := by omega
    rw [f_M_part_67, em, if_neg (by rw [iI_lt ⟨by omega, by omega⟩ ⟨by omega, by omega⟩]; omega), if_pos rfl, bd_t (M_digit hx M1 (by omega) (by omega)), bd_t (M_digit hy M2 (by omega) (by omega)), hX m, hY m, iI_sub, im1, iI_add, show L + (m : Int) + -1 = L + (m : Int) - 1 by omega]
    by_cases q : X / 10 ^ m % 10 = Y / 10 ^ m % 10
    · have ec : cmpF X Y (m + 1) = cmpF X Y m := if_pos q
      rw [ec, q, Int.sub_self]
      exact ih (n + 1) (by omega) (by omega)
    · have ec : cmpF X Y (m + 1) = ((X / 10 ^ m % 10 : Nat) : Int) - ((Y / 10 ^ m % 10 : Nat) : Int) := if_neg q
      rw [ec, f_M_part_67]
      by_cases w : m = 0
      · rw [if_pos (by rw [iI_lt ⟨by omega, by omega⟩ ⟨by omega, by omega⟩]; omega)]
      · rw [if_neg (by rw [iI_lt ⟨by omega, by omega⟩ ⟨by omega, by omega⟩]; omega), if_neg (by rw [i0, iI_eq ⟨by omega, by omega⟩ ⟨by omega, by omega⟩]; omega)]
theorem M_part {x y z n : Nat} {t u : Int × Nat × Int} {h : Hp} (hx : x < 5) (hy : y < 5) (hz : z < 5) (hxz : x ≠ z) (hyz : y ≠ z) (hn : 0 < n) (hn2 : n ≤ 20) (h4 : h 46 4 = iI (n : Int)) (ot : okN 10000 20 t) (ou : okN 10000 20 u) (hu : 0 < u.2.1) (M1 : isM h x t.1 t.2.1 t.2.2) (M2 : isM h y u.1 u.2.1 u.2.2) : ∃ h', f_M_part (iI (x : Int)) (iI (y : Int)) (iI (z : Int)) h = some (iI (if nd (ptW t u) ≤ n then 1 else 0), h') ∧ (nd (ptW t u) ≤ n → isM h' z (nrm (t.1 * u.1) (ptW t u) 0).1 (nrm (t.1 * u.1) (ptW t u) 0).2.1 (nrm (t.1 * u.1) (ptW t u) 0).2.2) ∧ kd h h' z := by
  obtain ⟨t1, t2, t3, t4, t5, t6⟩ := id ot
  obtain ⟨u1, u2, u3, u4, u5, u6⟩ := id ou
  unfold isS at t1
  obtain ⟨l1, l2, l3⟩ := lwE_p t u
  have mu := mn_c hu
  have pu := nd_pos hu
  have mt : mn t.2.1 ≤ 20 := by unfold mn; omega
  have mt1 : nd t.2.1 ≤ mn t.2.1 ∧ 0 < mn t.2.1 := by unfold mn; omega
  obtain ⟨K, hK⟩ : ∃ K : Nat, max ((mn t.2.1 : Int) + t.2.2) ((nd u.2.1 : Int) + u.2.2) - lwE t u = (K : Int) := ⟨(max ((mn t.2.1 : Int) + t.2.2) ((nd u.2.1 : Int) + u.2.2) - lwE t u).toNat, by omega⟩
  have X1 := sX_lt (c := t.2.1) (K := K) l1 (by omega)
  have Y1 := sX_lt (c := u.2.1) (K := K) l2 (by omega)
  have Yp := sX_pos (e := u.2.2) (L := lwE t u) hu
  have eW := ptW_eq (t := t) (u := u)
  obtain ⟨X, hX⟩ : ∃ X, sX t.2.1 t.2.2 (lwE t u) = X := ⟨_, rfl⟩
  obtain ⟨Y, hY⟩ : ∃ Y, sX u.2.1 u.2.2 (lwE t u) = Y := ⟨_, rfl⟩
  have dX : ∀ k : Nat, dp t.2.1 t.2.2 (lwE t u + (k : Int)) = X / 10 ^ k % 10 := fun k => by rw [← hX]; exact sX_d l1 k
  have dY : ∀ k : Nat, dp u.2.1 u.2.2 (lwE t u + (k : Int)) = Y / 10 ^ k % 10 := fun k => by rw [← hY]; exact sX_d l2 k
  rw [hX, hY] at eW
  rw [hX] at X1
  rw [hY] at Y1 Yp
  have cb := cmpF_b X Y K
  have cl := cmpF_lt (X := X) (Y := Y) K (by rw [Nat.div_eq_of_lt X1, Nat.div_eq_of_lt Y1])
  have zero : ptW t u = 0 → ∃ h', bd (f_M_zero (iI (z : Int)) h) (fun _ h118 => some ((1 : Int32), h118)) = some (iI (if nd (ptW t u) ≤ n then 1 else 0), h') ∧ (nd (ptW t u) ≤ n → isM h' z (nrm (t.1 * u.1) (ptW t u) 0).1 (nrm (t.1 * u.1) (ptW t u) 0).2.1 (nrm (t.1 * u.1) (ptW t u) 0).2.2) ∧ kd h h' z := by
    intro W0
    obtain ⟨h1, e1, M3, k1⟩ := M_zero (h := h) hz
    rw [W0, bd_t e1, if_pos (by rw [nd_0]; omega)]
    exact ⟨h1, rfl, fun _ => M3, kd_km k1⟩
  have t102 : ∃ h', f_M_part_102 (iI (x : Int)) (iI (y : Int)) (iI (z : Int)) (iI (cmpF X Y K)) h = some (iI (if nd (ptW t u) ≤ n then 1 else 0), h') ∧ (nd (ptW t u) ≤ n → isM h' z (nrm (t.1 * u.1) (ptW t u) 0).1 (nrm (t.1 * u.1) (ptW t u) 0).2.1 (nrm (t.1 * u.1) (ptW t u) 0).2.2) ∧ kd h h' z := by
    unfold f_M_part_102
    rw [chk_t (inz hx), clz hx, M1.2.2.1]
    by_cases q : t.2.1 = 0
    · rw [if_pos (by rw [t2.mpr q]; rfl)]
      refine zero ?_
      unfold ptW
      rw [q, pfx_00, Nat.zero_div]
    have s1 : t.1 ≠ 0 := fun a => q (t2.mp a)
    have ht : 0 < t.2.1 := by omega
    have mt2 := mn_c ht
    have pt := nd_pos ht
    rw [if_neg (by rw [i0, iI_eq ⟨by omega, by omega⟩ ⟨by omega, by omega⟩]; exact s1)]
    by_cases q2 : X < Y
    · have := cl.mpr q2
      rw [if_neg (by rw [i0, iI_le ⟨by omega, by omega⟩ ⟨by omega, by omega⟩]; omega)]
      refine zero ?_
      rw [eW, Nat.div_eq_of_lt q2]
    have nc : ¬ cmpF X Y K < 0 := fun a => q2 (cl.mp a)
    have W1 : 0 < ptW t u := by
      rw [eW]
      exact Nat.div_pos (by omega) Yp
    -- the big one stands as high as the small one
    have hA : (nd u.2.1 : Int) + u.2.2 ≤ (nd t.2.1 : Int) + t.2.2 := by
      rcases Int.lt_or_le ((nd t.2.1 : Int) + t.2.2) ((nd u.2.1 : Int) + u.2.2) with w | w
      · have a := sX_lt (c := t.2.1) (K := ((nd t.2.1 : Int) + t.2.2 - lwE t u).toNat) l1 (by omega)
        have b := sX_ge (c := u.2.1) (K := ((nd t.2.1 : Int) + t.2.2 - lwE t u).toNat) hu l2 (by omega)
        rw [hX] at a
        rw [hY] at b
        omega
      · exact w
    rw [if_pos (by rw [i0, iI_le ⟨by omega, by omega⟩ ⟨by omega, by omega⟩]; omega), bd_t (M_high hx M1), bd_t (M_high hy M2), mt2, mu, h4, iI_sub, i1, iI_add, iI_add, iI_add]
    obtain ⟨w, hw⟩ : ∃ w : Nat, (nd t.2.1 : Int) - 1 + t.2.2 - ((nd u.2.1 : Int) - 1 + u.2.2) + 1 = (w : Int) := ⟨((nd t.2.1 : Int) - 1 + t.2.2 - ((nd u.2.1 : Int) - 1 + u.2.2) + 1).toNat, by omega⟩
    rw [hw]
    obtain ⟨T0, hT0⟩ : ∃ T0 : Nat, (nd t.2.1 : Int) + t.2.2 - u.2.2 = (T0 : Int) := ⟨((nd t.2.1 : Int) + t.2.2 - u.2.2).toNat, by omega⟩
    have eW2 : ptW t u = pfx t.2.1 T0 / u.2.1 := by
      unfold ptW
      rw [hT0, Int.toNat_natCast]
    by_cases q3 : w ≤ n + 1
    · rw [if_pos (by rw [iI_le ⟨by omega, by omega⟩ ⟨by omega, by omega⟩]; omega), show (w : Int) + 1 = ((w + 1 : Nat) : Int) by omega]
      obtain ⟨g1, e1, M3, k1⟩ := M_div (x := x) (y := y) (z := z) (n := w + 1) (t := t) (u := u) hx hy hz hxz hyz t1 t2 hu (by omega) (by omega) (by omega) M1 M2
      rw [bd_t e1]
      have hq := quS_nd (n := w + 1) ht hu
      obtain ⟨T, hT⟩ : ∃ T, quS (w + 1) t u = T := ⟨_, rfl⟩
      have e0 : qu0 (w + 1) t u = (t.1 * u.1, pfx t.2.1 T / u.2.1, (nd t.2.1 : Int) + t.2.2 - (T : Int) - u.2.2) := by
        unfold qu0 nrm
        rw [hT] at hq ⊢
        rw [if_neg (fun w => by rw [w, nd_0] at hq; omega)]
      rw [hT] at hq
      rw [e0] at M3
      obtain ⟨Q, hQ⟩ : ∃ Q, pfx t.2.1 T / u.2.1 = Q := ⟨_, rfl⟩
      rw [hQ] at hq M3
      have M3 : isM g1 z (t.1 * u.1) Q ((nd t.2.1 : Int) + t.2.2 - (T : Int) - u.2.2) := M3
      -- W has at most w digits
      have Wb : nd (ptW t u) ≤ w := by
        apply nd_le_of
        rw [eW2]
        have a := pfx_lt t.2.1 T0
        have b := nd_le hu
        rw [Nat.div_lt_iff_lt_mul hu]
        refine Nat.lt_of_lt_of_le a ?_
        rw [show T0 = w + (nd u.2.1 - 1) by omega, Nat.pow_add]
        exact Nat.mul_le_mul_left _ b
      have hTT : T0 < T := by
        rcases Nat.lt_or_ge T0 T with c | c
        · exact c
        · obtain ⟨k, hk⟩ : ∃ k, T0 = T + k := ⟨T0 - T, by omega⟩
          have d : Q ≤ ptW t u := by
            rw [eW2, ← hQ, hk]
            apply Nat.div_le_div_right
            have := pfx_div (c := t.2.1) (T := T) k
            rw [← this]
            exact Nat.div_le_self _ _
          have := nd_mono d
          omega
      obtain ⟨k, hk⟩ : ∃ k, T = T0 + k := ⟨T - T0, by omega⟩
      have WQ : ptW t u = Q / 10 ^ k := by
        rw [eW2, ← hQ, hk, Nat.div_div_eq_div_mul, Nat.mul_comm, ← Nat.div_div_eq_div_mul, pfx_div]
      have kQ : k < nd Q := by
        rcases Nat.lt_or_ge k (nd Q) with c | c
        · exact c
        · rw [Nat.div_eq_of_lt (Nat.lt_of_lt_of_le (nd_lt Q) (Nat.pow_le_pow_right (by decide) c))] at WQ
          omega
      have WN : nd (ptW t u) = nd Q - k := by rw [WQ, nd_divp kQ]
      have mQ := mn_c (c := Q) (by
        rcases Nat.eq_zero_or_pos Q with c | c
        · rw [c, nd_0] at hq
          omega
        · exact c)
      have mW := mn_c W1
      have Wp := nd_pos W1
      have bQ := M3.2.2.2.1
      have f4 : g1 46 4 = iI (n : Int) := by rw [k1.1 46 (by omega) (by omega) (by omega) (by omega) (by omega)]; exact h4
      have es : iI (mn Q : Int) + iI ((nd t.2.1 : Int) + t.2.2 - (T : Int) - u.2.2) = iI (nd (ptW t u) : Int) := by
        rw [iI_add]
        congr 1
        omega
      simp only [chk_t (inz hz), clz hz, M3.1, M3.2.1, f4, es]
      by_cases q4 : nd (ptW t u) ≤ n
      · rw [if_pos (leN (by omega) (by omega) q4), if_pos (by rw [i0, iI_lt ⟨by omega, by omega⟩ ⟨by omega, by omega⟩]; omega), if_pos q4]
        refine ⟨_, rfl, fun _ => ?_, kd_t k1 (kd_km (km_t (km_51 _ _ _) (km_52 _ _ _)))⟩
        have en : nrm (t.1 * u.1) (ptW t u) 0 = (t.1 * u.1, ptW t u, 0) := if_neg (by omega)
        rw [en]
        refine ⟨?_, ?_, ?_, by show mn (ptW t u) ≤ 2600; omega, fun q hq => ?_⟩
        · rw [up2_o _ _ _ _ (by omega), up2_s, mW]
        · rw [up2_s]
          rfl
        · rw [up2_o _ _ _ _ (by omega), up2_o _ _ _ _ (by omega)]
          exact M3.2.2.1
        · rw [mW] at hq ⊢
          rw [up2_o _ _ _ _ (by omega), up2_o _ _ _ _ (by omega), M3.2.2.2.2 q (by omega), mQ]
          congr 2
          unfold dg
          rw [WN, WQ, div_pp, show k + (nd Q - k - 1 - q) = nd Q - 1 - q by omega]
      · rw [if_neg (nleN (by omega) (by omega) (by omega)), if_neg q4]
        exact ⟨g1, rfl, fun a => absurd a q4, k1⟩
    · rw [if_neg (by rw [iI_le ⟨by omega, by omega⟩ ⟨by omega, by omega⟩]; omega)]
      have : n + 1 ≤ nd (ptW t u) := by
        rw [eW2]
        exact pfx_big ht hu (by omega)
      rw [if_neg (by omega)]
      exact ⟨h, rfl, fun a => by omega, kd_r _ _⟩
  have c67 := M_cmp2 (x := x) (y := y) (t := t) (u := u) (X := X) (Y := Y) (L := lwE t u) (v3 := iI (z : Int)) hx hy ⟨by omega, by omega⟩ ⟨by omega, by omega⟩ ⟨by omega, by omega⟩ dX dY M1 M2 K fuel (by omega) (by unfold fuel; omega)
  have t29 : ∃ h', f_M_part_29 (iI (x : Int)) (iI (y : Int)) (iI (z : Int)) 0 (iI (lwE t u + (K : Int) - 1)) h = some (iI (if nd (ptW t u) ≤ n then 1 else 0), h') ∧ (nd (ptW t u) ≤ n → isM h' z (nrm (t.1 * u.1) (ptW t u) 0).1 (nrm (t.1 * u.1) (ptW t u) 0).2.1 (nrm (t.1 * u.1) (ptW t u) 0).2.2) ∧ kd h h' z := by
    unfold f_M_part_29
    simp only [chk_t (inz hx), chk_t (inz hy), clz hx, clz hy, M1.2.1, M2.2.1]
    by_cases q3 : u.2.2 ≤ t.2.2
    · have el : lwE t u = u.2.2 := if_pos q3
      rw [if_pos (by rw [iI_le ⟨by omega, by omega⟩ ⟨by omega, by omega⟩]; exact q3)]
      rw [el] at c67 ⊢
      rw [c67]
      exact t102
    · have el : lwE t u = t.2.2 := if_neg q3
      rw [if_neg (by rw [iI_le ⟨by omega, by omega⟩ ⟨by omega, by omega⟩]; exact q3)]
      rw [el] at c67 ⊢
      rw [c67]
      exact t102
  unfold f_M_part
  rw [bd_t (M_high hx M1), bd_t (M_high hy M2), mu]
  by_cases q3 : (mn t.2.1 : Int) - 1 + t.2.2 ≤ (nd u.2.1 : Int) - 1 + u.2.2
  · rw [if_pos (by rw [iI_le ⟨by omega, by omega⟩ ⟨by omega, by omega⟩]; exact q3), bd_t (M_high hy M2), mu, show (nd u.2.1 : Int) - 1 + u.2.2 = lwE t u + (K : Int) - 1 by omega]
    exact t29
  · rw [if_neg (by rw [iI_le ⟨by omega, by omega⟩ ⟨by omega, by omega⟩]; exact q3), bd_t (M_high hx M1), show (mn t.2.1 : Int) - 1 + t.2.2 = lwE t u + (K : Int) - 1 by omega]
    exact t29
