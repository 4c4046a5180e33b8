/-! PURE 24: the class's quotient and part -/
theorem qT_stop {most c1 c2 : Nat} : ∀ m T, qT most c1 c2 m T < T + m → most ≤ nd (pfx c1 (qT most c1 c2 m T) / c2)
  | 0, T, h => by
    have : qT most c1 c2 0 T = T := rfl
    omega
  | m + 1, T, h => by
    unfold qT at h ⊢
    by_cases q : most ≤ nd (pfx c1 T / c2)
    · rw [if_pos q]
      exact q
    · rw [if_neg q] at h ⊢
      exact qT_stop m (T + 1) (by omega)
theorem pfx_big {c1 c2 n T : Nat} (h1 : 0 < c1) (h2 : 0 < c2) (hT : n + nd c2 + 1 ≤ T) : n + 1 ≤ nd (pfx c1 T / c2) := by
  have a := pfx_ge (T := T) h1 (by omega)
  have b : 10 ^ (n + nd c2) ≤ pfx c1 T := Nat.le_trans (Nat.pow_le_pow_right (by decide) (by omega)) a
  have c : 10 ^ n * c2 ≤ pfx c1 T := by
    rw [Nat.pow_add] at b
    exact Nat.le_trans (Nat.mul_le_mul_left _ (Nat.le_of_lt (nd_lt c2))) b
  have d : 1 * 10 ^ n ≤ pfx c1 T / c2 := by
    rw [Nat.one_mul, Nat.le_div_iff_mul_le h2]
    exact c
  have e := nd_mono d
  rw [nd_mulp (by decide), nd_1] at e
  omega
theorem pfx_step {c1 c2 T : Nat} (h2 : 0 < c2) : pfx c1 (T + 1) / c2 = 10 * (pfx c1 T / c2) + (10 * (pfx c1 T % c2) + dz c1 (T : Int)) / c2 ∧ pfx c1 (T + 1) % c2 = (10 * (pfx c1 T % c2) + dz c1 (T : Int)) % c2 := by
  have e : pfx c1 (T + 1) = c2 * (10 * (pfx c1 T / c2)) + (10 * (pfx c1 T % c2) + dz c1 (T : Int)) := by
    rw [pfx_s]
    have := Nat.div_add_mod (pfx c1 T) c2
    have e2 : c2 * (10 * (pfx c1 T / c2)) = 10 * (c2 * (pfx c1 T / c2)) := Nat.mul_left_comm _ _ _
    omega
  rw [e, Nat.mul_add_div h2, Nat.mul_add_mod]
  exact ⟨rfl, rfl⟩
theorem dz_div {c2 k : Nat} (hk : k ≤ nd c2) : dz c2 ((k : Int) - 1) = dg c2 (nd c2 + 1) k := by
  unfold dz
  by_cases q : k = 0
  · rw [if_neg (by omega), q]
    unfold dg
    rw [show nd c2 + 1 - 1 - 0 = nd c2 by omega, Nat.div_eq_of_lt (nd_lt c2)]
  · rw [if_pos (by omega)]
    unfold dg
    rw [show nd c2 - 1 - ((k : Int) - 1).toNat = nd c2 + 1 - 1 - k by omega]
theorem K_d16 {i j z c2 : Nat} {v3 v4 : Int32} (hj : j ≠ 36) (hj1 : j + 1 ≠ 36) (hj2 : j ≠ 37) (hj3 : j + 1 ≠ 37) (hw : nd c2 ≤ 60) : ∀ (m k n : Nat) (h : Hp), k + m = nd c2 + 1 → m < n → isD h j c2 → (∀ q, q < k → h 36 q = iI (dg c2 (nd c2 + 1) q : Int)) → (∀ q, q < k → h 37 q = iI (dg 0 (nd c2 + 1) q : Int)) → ∃ h', f_K_divide_16 n i j v3 v4 z (iI ((nd c2 + 1 : Nat) : Int)) (iI (k : Int)) h = bd (f_N_clear z h') (fun _ h54 => f_K_divide_60 fuel i v3 v4 z (iI ((nd c2 + 1 : Nat) : Int)) 0 h54) ∧ isB h' 36 (nd c2 + 1) c2 ∧ isB h' 37 (nd c2 + 1) 0 ∧ ∀ y, y ≠ 36 → y ≠ 37 → h' y = h y := by
  intro m
  induction m with
  | zero =>
    intro k n h hk hn D F1 F2
    obtain ⟨n, rfl⟩ : ∃ q, n = q + 1 := ⟨n - 1, by omega⟩
    rw [f_K_divide_16, if_pos (leN (by omega) (by omega) (by omega))]
    refine ⟨h, rfl, ⟨?_, fun q hq => F1 q (by omega)⟩, ⟨p10 _, fun q hq => F2 q (by omega)⟩, fun _ _ _ => rfl⟩
    exact Nat.lt_of_lt_of_le (nd_lt c2) (Nat.pow_le_pow_right (by decide) (by omega))
  | succ m ih =>
    intro k n h hk hn D F1 F2
    obtain ⟨n, rfl⟩ : ∃ q, n = q + 1 := ⟨n - 1, by omega⟩
    rw [f_K_divide_16, if_neg (nleN (by omega) (by omega) (by omega)), i1, iI_sub, bd_t (N_digit D ⟨by omega, by omega⟩), dz_div (by omega), chk_t (iI_inR (by omega) (by omega) (by omega)), chk_t (iI_inR (by omega) (by omega) (by omega)), clN (by omega), iI_add]
    have z0 : dg 0 (nd c2 + 1) k = 0 := by
      unfold dg
      rw [Nat.zero_div]
    obtain ⟨h', e', a', b', c'⟩ := ih (k + 1) n (up2 (up2 h 36 k (iI (dg c2 (nd c2 + 1) k : Int))) 37 k 0) (by omega) (by omega) (isD_eq D (by rw [up2_o _ _ _ _ (by omega), up2_o _ _ _ _ (by omega)]) (by rw [up2_ne _ _ _ (by omega), up2_ne _ _ _ (by omega)])) (fun q hq => by
      rw [up2_o _ _ _ _ (by omega)]
      by_cases w : q = k
      · rw [w, up2_s]
      · rw [up2_k _ _ _ w]
        exact F1 q (by omega)) (fun q hq => by
      by_cases w : q = k
      · rw [w, up2_s, z0]
        rfl
      · rw [up2_k _ _ _ w, up2_o _ _ _ _ (by omega)]
        exact F2 q (by omega))
    exact ⟨h', e', a', b', fun y y1 y2 => by rw [c' y y1 y2, up2_ne _ _ _ y2, up2_ne _ _ _ y1]⟩
theorem K_d60 {i z c1 c2 most : Nat} {lim : Int} (hi : i ≠ 37) (hi1 : i + 1 ≠ 37) (hiz : i ≠ z) (hiz1 : i ≠ z + 1) (hiz2 : i + 1 ≠ z) (hz : z ≠ 36) (hz1 : z + 1 ≠ 36) (hz2 : z ≠ 37) (hz3 : z + 1 ≠ 37) (hl : il (z + 1) = 100) (h2 : 0 < c2) (hw : nd c2 ≤ 60) (hm : most ≤ 60) (hlim : -1000000 ≤ lim ∧ lim ≤ 1000000) : ∀ (m T n : Nat) (h : Hp), (m : Int) = max 0 (lim - (T : Int)) → T ≤ 1000000 → m < n → isD h i c1 → isD h z (pfx c1 T / c2) → isB h 37 (nd c2 + 1) (pfx c1 T % c2) → isB h 36 (nd c2 + 1) c2 → ∃ h', f_K_divide_60 n i (iI lim) (iI (most : Int)) z (iI ((nd c2 + 1 : Nat) : Int)) (iI (T : Int)) h = some (iI (qT most c1 c2 m T : Int), h') ∧ isD h' z (pfx c1 (qT most c1 c2 m T) / c2) ∧ ∀ y, y ≠ 37 → y ≠ z → y ≠ z + 1 → h' y = h y := by
  intro m
  induction m with
  | zero =>
    intro T n h hT hT2 hn D1 D2 B1 B2
    obtain ⟨n, rfl⟩ : ∃ q, n = q + 1 := ⟨n - 1, by omega⟩
    rw [f_K_divide_60, if_pos (by rw [iI_le ⟨by omega, by omega⟩ ⟨by omega, by omega⟩]; omega)]
    exact ⟨h, rfl, D2, fun _ _ _ _ => rfl⟩
  | succ m ih =>
    intro T n h hT hT2 hn D1 D2 B1 B2
    obtain ⟨n, rfl⟩ : ∃ q, n = q + 1 := ⟨n - 1, by omega⟩
    rw [f_K_divide_60, if_neg (by rw [iI_le ⟨by omega, by omega⟩ ⟨by omega, by omega⟩]; omega), D2.1]
    have hnd := D2.2.1
    rw [hl] at hnd
    by_cases q : most ≤ nd (pfx c1 T / c2)
    · have e : qT most c1 c2 (m + 1) T = T := if_pos q
      rw [if_pos (leN (by omega) (by omega) q), e]
      exact ⟨h, rfl, D2, fun _ _ _ _ => rfl⟩
    · have e : qT most c1 c2 (m + 1) T = qT most c1 c2 m (T + 1) := if_neg q
      rw [if_neg (nleN (by omega) (by omega) (by omega)), bd_t (N_digit D1 ⟨by omega, by omega⟩), e]
      have dl := dz_lt c1 (T : Int)
      have ml := Nat.mod_lt (pfx c1 T) h2
      obtain ⟨s1, s2⟩ := pfx_step (c1 := c1) (T := T) h2
      have A1 : pfx c1 T % c2 < 10 ^ (nd c2 + 1 - 1) := Nat.lt_trans ml (nd_lt c2)
      obtain ⟨g1, e1, C1, k1⟩ := K_down (w := nd c2 + 1) (d := dz c1 (T : Int)) (by omega) (by omega) dl A1 B1
      rw [bd_t e1]
      obtain ⟨g2, e2, C2, k2⟩ := K_all_loop (w := nd c2 + 1) (by omega) h2 9 0 fuel (10 * (pfx c1 T % c2) + dz c1 (T : Int)) g1 (by omega) (by unfold fuel; omega) (by omega) C1 (isB_eq B2 (k1 36 (by omega)))
      have e2 : f_K_takeAwayAll (iI ((nd c2 + 1 : Nat) : Int)) g1 = some (iI (((10 * (pfx c1 T % c2) + dz c1 (T : Int)) / c2 : Nat) : Int), g2) := by
        unfold f_K_takeAwayAll
        rw [Nat.zero_add] at e2
        exact e2
      rw [bd_t e2]
      have ql : (10 * (pfx c1 T % c2) + dz c1 (T : Int)) / c2 < 10 := by
        rw [Nat.div_lt_iff_lt_mul h2]
        omega
      have Dz : isD g2 z (pfx c1 T / c2) := isD_eq D2 (by rw [k2 z hz2, k1 z hz2]) (by rw [k2 _ hz3, k1 _ hz3])
      have nb : nd (10 * (pfx c1 T / c2) + (10 * (pfx c1 T % c2) + dz c1 (T : Int)) / c2) ≤ il (z + 1) := by
        rw [hl]
        have : 10 * (pfx c1 T / c2) + (10 * (pfx c1 T % c2) + dz c1 (T : Int)) / c2 < 10 ^ (nd (pfx c1 T / c2) + 1) := by
          have := nd_lt (pfx c1 T / c2)
          rw [Nat.pow_succ]
          omega
        have := nd_le_of this
        omega
      obtain ⟨g3, e3, D3, k3⟩ := N_push Dz ql nb
      rw [bd_t e3, scN]
      rw [← s1] at D3
      rw [← s2] at C2
      obtain ⟨g4, e4, D4, k4⟩ := ih (T + 1) n g3 (by omega) (by omega) (by omega) (isD_eq D1 (by rw [k3.1 i hiz hiz1, k2 i hi, k1 i hi]) (by rw [k3.1 (i + 1) hiz2 (by omega), k2 _ hi1, k1 _ hi1])) D3 (isB_eq C2 (k3.1 37 (fun w => hz2 w.symm) (fun w => hz3 w.symm))) (isB_eq B2 (by rw [k3.1 36 (fun w => hz w.symm) (fun w => hz1 w.symm), k2 36 (by omega), k1 36 (by omega)]))
      exact ⟨g4, e4, D4, fun y y1 y2 y3 => by rw [k4 y y1 y2 y3, k3.1 y y2 y3, k2 y y1, k1 y y1]⟩
theorem K_div {i j z c1 c2 most : Nat} {lim : Int} {h : Hp} (hi : i ≠ 36 ∧ i ≠ 37 ∧ i + 1 ≠ 36 ∧ i + 1 ≠ 37) (hj : j ≠ 36 ∧ j ≠ 37 ∧ j + 1 ≠ 36 ∧ j + 1 ≠ 37) (hz : z ≠ 36 ∧ z ≠ 37 ∧ z + 1 ≠ 36 ∧ z + 1 ≠ 37) (hiz : i ≠ z ∧ i ≠ z + 1 ∧ i + 1 ≠ z) (hl : il (z + 1) = 100) (h2 : 0 < c2) (hw : nd c2 ≤ 60) (hm : most ≤ 60) (hlim : -1000000 ≤ lim ∧ lim ≤ 900000) (D1 : isD h i c1) (D2 : isD h j c2) : ∃ h', f_K_divide i j (iI lim) (iI (most : Int)) z h = some (iI (qT most c1 c2 lim.toNat 0 : Int), h') ∧ isD h' z (pfx c1 (qT most c1 c2 lim.toNat 0) / c2) ∧ ∀ y, y ≠ 36 → y ≠ 37 → y ≠ z → y ≠ z + 1 → h' y = h y := by
  unfold f_K_divide
  rw [D2.1, scN, if_neg (by rw [show (100 : Int32) = iI 100 from rfl, iI_lt ⟨by omega, by omega⟩ ⟨by omega, by omega⟩]; omega)]
  obtain ⟨g1, e1, B1, B2, k1⟩ := K_d16 (i := i) (j := j) (z := z) (c2 := c2) (v3 := iI lim) (v4 := iI (most : Int)) hj.1 hj.2.2.1 hj.2.1 hj.2.2.2 hw (nd c2 + 1) 0 fuel h (by omega) (by unfold fuel; omega) D2 (fun q hq => absurd hq (Nat.not_lt_zero q)) (fun q hq => absurd hq (Nat.not_lt_zero q))
  have e1 : f_K_divide_16 fuel i j (iI lim) (iI (most : Int)) z (iI ((nd c2 + 1 : Nat) : Int)) 0 h = _ := e1
  rw [e1]
  obtain ⟨g2, e2, N2, k2⟩ := N_clear g1 z
  rw [bd_t e2]
  have p0 : pfx c1 0 / c2 = 0 := by rw [pfx_0, Nat.zero_div]
  have p1 : pfx c1 0 % c2 = 0 := by rw [pfx_0, Nat.zero_mod]
  obtain ⟨g3, e3, D3, k3⟩ := K_d60 (i := i) (z := z) (c1 := c1) (c2 := c2) (most := most) (lim := lim) hi.2.1 hi.2.2.2 hiz.1 hiz.2.1 hiz.2.2 hz.1 hz.2.2.1 hz.2.1 hz.2.2.2 hl h2 hw hm ⟨by omega, by omega⟩ lim.toNat 0 fuel g2 (by omega) (by omega) (by unfold fuel; omega) (isD_eq D1 (by rw [k2 i hiz.1 hiz.2.1, k1 i hi.1 hi.2.1]) (by rw [k2 (i + 1) hiz.2.2 (by omega), k1 _ hi.2.2.1 hi.2.2.2])) (by rw [p0]; exact N2.1) (by rw [p1]; exact isB_eq B2 (k2 37 (fun w => hz.2.1 w.symm) (fun w => hz.2.2.2 w.symm))) (isB_eq B1 (k2 36 (fun w => hz.1 w.symm) (fun w => hz.2.2.1 w.symm)))
  exact ⟨g3, e3, D3, fun y y1 y2 y3 y4 => by rw [k3 y y2 y3 y4, k2 y y3 y4, k1 y y1 y2]⟩
/-- a quotient, rounded -/
def quS (n : Nat) (t u : Int × Nat × Int) : Nat := qT (n + 1) t.2.1 u.2.1 (nd u.2.1 + n + 2) 0
def quT (n : Nat) (t u : Int × Nat × Int) : Int × Nat × Int := rN n (nrm (t.1 * u.1) (pfx t.2.1 (quS n t u) / u.2.1) ((nd t.2.1 : Int) + t.2.2 - (quS n t u : Int) - u.2.2))
def stT (t : Int × Nat × Int) : Int × Nat × Int := (t.1, (strip t.2.1 t.2.2).1, (strip t.2.1 t.2.2).2)
theorem K_quot {i j z n : Nat} {t u : Int × Nat × Int} {h : Hp} (hi : i ≠ 36 ∧ i ≠ 37 ∧ i + 1 ≠ 36 ∧ i + 1 ≠ 37) (hj : j ≠ 36 ∧ j ≠ 37 ∧ j + 1 ≠ 36 ∧ j + 1 ≠ 37) (hz : z ≠ 36 ∧ z ≠ 37 ∧ z + 1 ≠ 36 ∧ z + 1 ≠ 37) (hiz : i ≠ z ∧ i ≠ z + 1 ∧ i + 1 ≠ z) (hjz : j ≠ z ∧ j ≠ z + 1 ∧ j + 1 ≠ z) (hl : il (z + 1) = 100) (h2 : 0 < u.2.1) (hn : 0 < n) (hn2 : n ≤ 40) (hw : nd u.2.1 ≤ 40) (N1 : isN h i t.1 t.2.1 t.2.2) (N2 : isN h j u.1 u.2.1 u.2.2) : ∃ h', f_K_quotient i j (iI (n : Int)) z h = some ((), h') ∧ isN h' z (stT (quT n t u)).1 (stT (quT n t u)).2.1 (stT (quT n t u)).2.2 ∧ ∀ y, y ≠ 36 → y ≠ 37 → y ≠ z → y ≠ z + 1 → h' y = h y := by
  unfold f_K_quotient
  obtain ⟨g1, e1, D1, k1⟩ := K_div (i := i) (j := j) (z := z) (most := n + 1) (lim := ((nd u.2.1 + n + 2 : Nat) : Int)) hi hj hz hiz hl h2 (by omega) (by omega) ⟨by omega, by omega⟩ N1.1 N2.1
  rw [Int.toNat_natCast] at e1 D1
  have e0 : ((h j 1) + iI (n : Int)) + 2 = iI ((nd u.2.1 + n + 2 : Nat) : Int) := by
    rw [N2.1.1, iI_add, show (2 : Int32) = iI 2 from rfl, iI_add]
    congr 1
  have N1' : isN g1 i t.1 t.2.1 t.2.2 := isN_eq N1 (k1 i hi.1 hi.2.1 hiz.1 hiz.2.1) (k1 (i + 1) hi.2.2.1 hi.2.2.2 hiz.2.2 (by omega))
  have N2' : isN g1 j u.1 u.2.1 u.2.2 := isN_eq N2 (k1 j hj.1 hj.2.1 hjz.1 hjz.2.1) (k1 (j + 1) hj.2.2.1 hj.2.2.2 hjz.2.2 (by omega))
  rw [e0, scN, bd_t e1, bd_t (N_ahead N1'), N1'.2.2, N2'.2.2, N2'.2.1, iI_mul, iI_sub, iI_sub]
  obtain ⟨g2, e2, N3, k2⟩ := N_settle (s := t.1 * u.1) (e := (nd t.2.1 : Int) + t.2.2 - (quS n t u : Int) - u.2.2) D1
  rw [bd_t (show f_N_settle z (iI (t.1 * u.1)) (iI ((nd t.2.1 : Int) + t.2.2 - (qT (n + 1) t.2.1 u.2.1 (nd u.2.1 + n + 2) 0 : Int) - u.2.2)) g1 = _ from e2)]
  obtain ⟨g3, e3, N4, k3⟩ := N_roundTo (isN_nrm N3) hn (by omega)
  rw [bd_t e3]
  obtain ⟨g4, e4, N5, k4⟩ := N_drop N4
  rw [bd_t e4]
  exact ⟨g4, rfl, N5, fun y y1 y2 y3 y4 => by rw [k4 y y3 y4, k3 y y3 y4, k2 y y3 y4, k1 y y1 y2 y3 y4]⟩
/-- the whole part of a quotient -/
def ptW (t u : Int × Nat × Int) : Nat := pfx t.2.1 ((nd t.2.1 : Int) + t.2.2 - u.2.2).toNat / u.2.1
theorem pfx_00 (T : Nat) : pfx 0 T = 0 := by
  unfold pfx
  split
  · rw [Nat.zero_div]
  · rw [Nat.zero_mul]
theorem K_part {i j z n : Nat} {t u : Int × Nat × Int} {h : Hp} (hi : i ≠ 36 ∧ i ≠ 37 ∧ i + 1 ≠ 36 ∧ i + 1 ≠ 37) (hj : j ≠ 36 ∧ j ≠ 37 ∧ j + 1 ≠ 36 ∧ j + 1 ≠ 37) (hz : z ≠ 36 ∧ z ≠ 37 ∧ z + 1 ≠ 36 ∧ z + 1 ≠ 37) (hiz : i ≠ z ∧ i ≠ z + 1 ∧ i + 1 ≠ z) (hjz : j ≠ z ∧ j ≠ z + 1 ∧ j + 1 ≠ z) (hl : il (z + 1) = 100) (h2 : 0 < u.2.1) (hn : 0 < n) (hn2 : n ≤ 20) (ot : okN 10000 20 t) (ou : okN 10000 20 u) (N1 : isN h i t.1 t.2.1 t.2.2) (N2 : isN h j u.1 u.2.1 u.2.2) : ∃ h', f_K_partOf i j (iI (n : Int)) z h = some (iI (if nd (ptW t u) ≤ n then 0 else 26), h') ∧ (nd (ptW t u) ≤ n → isN h' z (nrm (t.1 * u.1) (ptW t u) 0).1 (nrm (t.1 * u.1) (ptW t u) 0).2.1 (nrm (t.1 * u.1) (ptW t u) 0).2.2) ∧ ∀ y, y ≠ 36 → y ≠ 37 → y ≠ z → y ≠ z + 1 → h' y = h y := by
  obtain ⟨t1, t2, t3, t4, t5, t6⟩ := ot
  obtain ⟨u1, u2, u3, u4, u5, u6⟩ := ou
  unfold isS at t1
  unfold f_K_partOf
  obtain ⟨g1, e1, N3, k1⟩ := N_clear h z
  have N1' : isN g1 i t.1 t.2.1 t.2.2 := isN_eq N1 (k1 i hiz.1 hiz.2.1) (k1 (i + 1) hiz.2.2 (by omega))
  have N2' : isN g1 j u.1 u.2.1 u.2.2 := isN_eq N2 (k1 j hjz.1 hjz.2.1) (k1 (j + 1) hjz.2.2 (by omega))
  rw [bd_t e1, N1'.2.2]
  by_cases q : t.2.1 = 0
  · have W0 : ptW t u = 0 := by
      unfold ptW
      rw [q, pfx_00, Nat.zero_div]
    rw [if_pos (by rw [t2.mpr q]; rfl), W0, if_pos (by rw [nd_0]; omega)]
    exact ⟨g1, rfl, fun _ => N3, fun y _ _ y3 y4 => k1 y y3 y4⟩
  have s1 : t.1 ≠ 0 := fun a => q (t2.mp a)
  have hc : 0 < t.2.1 := by omega
  rw [if_neg (by rw [i0, iI_eq ⟨by omega, by omega⟩ ⟨by omega, by omega⟩]; exact s1), bd_t (N_ahead N1'), bd_t (N_ahead N2'), iI_sub]
  by_cases q2 : (nd t.2.1 : Int) + t.2.2 - ((nd u.2.1 : Int) + u.2.2) ≤ n
  · rw [if_pos (by rw [iI_le ⟨by omega, by omega⟩ ⟨by omega, by omega⟩]; exact q2), bd_t (N_ahead N1'), N2'.2.1, iI_sub, scN]
    obtain ⟨g2, e2, D2, k2⟩ := K_div (i := i) (j := j) (z := z) (most := n + 1) (lim := (nd t.2.1 : Int) + t.2.2 - u.2.2) hi hj hz hiz hl h2 (by omega) (by omega) ⟨by omega, by omega⟩ N1'.1 N2'.1
    rw [bd_t e2, k2 i hi.1 hi.2.1 hiz.1 hiz.2.1, k2 j hj.1 hj.2.1 hjz.1 hjz.2.1, N1'.2.2, N2'.2.2, iI_mul]
    obtain ⟨g3, e3, N4, k3⟩ := N_settle (s := t.1 * u.1) (e := 0) D2
    rw [bd_t (show f_N_settle z (iI (t.1 * u.1)) 0 g2 = _ from e3), N4.1.1]
    have fr : ∀ y, y ≠ 36 → y ≠ 37 → y ≠ z → y ≠ z + 1 → g3 y = h y := fun y y1 y2 y3 y4 => by rw [k3 y y3 y4, k2 y y1 y2 y3 y4, k1 y y3 y4]
    have hT := qT_le (n + 1) t.2.1 u.2.1 ((nd t.2.1 : Int) + t.2.2 - u.2.2).toNat 0
    have hS := qT_stop (most := n + 1) (c1 := t.2.1) (c2 := u.2.1) ((nd t.2.1 : Int) + t.2.2 - u.2.2).toNat 0
    have hb := N4.1.2.1
    rw [hl] at hb
    obtain ⟨T, eT⟩ : ∃ T, qT (n + 1) t.2.1 u.2.1 ((nd t.2.1 : Int) + t.2.2 - u.2.2).toNat 0 = T := ⟨_, rfl⟩
    rw [eT] at hT hS hb N4 ⊢
    rw [Nat.zero_add] at hT hS
    by_cases q3 : T = ((nd t.2.1 : Int) + t.2.2 - u.2.2).toNat
    · have eW : pfx t.2.1 T / u.2.1 = ptW t u := by rw [q3]; rfl
      rw [eW] at N4 hb ⊢
      by_cases q4 : nd (ptW t u) ≤ n
      · rw [if_pos (leN (by omega) (by omega) q4), if_pos q4]
        exact ⟨g3, rfl, fun _ => isN_nrm N4, fr⟩
      · rw [if_neg (nleN (by omega) (by omega) (by omega)), if_neg q4]
        exact ⟨g3, rfl, fun a => absurd a q4, fr⟩
    · have h5 := hS (by omega)
      have h6 : pfx t.2.1 T / u.2.1 ≤ ptW t u := by
        unfold ptW
        obtain ⟨k, hk⟩ : ∃ k, ((nd t.2.1 : Int) + t.2.2 - u.2.2).toNat = T + k := ⟨((nd t.2.1 : Int) + t.2.2 - u.2.2).toNat - T, by omega⟩
        rw [hk]
        apply Nat.div_le_div_right
        have := pfx_div (c := t.2.1) (T := T) k
        rw [← this]
        exact Nat.div_le_self _ _
      have h7 := nd_mono h6
      rw [if_neg (nleN (by omega) (by omega) (by omega)), if_neg (by omega)]
      exact ⟨g3, rfl, fun a => by omega, fr⟩
  · have h5 : n + 1 ≤ nd (ptW t u) := pfx_big hc h2 (by omega)
    rw [if_neg (by rw [iI_le ⟨by omega, by omega⟩ ⟨by omega, by omega⟩]; exact q2), if_neg (by omega)]
    exact ⟨g1, rfl, fun a => by omega, fun y _ _ y3 y4 => k1 y y3 y4⟩
/-- rounding never fails, whatever stands there -/
theorem N_any_loop : ∀ (m n : Nat) (h : Hp), m ≤ 100 → m < n → ∃ h', f_N_countUp_15 n 33 (iI ((m : Int) - 1)) h = some ((), h') ∧ kp h h' 33 34 := by
  have c43 : ∀ (z : Int) (h : Hp), -1 ≤ z → z < 100 → ∃ h', f_N_countUp_43 33 (iI z) h = some ((), h') ∧ kp h h' 33 34 := by
    intro z h h1 h2
    unfold f_N_countUp_43
    by_cases q : z < 0
    · rw [if_pos (by rw [i0, iI_lt ⟨by omega, by omega⟩ ⟨by omega, by omega⟩]; exact q), chk_t (show inR 0 (il (33 + 1)) from iI_inR (a := 0) (n := 100) (by omega) (by omega) (by omega))]
      refine ⟨_, rfl, fun j a b => ?_⟩
      rw [up2_ne _ _ _ a, up2_ne _ _ _ b]
    · rw [if_neg (by rw [i0, iI_lt ⟨by omega, by omega⟩ ⟨by omega, by omega⟩]; exact q), chk_t (show inR (iI z) (il (33 + 1)) from iI_inR (n := 100) (by omega) (by omega) (by omega)), chk_t (show inR (iI z) (il (33 + 1)) from iI_inR (n := 100) (by omega) (by omega) (by omega))]
      refine ⟨_, rfl, fun j a b => ?_⟩
      rw [up2_ne _ _ _ b]
  intro m
  induction m with
  | zero =>
    intro n h hm hn
    obtain ⟨n, rfl⟩ : ∃ q, n = q + 1 := ⟨n - 1, by omega⟩
    rw [f_N_countUp_15, if_pos (by rw [i0, iI_lt ⟨by omega, by omega⟩ ⟨by omega, by omega⟩]; omega)]
    exact c43 _ h (by omega) (by omega)
  | succ m ih =>
    intro n h hm hn
    obtain ⟨n, rfl⟩ : ∃ q, n = q + 1 := ⟨n - 1, by omega⟩
    have em : ((m + 1 : Nat) : Int) - 1 = (m : Int) := by omega
    have ir : inR (iI (m : Int)) (il (33 + 1)) := iI_inR (n := 100) (by omega) (by omega) (by omega)
    rw [f_N_countUp_15, em, if_neg (by rw [i0, iI_lt ⟨by omega, by omega⟩ ⟨by omega, by omega⟩]; omega), chk_t ir]
    by_cases q : h (33 + 1) (Int32.toNatClampNeg (iI (m : Int))) = 9
    · rw [if_pos q, chk_t ir, im1, iI_add]
      obtain ⟨h1, e1, k1⟩ := ih n (up2 h (33 + 1) (Int32.toNatClampNeg (iI (m : Int))) 0) (by omega) (by omega)
      exact ⟨h1, e1, fun j a b => by rw [k1 j a b, up2_ne _ _ _ b]⟩
    · rw [if_neg q]
      exact c43 _ h (by omega) (by omega)
theorem N_any {h : Hp} {n : Nat} (hn : 0 < n) (hn2 : n ≤ 20) : ∃ h', f_N_roundTo 33 (iI (n : Int)) h = some ((), h') ∧ kp h h' 33 34 := by
  unfold f_N_roundTo
  rw [if_neg (by rw [i1, iI_lt ⟨by omega, by omega⟩ ⟨by omega, by omega⟩]; omega)]
  have t28 : ∀ s0 : Int32, ∃ h', f_N_roundTo_28 33 (iI (n : Int)) s0 h = some ((), h') ∧ kp h h' 33 34 := by
    intro s0
    unfold f_N_roundTo_28
    by_cases q : s0 = 0
    · rw [if_pos q]
      refine ⟨_, rfl, fun j a b => ?_⟩
      rw [up2_ne _ _ _ a, up2_ne _ _ _ a]
    · rw [if_neg q]
      unfold f_N_countUp
      rw [up2_s, show il (33 + 1) = 100 from rfl, iI_ofNat, if_neg (by rw [iI_lt ⟨by omega, by omega⟩ ⟨by omega, by omega⟩]; omega), i1, iI_sub]
      obtain ⟨h1, e1, k1⟩ := N_any_loop n fuel (up2 (up2 h 33 2 ((h 33 2) + ((h 33 1) - iI (n : Int)))) 33 1 (iI (n : Int))) (by omega) (by unfold fuel; omega)
      rw [bd_t e1]
      exact ⟨h1, rfl, fun j a b => by rw [k1 j a b, up2_ne _ _ _ a, up2_ne _ _ _ a]⟩
  by_cases q : iI (n : Int) < h 33 1
  · rw [if_pos q]
    have dg : ∃ d, f_N_digit 33 (iI (n : Int)) h = some (d, h) := by
      unfold f_N_digit
      by_cases a : iI (n : Int) < 0
      · rw [if_pos a]
        exact ⟨_, rfl⟩
      · rw [if_neg a]
        by_cases b : h 33 1 ≤ iI (n : Int)
        · rw [if_pos b]
          exact ⟨_, rfl⟩
        · rw [if_neg b]
          by_cases c : iI (n : Int) < Int32.ofNat (il (33 + 1))
          · rw [if_pos c, chk_t (show inR (iI (n : Int)) (il (33 + 1)) from iI_inR (n := 100) (by omega) (by omega) (by omega))]
            exact ⟨_, rfl⟩
          · rw [if_neg c]
            exact ⟨_, rfl⟩
    obtain ⟨d, ed⟩ := dg
    rw [bd_t ed]
    split
    · exact t28 0
    · exact t28 1
  · rw [if_neg q]
    exact ⟨h, rfl, kp_r _ _ _⟩
