/-! PURE 26: the reference's quotient and part -/
def qu0 (n : Nat) (t u : Int × Nat × Int) : Int × Nat × Int := nrm (t.1 * u.1) (pfx t.2.1 (quS n t u) / u.2.1) ((nd t.2.1 : Int) + t.2.2 - (quS n t u : Int) - u.2.2)
theorem quT_eq (n : Nat) (t u : Int × Nat × Int) : quT n t u = rN n (qu0 n t u) := rfl
theorem quS_nd {n : Nat} {t u : Int × Nat × Int} (ht : 0 < t.2.1) (hu : 0 < u.2.1) : n + 1 ≤ nd (pfx t.2.1 (quS n t u) / u.2.1) := by
  have a := qT_le (n + 1) t.2.1 u.2.1 (nd u.2.1 + n + 2) 0
  have b := qT_stop (most := n + 1) (c1 := t.2.1) (c2 := u.2.1) (nd u.2.1 + n + 2) 0
  unfold quS
  by_cases q : qT (n + 1) t.2.1 u.2.1 (nd u.2.1 + n + 2) 0 < 0 + (nd u.2.1 + n + 2)
  · exact b q
  · exact pfx_big ht hu (by omega)
theorem M_d50 {x y z n : Nat} {t u : Int × Nat × Int} (hx : x < 5) (hy : y < 5) (hz : z < 5) (hxz : x ≠ z) (hyz : y ≠ z) (ht : 0 < t.2.1) (hu : 0 < u.2.1) (hw : nd u.2.1 ≤ 60) (hwt : nd t.2.1 ≤ 2600) (hn : n ≤ 60) : ∀ (m T j : Nat) (h : Hp), T + m = nd u.2.1 + n + 2 → m < j → isM h x t.1 t.2.1 t.2.2 → isM h y u.1 u.2.1 u.2.2 → isB h 54 (nd u.2.1 + 1) (pfx t.2.1 T % u.2.1) → (∀ q, q < nd (pfx t.2.1 T / u.2.1) → h 50 (2600 * z + q) = iI (dg (pfx t.2.1 T / u.2.1) (nd (pfx t.2.1 T / u.2.1)) q : Int)) → nd (pfx t.2.1 T / u.2.1) ≤ n + 1 → ∃ h', f_M_divide_50 j (iI (x : Int)) (iI (y : Int)) (iI (n : Int)) (iI (z : Int)) (iI (nd (pfx t.2.1 T / u.2.1) : Int)) (iI (T : Int)) h = some ((), h') ∧ isM h' z (t.1 * u.1) (pfx t.2.1 (qT (n + 1) t.2.1 u.2.1 m T) / u.2.1) ((nd t.2.1 : Int) + t.2.2 - (qT (n + 1) t.2.1 u.2.1 m T : Int) - u.2.2) ∧ kd h h' z := by
  have mu := mn_c hu
  have mt := mn_c ht
  have stop : ∀ (m T j : Nat) (h : Hp), 0 < j → qT (n + 1) t.2.1 u.2.1 m T = T → n + 1 ≤ nd (pfx t.2.1 T / u.2.1) → isM h x t.1 t.2.1 t.2.2 → isM h y u.1 u.2.1 u.2.2 → (∀ q, q < nd (pfx t.2.1 T / u.2.1) → h 50 (2600 * z + q) = iI (dg (pfx t.2.1 T / u.2.1) (nd (pfx t.2.1 T / u.2.1)) q : Int)) → nd (pfx t.2.1 T / u.2.1) ≤ n + 1 → ∃ h', f_M_divide_50 j (iI (x : Int)) (iI (y : Int)) (iI (n : Int)) (iI (z : Int)) (iI (nd (pfx t.2.1 T / u.2.1) : Int)) (iI (T : Int)) h = some ((), h') ∧ isM h' z (t.1 * u.1) (pfx t.2.1 (qT (n + 1) t.2.1 u.2.1 m T) / u.2.1) ((nd t.2.1 : Int) + t.2.2 - (qT (n + 1) t.2.1 u.2.1 m T : Int) - u.2.2) ∧ kd h h' z := by
    intro m T j h hj eq hq M1 M2 F hb
    obtain ⟨j, rfl⟩ : ∃ q, j = q + 1 := ⟨j - 1, by omega⟩
    have hQ : 0 < pfx t.2.1 T / u.2.1 := by
      rcases Nat.eq_zero_or_pos (pfx t.2.1 T / u.2.1) with w | w
      · rw [w, nd_0] at hq
        omega
      · exact w
    have mq := mn_c hQ
    rw [eq, f_M_divide_50, if_pos (by rw [iI_lt ⟨by omega, by omega⟩ ⟨by omega, by omega⟩]; omega)]
    simp only [chk_t (inz hx), chk_t (inz hy), chk_t (inz hz), clz hx, clz hy, clz hz, up_a, up_b]
    rw [up2_k _ _ _ hxz, up_c, M1.2.2.1, M2.2.2.1, M1.2.1, M2.2.1, M1.1, mt, iI_mul, iI_sub, iI_add, iI_sub]
    refine ⟨_, rfl, ⟨?_, ?_, ?_, by omega, fun k hk => ?_⟩, kd_km (km_t (km_t (km_53 _ _ _) (km_51 _ _ _)) (km_52 _ _ _))⟩
    · rw [up2_o _ _ _ _ (by omega), up2_s, mq]
    · rw [up2_s]
      congr 1
      omega
    · rw [up2_o _ _ _ _ (by omega), up2_o _ _ _ _ (by omega), up2_s]
    · rw [up2_o _ _ _ _ (by omega), up2_o _ _ _ _ (by omega), up2_o _ _ _ _ (by omega)]
      rw [mq] at hk ⊢
      exact F k hk
  intro m
  induction m with
  | zero =>
    intro T j h hT hj M1 M2 B F hb
    exact stop 0 T j h (by omega) rfl (pfx_big ht hu (by omega)) M1 M2 F hb
  | succ m ih =>
    intro T j h hT hj M1 M2 B F hb
    by_cases q : n + 1 ≤ nd (pfx t.2.1 T / u.2.1)
    · exact stop (m + 1) T j h (by omega) (if_pos q) q M1 M2 F hb
    have eq : qT (n + 1) t.2.1 u.2.1 (m + 1) T = qT (n + 1) t.2.1 u.2.1 m (T + 1) := if_neg q
    obtain ⟨j, rfl⟩ : ∃ q, j = q + 1 := ⟨j - 1, by omega⟩
    rw [eq, f_M_divide_50, if_neg (by rw [iI_lt ⟨by omega, by omega⟩ ⟨by omega, by omega⟩]; omega)]
    have dl := dz_lt t.2.1 (T : Int)
    have ml := Nat.mod_lt (pfx t.2.1 T) hu
    obtain ⟨s1, s2⟩ := pfx_step (c1 := t.2.1) (T := T) hu
    obtain ⟨g1, e1, F1, k1⟩ := M_down_loop (x := x) (y := y) (A := pfx t.2.1 T % u.2.1) (T := T) (t := t) (u := u) (v3 := iI (n : Int)) (v4 := iI (z : Int)) (v5 := iI (nd (pfx t.2.1 T / u.2.1) : Int)) (k50 := fun v1 v2 v3 v4 v5 v6 h => f_M_divide_50 j v1 v2 v3 v4 v5 v6 h) hx hy ht hu hw hwt (by omega) (nd u.2.1) 0 fuel h (by omega) (by unfold fuel; omega) M1 M2 (fun q hq => by rw [if_neg (by omega)]; exact B.2 q hq)
    have e1 : f_M_divide_59 (fun v1 v2 v3 v4 v5 v6 h => f_M_divide_50 j v1 v2 v3 v4 v5 v6 h) fuel (iI (x : Int)) (iI (y : Int)) (iI (n : Int)) (iI (z : Int)) (iI (nd (pfx t.2.1 T / u.2.1) : Int)) (iI (T : Int)) 0 h = _ := e1
    rw [e1]
    have B1 := isB_down (h := g1) (w := nd u.2.1 + 1) (A := pfx t.2.1 T % u.2.1) (d := dz t.2.1 (T : Int)) (by omega) dl (Nat.lt_trans ml (nd_lt _)) F1
    obtain ⟨g2, e2, B2, k2⟩ := M_all_loop (y := y) (u := u) (v1 := iI (x : Int)) (v3 := iI (n : Int)) (v4 := iI (z : Int)) (v5 := iI (nd (pfx t.2.1 T / u.2.1) : Int)) (v6 := iI ((T + 1 : Nat) : Int)) (k50 := fun v1 v2 v3 v4 v5 v6 h => f_M_divide_50 j v1 v2 v3 v4 v5 v6 h) hy hu hw 9 0 fuel (10 * (pfx t.2.1 T % u.2.1) + dz t.2.1 (T : Int)) g1 (by unfold fuel; omega) (by omega) (isM_54 M2 k1) B1
    have e2 : f_M_divide_137 (fun v1 v2 v3 v4 v5 v6 h => f_M_divide_50 j v1 v2 v3 v4 v5 v6 h) fuel (iI (x : Int)) (iI (y : Int)) (iI (n : Int)) (iI (z : Int)) (iI (nd (pfx t.2.1 T / u.2.1) : Int)) (iI ((T + 1 : Nat) : Int)) 0 g1 = _ := e2
    rw [e2]
    rw [← s2] at B2
    have k12 : ∀ y, y ≠ 54 → g2 y = h y := fun y hy => by rw [k2 y hy, k1 y hy]
    have ql : (10 * (pfx t.2.1 T % u.2.1) + dz t.2.1 (T : Int)) / u.2.1 < 10 := by
      rw [Nat.div_lt_iff_lt_mul hu]
      omega
    rw [Nat.zero_add]
    obtain ⟨d, hd⟩ : ∃ d, (10 * (pfx t.2.1 T % u.2.1) + dz t.2.1 (T : Int)) / u.2.1 = d := ⟨_, rfl⟩
    rw [hd] at s1 ql ⊢
    obtain ⟨Q, hQ⟩ : ∃ Q, pfx t.2.1 T / u.2.1 = Q := ⟨_, rfl⟩
    rw [hQ] at s1 F hb q ⊢
    by_cases z0 : Q = 0 ∧ d = 0
    · have s3 : pfx t.2.1 (T + 1) / u.2.1 = 0 := by rw [s1, z0.1, z0.2]
      obtain ⟨h', e', a', b'⟩ := ih (T + 1) j g2 (by omega) (by omega) (isM_54 M1 k12) (isM_54 M2 k12) B2 (fun q hq => by rw [s3, nd_0] at hq; omega) (by rw [s3, nd_0]; omega)
      rw [s3, nd_0] at e'
      rw [z0.1, z0.2, nd_0, if_pos (by rfl), if_pos (by rfl)]
      exact ⟨h', e', a', kd_t (kd_f k12) b'⟩
    · have np : nd (10 * Q + d) = nd Q + 1 := nd_push ql (by omega)
      have t257 : ∃ h', f_M_divide_257 (fun v1 v2 v3 v4 v5 v6 h => f_M_divide_50 j v1 v2 v3 v4 v5 v6 h) (iI (x : Int)) (iI (y : Int)) (iI (n : Int)) (iI (z : Int)) (iI (nd Q : Int)) (iI ((T + 1 : Nat) : Int)) (iI (d : Int)) g2 = some ((), h') ∧ isM h' z (t.1 * u.1) (pfx t.2.1 (qT (n + 1) t.2.1 u.2.1 m (T + 1)) / u.2.1) ((nd t.2.1 : Int) + t.2.2 - (qT (n + 1) t.2.1 u.2.1 m (T + 1) : Int) - u.2.2) ∧ kd h h' z := by
        unfold f_M_divide_257
        rw [ixN, chk_t (ixR hz (by omega)), clN (by omega), scN]
        have kk : km g2 (up2 g2 50 (2600 * z + nd Q) (iI (d : Int))) z := km_50 _ _ _ _ (by omega)
        obtain ⟨h', e', a', b'⟩ := ih (T + 1) j (up2 g2 50 (2600 * z + nd Q) (iI (d : Int))) (by omega) (by omega) (isM_km hxz (isM_54 M1 k12) kk) (isM_km hyz (isM_54 M2 k12) kk) (isB_eq B2 (up2_ne _ _ _ (by omega))) (fun q hq => by
          rw [s1, np] at hq ⊢
          by_cases w : q = nd Q
          · rw [w, up2_s]
            have := dg_last (c := 10 * Q + d) (n := nd Q + 1) (by omega)
            rw [show nd Q + 1 - 1 = nd Q by omega] at this
            rw [this]
            congr 2
            omega
          · rw [up2_k _ _ _ (by omega), dg_push ql (by omega), k12 50 (by omega)]
            exact F q (by omega)) (by rw [s1, np]; omega)
        rw [s1, np] at e'
        exact ⟨h', e', a', kd_t (kd_f k12) (kd_t (kd_km kk) b')⟩
      by_cases w : Q = 0
      · rw [if_pos (by rw [w, nd_0]; rfl), if_neg (by rw [i0, iI_eq ⟨by omega, by omega⟩ ⟨by omega, by omega⟩]; omega)]
        exact t257
      · have := nd_pos (c := Q) (by omega)
        rw [if_neg (by rw [i0, iI_eq ⟨by omega, by omega⟩ ⟨by omega, by omega⟩]; omega)]
        exact t257
theorem M_d19 {x y z : Nat} {u : Int × Nat × Int} {v3 : Int32} (hy : y < 5) (hu : 0 < u.2.1) (hw : nd u.2.1 ≤ 60) : ∀ (m k n : Nat) (h : Hp), k + m = nd u.2.1 + 1 → m < n → isM h y u.1 u.2.1 u.2.2 → (∀ q, q < k → h 54 q = iI ((0 : Nat) : Int)) → ∃ h', f_M_divide_19 n (iI (x : Int)) (iI (y : Int)) v3 (iI (z : Int)) (iI (k : Int)) h = f_M_divide_50 fuel (iI (x : Int)) (iI (y : Int)) v3 (iI (z : Int)) 0 0 h' ∧ isB h' 54 (nd u.2.1 + 1) 0 ∧ ∀ y, y ≠ 54 → h' y = h y := by
  have mu := mn_c hu
  intro m
  induction m with
  | zero =>
    intro k n h hk hn M F
    obtain ⟨n, rfl⟩ : ∃ q, n = q + 1 := ⟨n - 1, by omega⟩
    rw [f_M_divide_19, chk_t (inz hy), clz hy, M.1, mu, if_pos (by rw [iI_lt ⟨by omega, by omega⟩ ⟨by omega, by omega⟩]; omega)]
    refine ⟨h, rfl, ⟨p10 _, fun q hq => ?_⟩, fun _ _ => rfl⟩
    have z0 : dg 0 (nd u.2.1 + 1) q = 0 := by
      unfold dg
      rw [Nat.zero_div]
    rw [z0]
    exact F q (by omega)
  | succ m ih =>
    intro k n h hk hn M F
    obtain ⟨n, rfl⟩ : ∃ q, n = q + 1 := ⟨n - 1, by omega⟩
    rw [f_M_divide_19, chk_t (inz hy), clz hy, M.1, mu, if_neg (by rw [iI_lt ⟨by omega, by omega⟩ ⟨by omega, by omega⟩]; omega), chk_t (in300 (by omega)), clN (by omega), scN]
    obtain ⟨h', e', a', b'⟩ := ih (k + 1) n (up2 h 54 k 0) (by omega) (by omega) (isM_54 M (fun y hy => up2_ne _ _ _ hy)) (fun q hq => by
      by_cases w : q = k
      · rw [w, up2_s]
        rfl
      · rw [up2_k _ _ _ w]
        exact F q (by omega))
    exact ⟨h', e', a', fun y hy => by rw [b' y hy, up2_ne _ _ _ hy]⟩
theorem M_div {x y z n : Nat} {t u : Int × Nat × Int} {h : Hp} (hx : x < 5) (hy : y < 5) (hz : z < 5) (hxz : x ≠ z) (hyz : y ≠ z) (hs : isS t.1) (z1 : t.1 = 0 ↔ t.2.1 = 0) (hu : 0 < u.2.1) (hw : nd u.2.1 ≤ 60) (hwt : nd t.2.1 ≤ 2600) (hn : n ≤ 60) (M1 : isM h x t.1 t.2.1 t.2.2) (M2 : isM h y u.1 u.2.1 u.2.2) : ∃ h', f_M_divide (iI (x : Int)) (iI (y : Int)) (iI (n : Int)) (iI (z : Int)) h = some ((), h') ∧ isM h' z (qu0 n t u).1 (qu0 n t u).2.1 (qu0 n t u).2.2 ∧ kd h h' z := by
  unfold isS at hs
  unfold f_M_divide
  rw [chk_t (inz hx), clz hx, M1.2.2.1]
  by_cases q : t.2.1 = 0
  · have e0 : qu0 n t u = (0, 0, 0) := by
      unfold qu0 nrm
      rw [q, pfx_00, Nat.zero_div, if_pos rfl]
    obtain ⟨h1, e1, M3, k1⟩ := M_zero (h := h) hz
    rw [if_pos (by rw [z1.mpr q]; rfl), bd_t e1, e0]
    exact ⟨h1, rfl, M3, kd_km k1⟩
  have s1 : t.1 ≠ 0 := fun a => q (z1.mp a)
  have ht : 0 < t.2.1 := by omega
  rw [if_neg (by rw [i0, iI_eq ⟨by omega, by omega⟩ ⟨by omega, by omega⟩]; exact s1)]
  obtain ⟨g1, e1, B1, k1⟩ := M_d19 (x := x) (y := y) (z := z) (u := u) (v3 := iI (n : Int)) hy hu hw (nd u.2.1 + 1) 0 fuel h (by omega) (by unfold fuel; omega) M2 (fun q hq => absurd hq (Nat.not_lt_zero q))
  have e1 : f_M_divide_19 fuel (iI (x : Int)) (iI (y : Int)) (iI (n : Int)) (iI (z : Int)) 0 h = _ := e1
  rw [e1]
  have p0 : pfx t.2.1 0 / u.2.1 = 0 := by rw [pfx_0, Nat.zero_div]
  have p1 : pfx t.2.1 0 % u.2.1 = 0 := by rw [pfx_0, Nat.zero_mod]
  obtain ⟨g2, e2, M3, k2⟩ := M_d50 (x := x) (y := y) (z := z) (n := n) (t := t) (u := u) hx hy hz hxz hyz ht hu hw hwt hn (nd u.2.1 + n + 2) 0 fuel g1 (by omega) (by unfold fuel; omega) (isM_54 M1 k1) (isM_54 M2 k1) (by rw [p1]; exact B1) (fun q hq => by rw [p0, nd_0] at hq; omega) (by rw [p0, nd_0]; omega)
  rw [p0, nd_0] at e2
  have hq := quS_nd (n := n) ht hu
  have e0 : qu0 n t u = (t.1 * u.1, pfx t.2.1 (quS n t u) / u.2.1, (nd t.2.1 : Int) + t.2.2 - (quS n t u : Int) - u.2.2) := by
    unfold qu0 nrm
    rw [if_neg (fun w => by rw [w, nd_0] at hq; omega)]
  rw [e0]
  exact ⟨g2, e2, M3, kd_t (kd_f k1) k2⟩
