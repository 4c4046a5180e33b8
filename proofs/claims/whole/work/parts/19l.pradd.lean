/-! PURE 20: the reference's sum -/
theorem isM_nrm {h : Hp} {z c : Nat} {s e : Int} (M : isM h z (if c = 0 then 0 else s) c (if c = 0 then 0 else e)) : isM h z (nrm s c e).1 (nrm s c e).2.1 (nrm s c e).2.2 := by
  unfold nrm
  by_cases q : c = 0
  · rw [if_pos q] at M ⊢
    rw [if_pos q, q] at M
    exact M
  · rw [if_neg q] at M ⊢
    rw [if_neg q] at M
    exact M
theorem M_cmp {x y X Y : Nat} {t u : Int × Nat × Int} {L : Int} {v4 v5 v7 : Int32} {h : Hp} (hx : x < 5) (hy : y < 5) (b1 : -100000 ≤ t.2.2 ∧ t.2.2 ≤ 100000) (b2 : -100000 ≤ u.2.2 ∧ u.2.2 ≤ 100000) (bL : -100000 ≤ L ∧ L ≤ 100000) (hX : ∀ k : Nat, dp t.2.1 t.2.2 (L + (k : Int)) = X / 10 ^ k % 10) (hY : ∀ k : Nat, dp u.2.1 u.2.2 (L + (k : Int)) = Y / 10 ^ k % 10) (M1 : isM h x t.1 t.2.1 t.2.2) (M2 : isM h y u.1 u.2.1 u.2.2) : ∀ (m n : Nat), m < 100000 → m + 1 < n → f_M_add_134 n (iI (x : Int)) (iI (y : Int)) v4 v5 (iI L) v7 0 (iI (L + (m : Int) - 1)) h = f_M_add_169 (iI (x : Int)) (iI (y : Int)) v4 v5 (iI L) v7 (iI (cmpF X Y m)) h := by
  intro m
  induction m with
  | zero =>
    intro n hm hn
    obtain ⟨n, rfl⟩ : ∃ q, n = q + 1 := ⟨n - 1, by omega⟩
    rw [f_M_add_134, if_pos (by rw [iI_lt ⟨by omega, by omega⟩ ⟨by omega, by omega⟩]; omega)]
    rfl
  | succ m ih =>
    intro n hm hn
    obtain ⟨n, rfl⟩ : ∃ q, n = q + 2 := ⟨n - 2, by omega⟩
    have a := Nat.mod_lt (X / 10 ^ m) (show 10 > 0 by decide)
    have b := Nat.mod_lt (Y / 10 ^ m) (show 10 > 0 by decide)
    have em : L + ((m + 1 : Nat) : Int) - 1 = L + (m : Int) := by omega
    rw [f_M_add_134, em, if_neg (by rw [iI_lt ⟨by omega, by omega⟩ ⟨by omega, by omega⟩]; omega), if_pos rfl, bd_t (M_digit hx M1 (by omega) (by omega)), bd_t (M_digit hy M2 (by omega) (by omega)), hX m, hY m, iI_sub, im1, iI_add, show L + (m : Int) + -1 = L + (m : Int) - 1 by omega]
    by_cases q : X / 10 ^ m % 10 = Y / 10 ^ m % 10
    · have ec : cmpF X Y (m + 1) = cmpF X Y m := if_pos q
      rw [ec, q, Int.sub_self]
      exact ih (n + 1) (by omega) (by omega)
    · have ec : cmpF X Y (m + 1) = ((X / 10 ^ m % 10 : Nat) : Int) - ((Y / 10 ^ m % 10 : Nat) : Int) := if_neg q
      rw [ec, f_M_add_134]
      by_cases w : m = 0
      · rw [if_pos (by rw [iI_lt ⟨by omega, by omega⟩ ⟨by omega, by omega⟩]; omega)]
      · rw [if_neg (by rw [iI_lt ⟨by omega, by omega⟩ ⟨by omega, by omega⟩]; omega), if_neg (by rw [i0, iI_eq ⟨by omega, by omega⟩ ⟨by omega, by omega⟩]; omega)]
theorem M_351 {z K : Nat} {f : Nat → Nat} {s L : Int} {h : Hp} (hz : z < 5) (hK : 0 < K) (hK2 : K ≤ 2600) (hf : ∀ q, q < K → f q < 10) (F : ∀ q, q < K → h 50 (2600 * z + (K - 1 - q)) = iI (f q : Int)) : ∃ h', f_M_add_351 (iI (z : Int)) (iI L) (iI (L + (K : Int) - 1)) (iI (z : Int)) (iI s) h = some ((), h') ∧ isM h' z (nrm s (le f K) L).1 (nrm s (le f K) L).2.1 (nrm s (le f K) L).2.2 ∧ km h h' z := by
  unfold f_M_add_351
  rw [chk_t (inz hz), chk_t (inz hz), chk_t (inz hz), clz hz, iI_sub, i1, iI_add, show L + (K : Int) - 1 - L + 1 = (K : Int) by omega]
  have kk : km h (up2 (up2 (up2 h 53 z (iI s)) 51 z (iI (K : Int))) 52 z (iI L)) z := km_t (km_t (km_53 _ _ _) (km_51 _ _ _)) (km_52 _ _ _)
  obtain ⟨h1, e1, M1, k1⟩ := M_settle (h := up2 (up2 (up2 h 53 z (iI s)) 51 z (iI (K : Int))) 52 z (iI L)) (f := fun q => f (K - 1 - q)) (n := K) (s := s) (e := L) hz hK ⟨by rw [up2_o _ _ _ _ (by omega), up2_s], hK2, fun k hk => hf _ (by omega), fun k hk => by
    rw [up2_o _ _ _ _ (by omega), up2_o _ _ _ _ (by omega), up2_o _ _ _ _ (by omega)]
    have := F (K - 1 - k) (by omega)
    rw [show K - 1 - (K - 1 - k) = k by omega] at this
    exact this⟩ (by rw [up2_s]) (by rw [up2_o _ _ _ _ (by omega), up2_o _ _ _ _ (by omega), up2_s])
  rw [bd_t e1]
  rw [← le_dv] at M1
  exact ⟨h1, rfl, isM_nrm M1, km_t kk k1⟩
theorem M_194 {x y z K X Y : Nat} {t u : Int × Nat × Int} {g s L : Int} {v5 v8 v9 : Int32} (hz : z < 5) (hxz : x ≠ z) (hyz : y ≠ z) (hg : g = 1 ∨ g = -1) (hK : 0 < K) (hK2 : K ≤ 2600) (bL : -100000 ≤ L ∧ L ≤ 100000)
  (body : ∀ (n k : Nat) (h : Hp) (cy : Int32), k < K → isM h x t.1 t.2.1 t.2.2 → isM h y u.1 u.2.1 u.2.2 → f_M_add_194 (n + 1) (iI (x : Int)) (iI (y : Int)) (iI (z : Int)) v5 (iI L) (iI (L + (K : Int) - 1)) v8 v9 cy (iI (L + (k : Int))) h = f_M_add_264 (fun v1 v2 v4 v5 v6 v7 v8 v9 v10 v11 h => f_M_add_194 n v1 v2 v4 v5 v6 v7 v8 v9 v10 v11 h) (iI (x : Int)) (iI (y : Int)) (iI (z : Int)) v5 (iI L) (iI (L + (K : Int) - 1)) v8 v9 (iI (L + (k : Int))) cy (iI (((X / 10 ^ k % 10 : Nat) : Int) + g * ((Y / 10 ^ k % 10 : Nat) : Int))) h)
  (hend : ∀ (n : Nat) (h : Hp) (cy : Int32), isM h x t.1 t.2.1 t.2.2 → f_M_add_194 (n + 1) (iI (x : Int)) (iI (y : Int)) (iI (z : Int)) v5 (iI L) (iI (L + (K : Int) - 1)) v8 v9 cy (iI (L + (K : Int))) h = f_M_add_351 (iI (z : Int)) (iI L) (iI (L + (K : Int) - 1)) (iI (z : Int)) (iI s) h) :
  ∀ (m k n : Nat) (h : Hp), k + m = K → m < n → isM h x t.1 t.2.1 t.2.2 → isM h y u.1 u.2.1 u.2.2 → (∀ q, q < k → h 50 (2600 * z + (K - 1 - q)) = iI (dgF X Y g q : Int)) → ∃ h', f_M_add_194 n (iI (x : Int)) (iI (y : Int)) (iI (z : Int)) v5 (iI L) (iI (L + (K : Int) - 1)) v8 v9 (iI (cyF X Y g k)) (iI (L + (k : Int))) h = some ((), h') ∧ isM h' z (nrm s (le (dgF X Y g) K) L).1 (nrm s (le (dgF X Y g) K) L).2.1 (nrm s (le (dgF X Y g) K) L).2.2 ∧ km h h' z := by
  intro m
  induction m with
  | zero =>
    intro k n h hk hn M1 M2 F
    obtain ⟨n, rfl⟩ : ∃ q, n = q + 1 := ⟨n - 1, by omega⟩
    rw [show k = K by omega, hend n h _ M1]
    exact M_351 hz hK hK2 (fun q _ => (dgF_p hg q).2) (fun q hq => F q (by omega))
  | succ m ih =>
    intro k n h hk hn M1 M2 F
    obtain ⟨n, rfl⟩ : ∃ q, n = q + 1 := ⟨n - 1, by omega⟩
    have cb := cyF_b (X := X) (Y := Y) hg k
    have hd := dgF_p (X := X) (Y := Y) hg k
    rw [body n k h _ (by omega) M1 M2]
    unfold f_M_add_264 f_M_add_281
    rw [iI_add, show cyF X Y g k + (((X / 10 ^ k % 10 : Nat) : Int) + g * ((Y / 10 ^ k % 10 : Nat) : Int)) = rkF X Y g k by unfold rkF; omega]
    have go : ∀ (cy dv : Int32), cy = iI (cyF X Y g (k + 1)) → dv = iI (dgF X Y g k : Int) → ∃ h', chk (inR (((2600 * iI (z : Int)) + iI (L + (K : Int) - 1)) - iI (L + (k : Int))) 13000) (f_M_add_194 n (iI (x : Int)) (iI (y : Int)) (iI (z : Int)) v5 (iI L) (iI (L + (K : Int) - 1)) v8 v9 cy (iI (L + (k : Int)) + 1) (up2 h 50 (Int32.toNatClampNeg (((2600 * iI (z : Int)) + iI (L + (K : Int) - 1)) - iI (L + (k : Int)))) dv)) = some ((), h') ∧ isM h' z (nrm s (le (dgF X Y g) K) L).1 (nrm s (le (dgF X Y g) K) L).2.1 (nrm s (le (dgF X Y g) K) L).2.2 ∧ km h h' z := by
      intro cy dv e1 e2
      have ei : ((2600 * iI (z : Int)) + iI (L + (K : Int) - 1)) - iI (L + (k : Int)) = iI ((2600 * z + (K - 1 - k) : Nat) : Int) := by
        rw [show (2600 : Int32) = iI 2600 from rfl, iI_mul, iI_add, iI_sub]
        congr 1
        omega
      rw [ei, chk_t (ixR hz (by omega)), clN (by omega), e1, e2, i1, iI_add, show L + (k : Int) + 1 = L + ((k + 1 : Nat) : Int) by omega]
      have kk : km h (up2 h 50 (2600 * z + (K - 1 - k)) (iI (dgF X Y g k : Int))) z := km_50 _ _ _ _ (by omega)
      obtain ⟨h', e', a', b'⟩ := ih (k + 1) n _ (by omega) (by omega) (isM_km hxz M1 kk) (isM_km hyz M2 kk) (fun q hq => by
        by_cases w : q = k
        · rw [w, up2_s]
        · rw [up2_k _ _ _ (by omega)]
          exact F q (by omega))
      exact ⟨h', e', a', km_t kk b'⟩
    have hs := cyF_s X Y g k
    by_cases q : rkF X Y g k < 0
    · rw [if_pos q] at hs
      rw [hs] at hd
      rw [if_neg (by rw [i0, iI_le ⟨by omega, by omega⟩ ⟨by omega, by omega⟩]; omega), if_neg (by rw [i0, iI_le ⟨by omega, by omega⟩ ⟨by omega, by omega⟩]; omega)]
      exact go _ _ (by rw [hs, im1]) (by rw [show (10 : Int32) = iI 10 from rfl, iI_add, hd.1]; congr 1)
    · rw [if_neg q] at hs
      rw [if_pos (by rw [i0, iI_le ⟨by omega, by omega⟩ ⟨by omega, by omega⟩]; omega), if_pos (by rw [i0, iI_le ⟨by omega, by omega⟩ ⟨by omega, by omega⟩]; omega)]
      have er : cyF X Y g (k + 1) = rkF X Y g k / 10 := by
        rw [hs]
        split <;> omega
      refine go _ _ ?_ ?_
      · rw [show (10 : Int32) = iI 10 from rfl, iI_div (by omega) (by omega) (by omega) (by omega), er]
      · rw [show (10 : Int32) = iI 10 from rfl, iI_div (by omega) (by omega) (by omega) (by omega), iI_mul, iI_sub, hd.1, er]
        congr 1
        omega
theorem M_add {x y z fl : Nat} {t u : Int × Nat × Int} {h : Hp} (hx : x < 5) (hy : y < 5) (hz : z < 5) (hxz : x ≠ z) (hyz : y ≠ z) (hf : fl ≤ 1) (ot : okN 10000 100 t) (ou : okN 10000 100 u) (et : okE t) (eu : okE u) (M1 : isM h x t.1 t.2.1 t.2.2) (M2 : isM h y u.1 u.2.1 u.2.2) : ∃ h', f_M_add (iI (x : Int)) (iI (y : Int)) (iI (fl : Int)) (iI (z : Int)) h = some ((), h') ∧ isM h' z (exS t (ngT fl u)).1 (exS t (ngT fl u)).2.1 (exS t (ngT fl u)).2.2 ∧ km h h' z := by
  obtain ⟨t1, t2, t3, t4, t5, t6⟩ := id ot
  obtain ⟨u1, u2, u3, u4, u5, u6⟩ := id ou
  obtain ⟨w1, w2, w3, w4, w5, w6⟩ := ngT_ok (fl := fl) ou
  unfold okE at et eu
  unfold isS at t1 u1 w1
  have n2 : (ngT fl u).2 = u.2 := by
    unfold ngT
    split <;> rfl
  have m20 : f_M_add (iI (x : Int)) (iI (y : Int)) (iI (fl : Int)) (iI (z : Int)) h = f_M_add_20 (iI (x : Int)) (iI (y : Int)) (iI (z : Int)) (iI (ngT fl u).1) h := by
    unfold f_M_add ngT
    simp only [chk_t (inz hy), clz hy, M2.2.2.1]
    by_cases q : fl = 0
    · rw [if_pos (by rw [q]; rfl), if_pos q]
    · rw [if_neg (by rw [i0, iI_eq ⟨by omega, by omega⟩ ⟨by omega, by omega⟩]; omega), if_neg q, iI_neg]
  rw [m20]
  unfold f_M_add_20
  simp only [chk_t (inz hy), chk_t (inz hx), chk_t (inz hz), clz hy, clz hx, clz hz, M2.2.2.1, M1.2.2.1, M1.2.1, M2.2.1]
  by_cases q1 : u.2.1 = 0
  · have ex : exS t (ngT fl u) = t := if_pos (by rw [n2]; exact q1)
    obtain ⟨h1, e1, M3, k1⟩ := M_copy hx hz hxz M1
    rw [if_pos (by rw [u2.mpr q1]; rfl), bd_t e1, ex]
    exact ⟨h1, rfl, M3, k1⟩
  have s2 : u.1 ≠ 0 := fun a => q1 (u2.mp a)
  rw [if_neg (by rw [i0, iI_eq ⟨by omega, by omega⟩ ⟨by omega, by omega⟩]; exact s2)]
  by_cases q2 : t.2.1 = 0
  · have ex : exS t (ngT fl u) = ngT fl u := by
      unfold exS
      rw [if_neg (by rw [n2]; exact q1), if_pos q2]
    obtain ⟨h1, e1, M3, k1⟩ := M_copy hy hz hyz M2
    rw [if_pos (by rw [t2.mpr q2]; rfl), bd_t e1, ex, n2]
    refine ⟨_, rfl, ⟨by rw [up2_o _ _ _ _ (by omega)]; exact M3.1, by rw [up2_o _ _ _ _ (by omega)]; exact M3.2.1, up2_s _ _ _ _, M3.2.2.2.1, fun k hk => by rw [up2_o _ _ _ _ (by omega)]; exact M3.2.2.2.2 k hk⟩, km_t k1 (km_53 _ _ _)⟩
  have s1 : t.1 ≠ 0 := fun a => q2 (t2.mp a)
  rw [if_neg (by rw [i0, iI_eq ⟨by omega, by omega⟩ ⟨by omega, by omega⟩]; exact s1)]
  have ht : 0 < t.2.1 := by omega
  have hu : 0 < u.2.1 := by omega
  have pt := nd_pos ht
  have pu := nd_pos hu
  have mt := mn_c ht
  have mu := mn_c hu
  have el : lwE t (ngT fl u) = lwE t u := by
    unfold lwE
    rw [n2]
  obtain ⟨l1, l2, l3⟩ := lwE_p t u
  obtain ⟨K, hK⟩ : ∃ K : Nat, max ((nd t.2.1 : Int) + t.2.2) ((nd u.2.1 : Int) + u.2.2) - lwE t u + 1 = (K : Int) := ⟨(max ((nd t.2.1 : Int) + t.2.2) ((nd u.2.1 : Int) + u.2.2) - lwE t u + 1).toNat, by omega⟩
  have X1 := sX_lt (c := t.2.1) (K := K - 1) l1 (by omega)
  have Y1 := sX_lt (c := u.2.1) (K := K - 1) l2 (by omega)
  have P1 : 10 ^ K = 10 ^ (K - 1) * 10 := by
    rw [← Nat.pow_succ]
    congr 1
    omega
  obtain ⟨X, hX⟩ : ∃ X, sX t.2.1 t.2.2 (lwE t u) = X := ⟨_, rfl⟩
  obtain ⟨Y, hY⟩ : ∃ Y, sX u.2.1 u.2.2 (lwE t u) = Y := ⟨_, rfl⟩
  rw [hX] at X1
  rw [hY] at Y1
  have dX : ∀ k : Nat, dp t.2.1 t.2.2 (lwE t u + (k : Int)) = X / 10 ^ k % 10 := fun k => by rw [← hX]; exact sX_d l1 k
  have dY : ∀ k : Nat, dp u.2.1 u.2.2 (lwE t u + (k : Int)) = Y / 10 ^ k % 10 := fun k => by rw [← hY]; exact sX_d l2 k
  have exTU : exS t (ngT fl u) = if t.1 = (ngT fl u).1 then nrm t.1 (X + Y) (lwE t u) else if X < Y then nrm (ngT fl u).1 (Y - X) (lwE t u) else nrm t.1 (X - Y) (lwE t u) := by
    unfold exS
    rw [el, n2, if_neg q1, if_neg q2, hX, hY]
  -- the digits
  have t169 : ∃ h', f_M_add_169 (iI (x : Int)) (iI (y : Int)) (iI (z : Int)) (iI (ngT fl u).1) (iI (lwE t u)) (iI (lwE t u + (K : Int) - 1)) (iI (cmpF X Y K)) h = some ((), h') ∧ isM h' z (exS t (ngT fl u)).1 (exS t (ngT fl u)).2.1 (exS t (ngT fl u)).2.2 ∧ km h h' z := by
    have cb := cmpF_b X Y K
    have cl := cmpF_lt (X := X) (Y := Y) K (by rw [Nat.div_eq_of_lt (by omega), Nat.div_eq_of_lt (by omega)])
    unfold f_M_add_169
    rw [chk_t (inz hx)]
    simp only [clz hx, M1.2.2.1]
    by_cases q3 : t.1 = (ngT fl u).1
    · rw [if_pos q3] at exTU
      rw [if_pos (by rw [q3]), exTU]
      obtain ⟨h', e', a', b'⟩ := M_194 (x := x) (y := y) (t := t) (u := u) (X := X) (Y := Y) (g := 1) (s := t.1) (L := lwE t u) (K := K) (v5 := iI (ngT fl u).1) (v8 := iI (cmpF X Y K)) (v9 := 1) hz hxz hyz (Or.inl rfl) (by omega) (by omega) ⟨by omega, by omega⟩ (fun n k h cy hk A B => by
        rw [f_M_add_194, if_neg (by rw [iI_lt ⟨by omega, by omega⟩ ⟨by omega, by omega⟩]; omega), if_neg (by decide), bd_t (M_digit hx A (by omega) (by omega)), bd_t (M_digit hy B (by omega) (by omega)), dX k, dY k, iI_add, Int.one_mul]) (fun n h cy A => by
        rw [f_M_add_194, if_pos (by rw [iI_lt ⟨by omega, by omega⟩ ⟨by omega, by omega⟩]; omega), if_neg (by decide), chk_t (inz hx), clz hx, A.2.2.1]) K 0 fuel h (by omega) (by unfold fuel; omega) M1 M2 (fun q hq => absurd hq (Nat.not_lt_zero q))
      have es := le_sum (X := X) (Y := Y) (K := K) (Or.inl (rfl : (1 : Int) = 1)) (by omega) (by omega) (by omega) (by omega)
      rw [show le (dgF X Y 1) K = X + Y by omega] at a'
      rw [show lwE t u + ((0 : Nat) : Int) = lwE t u by omega] at e'
      exact ⟨h', e', a', b'⟩
    rw [if_neg q3] at exTU
    rw [if_neg (by rw [iI_eq ⟨by omega, by omega⟩ ⟨by omega, by omega⟩]; exact q3), exTU]
    by_cases q4 : X < Y
    · rw [if_pos q4]
      have c0 := cl.mpr q4
      obtain ⟨h', e', a', b'⟩ := M_194 (x := x) (y := y) (t := t) (u := u) (X := Y) (Y := X) (g := -1) (s := (ngT fl u).1) (L := lwE t u) (K := K) (v5 := iI (ngT fl u).1) (v8 := iI (cmpF X Y K)) (v9 := 0) hz hxz hyz (Or.inr rfl) (by omega) (by omega) ⟨by omega, by omega⟩ (fun n k h cy hk A B => by
        rw [f_M_add_194, if_neg (by rw [iI_lt ⟨by omega, by omega⟩ ⟨by omega, by omega⟩]; omega), if_pos rfl, if_pos (by rw [i0, iI_lt ⟨by omega, by omega⟩ ⟨by omega, by omega⟩]; exact c0), bd_t (M_digit hy B (by omega) (by omega)), bd_t (M_digit hx A (by omega) (by omega)), dX k, dY k, iI_sub, Int.neg_mul, Int.one_mul, ← Int.sub_eq_add_neg]) (fun n h cy A => by
        rw [f_M_add_194, if_pos (by rw [iI_lt ⟨by omega, by omega⟩ ⟨by omega, by omega⟩]; omega), if_pos rfl, if_pos (by rw [i0, iI_lt ⟨by omega, by omega⟩ ⟨by omega, by omega⟩]; exact c0)]) K 0 fuel h (by omega) (by unfold fuel; omega) M1 M2 (fun q hq => absurd hq (Nat.not_lt_zero q))
      have es := le_sum (X := Y) (Y := X) (K := K) (Or.inr (rfl : (-1 : Int) = -1)) (by omega) (by omega) (by omega) (by omega)
      rw [show le (dgF Y X (-1)) K = Y - X by omega] at a'
      rw [show lwE t u + ((0 : Nat) : Int) = lwE t u by omega] at e'
      exact ⟨h', e', a', b'⟩
    · rw [if_neg q4]
      have c0 : ¬ cmpF X Y K < 0 := fun a => q4 (cl.mp a)
      obtain ⟨h', e', a', b'⟩ := M_194 (x := x) (y := y) (t := t) (u := u) (X := X) (Y := Y) (g := -1) (s := t.1) (L := lwE t u) (K := K) (v5 := iI (ngT fl u).1) (v8 := iI (cmpF X Y K)) (v9 := 0) hz hxz hyz (Or.inr rfl) (by omega) (by omega) ⟨by omega, by omega⟩ (fun n k h cy hk A B => by
        rw [f_M_add_194, if_neg (by rw [iI_lt ⟨by omega, by omega⟩ ⟨by omega, by omega⟩]; omega), if_pos rfl, if_neg (by rw [i0, iI_lt ⟨by omega, by omega⟩ ⟨by omega, by omega⟩]; exact c0), bd_t (M_digit hx A (by omega) (by omega)), bd_t (M_digit hy B (by omega) (by omega)), dX k, dY k, iI_sub, Int.neg_mul, Int.one_mul, ← Int.sub_eq_add_neg]) (fun n h cy A => by
        rw [f_M_add_194, if_pos (by rw [iI_lt ⟨by omega, by omega⟩ ⟨by omega, by omega⟩]; omega), if_pos rfl, if_neg (by rw [i0, iI_lt ⟨by omega, by omega⟩ ⟨by omega, by omega⟩]; exact c0), chk_t (inz hx), clz hx, A.2.2.1]) K 0 fuel h (by omega) (by unfold fuel; omega) M1 M2 (fun q hq => absurd hq (Nat.not_lt_zero q))
      have es := le_sum (X := X) (Y := Y) (K := K) (Or.inr (rfl : (-1 : Int) = -1)) (by omega) (by omega) (by omega) (by omega)
      rw [show le (dgF X Y (-1)) K = X - Y by omega] at a'
      rw [show lwE t u + ((0 : Nat) : Int) = lwE t u by omega] at e'
      exact ⟨h', e', a', b'⟩
  have c134 := M_cmp (x := x) (y := y) (t := t) (u := u) (X := X) (Y := Y) (L := lwE t u) (v4 := iI (z : Int)) (v5 := iI (ngT fl u).1) (v7 := iI (lwE t u + (K : Int) - 1)) hx hy ⟨by omega, by omega⟩ ⟨by omega, by omega⟩ ⟨by omega, by omega⟩ dX dY M1 M2 K fuel (by omega) (by unfold fuel; omega)
  have t95 : ∃ h', f_M_add_95 (iI (x : Int)) (iI (y : Int)) (iI (z : Int)) (iI (ngT fl u).1) (iI (lwE t u)) h = some ((), h') ∧ isM h' z (exS t (ngT fl u)).1 (exS t (ngT fl u)).2.1 (exS t (ngT fl u)).2.2 ∧ km h h' z := by
    unfold f_M_add_95
    rw [bd_t (M_high hx M1), bd_t (M_high hy M2), mt, mu]
    by_cases q3 : (nd t.2.1 : Int) - 1 + t.2.2 ≤ (nd u.2.1 : Int) - 1 + u.2.2
    · rw [if_pos (by rw [iI_le ⟨by omega, by omega⟩ ⟨by omega, by omega⟩]; exact q3), bd_t (M_high hy M2), mu, i1, iI_add, show (nd u.2.1 : Int) - 1 + u.2.2 + 1 = lwE t u + (K : Int) - 1 by omega, c134]
      exact t169
    · rw [if_neg (by rw [iI_le ⟨by omega, by omega⟩ ⟨by omega, by omega⟩]; exact q3), bd_t (M_high hx M1), mt, i1, iI_add, show (nd t.2.1 : Int) - 1 + t.2.2 + 1 = lwE t u + (K : Int) - 1 by omega, c134]
      exact t169
  by_cases q3 : u.2.2 ≤ t.2.2
  · rw [show lwE t u = u.2.2 from if_pos q3] at t95
    rw [if_pos (by rw [iI_le ⟨by omega, by omega⟩ ⟨by omega, by omega⟩]; exact q3)]
    exact t95
  · rw [show lwE t u = t.2.2 from if_neg q3] at t95
    rw [if_neg (by rw [iI_le ⟨by omega, by omega⟩ ⟨by omega, by omega⟩]; exact q3)]
    exact t95
