/-! PURE 22: the reference's product -/
-- ===== the reference =====
def ud (g : Nat → Nat) (p v : Nat) : Nat → Nat := fun q => if q = p then v else g q
theorem dv_ud (g : Nat → Nat) {p : Nat} (v : Nat) : ∀ {N : Nat}, p < N → dv (ud g p v) N + g p * 10 ^ (N - 1 - p) = dv g N + v * 10 ^ (N - 1 - p)
  | 0, h => absurd h (Nat.not_lt_zero p)
  | N + 1, h => by
    rw [dv_s, dv_s]
    by_cases q : p = N
    · have e : dv (ud g p v) N = dv g N := dv_congr (fun k hk => if_neg (by omega))
      have e2 : ud g p v N = v := if_pos q.symm
      rw [e, e2, show N + 1 - 1 - p = 0 by omega, q, Nat.pow_zero]
      omega
    · have ih := dv_ud g (p := p) v (N := N) (by omega)
      have e2 : ud g p v N = g N := if_neg (fun z => q z.symm)
      have e3 : 10 ^ (N + 1 - 1 - p) = 10 ^ (N - 1 - p) * 10 := by
        rw [← Nat.pow_succ]
        congr 1
        omega
      rw [e2, e3, ← Nat.mul_assoc, ← Nat.mul_assoc]
      omega
/-- the digits of a product as they grow -/
def isG (h : Hp) (z N : Nat) (g : Nat → Nat) : Prop := ∀ q, q < N → h 50 (2600 * z + q) = iI (g q : Int)
theorem isG_up {h : Hp} {z N p v : Nat} {g : Nat → Nat} (G : isG h z N g) : isG (up2 h 50 (2600 * z + p) (iI (v : Int))) z N (ud g p v) := by
  intro q hq
  unfold ud
  by_cases w : q = p
  · rw [w, up2_s, if_pos rfl]
  · rw [up2_k _ _ _ (by omega), if_neg w]
    exact G q hq
theorem M_row {x y z i N c1 c2 V : Nat} {t u : Int × Nat × Int} {v4 : Int32} {k77 : Int32 → Int32 → Int32 → Int32 → Int32 → Hp → Option (Unit × Hp)} (hx : x < 5) (hy : y < 5) (hz : z < 5) (hxz : x ≠ z) (hyz : y ≠ z) (ht : t.2.1 = c1) (hu : u.2.1 = c2) (hi : i < mn c1) (hN : N = mn c1 + mn c2) (hN2 : N ≤ 2600) : ∀ (m n : Nat) (h : Hp) (g : Nat → Nat), m < n → m ≤ mn c2 → isM h x t.1 t.2.1 t.2.2 → isM h y u.1 u.2.1 u.2.2 → isG h z N g → (∀ q, q < N → q ≠ i + m → g q < 10) → g (i + m) ≤ 18 → (m = 0 → g i < 10) → (∀ q, q < i → g q = 0) → (0 < m → g i = 0) → dv g N = V + dg c1 (mn c1) i * 10 ^ (mn c1 - 1 - i) * (c2 % 10 ^ (mn c2 - m)) → ∃ h' g', f_M_multiply_92 k77 n (iI (x : Int)) (iI (y : Int)) (iI (z : Int)) v4 (iI (i : Int)) (iI ((m : Int) - 1)) h = k77 (iI (x : Int)) (iI (y : Int)) (iI (z : Int)) v4 (iI ((i : Int) - 1)) h' ∧ isG h' z N g' ∧ (∀ q, q < N → g' q < 10) ∧ (∀ q, q < i → g' q = 0) ∧ dv g' N = V + dg c1 (mn c1) i * 10 ^ (mn c1 - 1 - i) * c2 ∧ km h h' z := by
  intro m
  induction m with
  | zero =>
    intro n h g hn hm M1 M2 G g1 g2 g3 g4 g5 ev
    obtain ⟨n, rfl⟩ : ∃ q, n = q + 1 := ⟨n - 1, by omega⟩
    rw [f_M_multiply_92, if_pos (by rw [i0, iI_lt ⟨by omega, by omega⟩ ⟨by omega, by omega⟩]; omega), im1, iI_add]
    refine ⟨h, g, rfl, G, fun q hq => ?_, g4, ?_, km_r _ _⟩
    · by_cases w : q = i
      · rw [w]; exact g3 rfl
      · exact g1 q hq (by omega)
    · rw [ev, Nat.sub_zero, Nat.mod_eq_of_lt (mn_lt c2)]
  | succ m ih =>
    intro n h g hn hm M1 M2 G g1 g2 g3 g4 g5 ev
    obtain ⟨n, rfl⟩ : ∃ q, n = q + 1 := ⟨n - 1, by omega⟩
    have g5 := g5 (by omega)
    have d1 := dg_lt c1 (mn c1) i
    have d2 := dg_lt c2 (mn c2) m
    have em : ((m + 1 : Nat) : Int) - 1 = (m : Int) := by omega
    have i1' : ((2600 * iI (z : Int)) + iI (i : Int)) + iI (m : Int) = iI ((2600 * z + (i + m) : Nat) : Int) := by
      rw [show (2600 : Int32) = iI 2600 from rfl, iI_mul, iI_add, iI_add]
      congr 1
      omega
    have i2' : iI ((2600 * z + (i + m) : Nat) : Int) + 1 = iI ((2600 * z + (i + (m + 1)) : Nat) : Int) := by
      rw [scN]
      rfl
    have p : dg c1 (mn c1) i * dg c2 (mn c2) m ≤ 9 * 9 := Nat.mul_le_mul (by omega) (by omega)
    rw [f_M_multiply_92, em, if_neg (by rw [i0, iI_lt ⟨by omega, by omega⟩ ⟨by omega, by omega⟩]; omega), i1', i2', ixN x i, ixN y m]
    simp only [chk_t (ixR (k := i + (m + 1)) hz (by omega)), chk_t (ixR (k := i + m) hz (by omega)), chk_t (ixR (k := i) hx (by have := M1.2.2.2.1; rw [ht] at this; omega)), chk_t (ixR (k := m) hy (by have := M2.2.2.2.1; rw [hu] at this; omega))]
    rw [clN (n := 2600 * z + (i + (m + 1))) (by omega), clN (n := 2600 * z + (i + m)) (by omega), clN (n := 2600 * x + i) (by omega), clN (n := 2600 * y + m) (by omega)]
    have a1 := M1.2.2.2.2 i (by rw [ht]; exact hi)
    have a2 := M2.2.2.2.2 m (by rw [hu]; omega)
    rw [ht] at a1
    rw [hu] at a2
    rw [G (i + (m + 1)) (by omega), a1, a2, iI_mul, iI_add]
    have er : ((g (i + (m + 1)) : Nat) : Int) + ((dg c1 (mn c1) i : Nat) : Int) * ((dg c2 (mn c2) m : Nat) : Int) = ((g (i + (m + 1)) + dg c1 (mn c1) i * dg c2 (mn c2) m : Nat) : Int) := by
      rw [Int.natCast_add, Int.natCast_mul]
    obtain ⟨r, hr⟩ : ∃ r, g (i + (m + 1)) + dg c1 (mn c1) i * dg c2 (mn c2) m = r := ⟨_, rfl⟩
    have rb : r ≤ 99 := by omega
    rw [er, hr, dq (by omega), show (10 : Int32) = iI 10 from rfl, iI_mul, iI_sub, show (r : Int) - ((r / 10 : Nat) : Int) * 10 = ((r % 10 : Nat) : Int) by omega, up2_k _ _ _ (show 2600 * z + (i + m) ≠ 2600 * z + (i + (m + 1)) by omega), G (i + m) (by omega), iI_add, show ((g (i + m) : Nat) : Int) + ((r / 10 : Nat) : Int) = ((g (i + m) + r / 10 : Nat) : Int) by omega, im1, iI_add, show (m : Int) + -1 = (m : Int) - 1 by omega]
    have G2 := isG_up (p := i + m) (v := g (i + m) + r / 10) (isG_up (p := i + (m + 1)) (v := r % 10) G)
    have kk : km h (up2 (up2 h 50 (2600 * z + (i + (m + 1))) (iI ((r % 10 : Nat) : Int))) 50 (2600 * z + (i + m)) (iI ((g (i + m) + r / 10 : Nat) : Int))) z := km_t (km_50 _ _ _ _ (by omega)) (km_50 _ _ _ _ (by omega))
    have gm : g (i + m) < 10 := g1 _ (by omega) (by omega)
    have e1 : ud (ud g (i + (m + 1)) (r % 10)) (i + m) (g (i + m) + r / 10) (i + m) = g (i + m) + r / 10 := if_pos rfl
    have ev2 : dv (ud (ud g (i + (m + 1)) (r % 10)) (i + m) (g (i + m) + r / 10)) N = V + dg c1 (mn c1) i * 10 ^ (mn c1 - 1 - i) * (c2 % 10 ^ (mn c2 - m)) := by
      have s1 := dv_ud g (p := i + (m + 1)) (r % 10) (N := N) (by omega)
      have s2 := dv_ud (ud g (i + (m + 1)) (r % 10)) (p := i + m) (g (i + m) + r / 10) (N := N) (by omega)
      have u1 : ud g (i + (m + 1)) (r % 10) (i + m) = g (i + m) := if_neg (by omega)
      rw [u1] at s2
      have w1 : 10 ^ (N - 1 - (i + m)) = 10 * 10 ^ (N - 1 - (i + (m + 1))) := by
        rw [← Nat.pow_succ']
        congr 1
        omega
      have w2 : 10 ^ (N - 1 - (i + (m + 1))) = 10 ^ (mn c1 - 1 - i) * 10 ^ (mn c2 - (m + 1)) := by
        rw [← Nat.pow_add]
        congr 1
        omega
      have w3 : c2 % 10 ^ (mn c2 - m) = c2 % 10 ^ (mn c2 - (m + 1)) + 10 ^ (mn c2 - (m + 1)) * dg c2 (mn c2) m := by
        rw [show mn c2 - m = (mn c2 - (m + 1)) + 1 by omega, Nat.mod_pow_succ]
        unfold dg
        rw [show mn c2 - 1 - m = mn c2 - (m + 1) by omega]
      rw [w3, Nat.mul_add, ← Nat.add_assoc V, ← ev]
      have w4 : dg c1 (mn c1) i * 10 ^ (mn c1 - 1 - i) * (10 ^ (mn c2 - (m + 1)) * dg c2 (mn c2) m) = dg c1 (mn c1) i * dg c2 (mn c2) m * 10 ^ (N - 1 - (i + (m + 1))) := by
        rw [w2, Nat.mul_mul_mul_comm, Nat.mul_comm (10 ^ (mn c1 - 1 - i)) (dg c2 (mn c2) m), ← Nat.mul_assoc]
        rw [show dg c1 (mn c1) i * 10 ^ (mn c2 - (m + 1)) * dg c2 (mn c2) m = dg c1 (mn c1) i * dg c2 (mn c2) m * 10 ^ (mn c2 - (m + 1)) from Nat.mul_right_comm _ _ _, Nat.mul_assoc, Nat.mul_comm (10 ^ (mn c2 - (m + 1)))]
      rw [w4]
      obtain ⟨W, hW⟩ : ∃ W, 10 ^ (N - 1 - (i + (m + 1))) = W := ⟨_, rfl⟩
      rw [w1, hW, Nat.add_mul, ← Nat.mul_assoc (r / 10) 10 W] at s2
      rw [hW] at s1 ⊢
      have w5 : r % 10 * W + r / 10 * 10 * W = g (i + (m + 1)) * W + dg c1 (mn c1) i * dg c2 (mn c2) m * W := by
        rw [← Nat.add_mul, ← Nat.add_mul, hr, show r % 10 + r / 10 * 10 = r by omega]
      omega
    obtain ⟨h', g', e', b1, b2, b3, b4, b5⟩ := ih n _ _ (by omega) (by omega) (isM_km hxz M1 kk) (isM_km hyz M2 kk) G2 (fun q hq hne => by
      show (if q = i + m then _ else if q = i + (m + 1) then _ else _) < 10
      rw [if_neg hne]
      split
      · omega
      · exact g1 q hq (by omega)) (by rw [e1]; omega) (fun m0 => by
      have : ud (ud g (i + (m + 1)) (r % 10)) (i + m) (g (i + m) + r / 10) i = g (i + m) + r / 10 := if_pos (by omega)
      rw [this, show i + m = i by omega, g5]
      omega) (fun q hq => by
      show (if q = i + m then _ else if q = i + (m + 1) then _ else _) = 0
      rw [if_neg (by omega), if_neg (by omega)]
      exact g4 q hq) (fun m0 => by
      show (if i = i + m then _ else if i = i + (m + 1) then _ else _) = 0
      rw [if_neg (by omega), if_neg (by omega)]
      exact g5) ev2
    exact ⟨h', g', e', b1, b2, b3, b4, km_t kk b5⟩
theorem up_a (h : Hp) (k l : Nat) (v : Int32) : up2 h 51 k v 52 l = h 52 l := up2_o _ _ _ _ (by decide)
theorem up_b (h : Hp) (k l : Nat) (v : Int32) : up2 h 53 k v 52 l = h 52 l := up2_o _ _ _ _ (by decide)
theorem up_c (h : Hp) (k l : Nat) (v : Int32) : up2 h 53 k v 51 l = h 51 l := up2_o _ _ _ _ (by decide)
theorem M_rows {x y z N c1 c2 : Nat} {t u : Int × Nat × Int} (hx : x < 5) (hy : y < 5) (hz : z < 5) (hxz : x ≠ z) (hyz : y ≠ z) (ht : t.2.1 = c1) (hu : u.2.1 = c2) (hN : N = mn c1 + mn c2) (hN2 : N ≤ 2600) : ∀ (m n : Nat) (h : Hp) (g : Nat → Nat), m < n → m ≤ mn c1 → isM h x t.1 t.2.1 t.2.2 → isM h y u.1 u.2.1 u.2.2 → isG h z N g → (∀ q, q < N → g q < 10) → (∀ q, q < m → g q = 0) → dv g N = c1 % 10 ^ (mn c1 - m) * c2 → ∃ h', f_M_multiply_77 n (iI (x : Int)) (iI (y : Int)) (iI (z : Int)) (iI (N : Int)) (iI ((m : Int) - 1)) h = some ((), h') ∧ isM h' z (nrm (t.1 * u.1) (c1 * c2) (t.2.2 + u.2.2)).1 (nrm (t.1 * u.1) (c1 * c2) (t.2.2 + u.2.2)).2.1 (nrm (t.1 * u.1) (c1 * c2) (t.2.2 + u.2.2)).2.2 ∧ km h h' z := by
  have p1 := mn_pos c1
  have p2 := mn_pos c2
  intro m
  induction m with
  | zero =>
    intro n h g hn hm M1 M2 G g1 g2 ev
    obtain ⟨n, rfl⟩ : ∃ q, n = q + 1 := ⟨n - 1, by omega⟩
    rw [f_M_multiply_77, if_pos (by rw [i0, iI_lt ⟨by omega, by omega⟩ ⟨by omega, by omega⟩]; omega)]
    simp only [chk_t (inz hx), chk_t (inz hy), chk_t (inz hz), clz hx, clz hy, clz hz, M1.2.2.1, M2.2.2.1, up_a, up_b, M1.2.1, M2.2.1, iI_mul, iI_add]
    have kk : km h (up2 (up2 (up2 h 53 z (iI (t.1 * u.1))) 51 z (iI (N : Int))) 52 z (iI (t.2.2 + u.2.2))) z := km_t (km_t (km_53 _ _ _) (km_51 _ _ _)) (km_52 _ _ _)
    obtain ⟨h1, e1, M3, k1⟩ := M_settle (h := up2 (up2 (up2 h 53 z (iI (t.1 * u.1))) 51 z (iI (N : Int))) 52 z (iI (t.2.2 + u.2.2))) (f := g) (n := N) (s := t.1 * u.1) (e := t.2.2 + u.2.2) hz (by omega) ⟨by rw [up2_o _ _ _ _ (by omega), up2_s], hN2, g1, fun k hk => by
      rw [up2_o _ _ _ _ (by omega), up2_o _ _ _ _ (by omega), up2_o _ _ _ _ (by omega)]
      exact G k hk⟩ (by rw [up2_s]) (by rw [up2_o _ _ _ _ (by omega), up2_o _ _ _ _ (by omega), up2_s])
    rw [ev, Nat.sub_zero, Nat.mod_eq_of_lt (mn_lt c1)] at M3
    rw [bd_t e1]
    exact ⟨h1, rfl, isM_nrm M3, km_t kk k1⟩
  | succ m ih =>
    intro n h g hn hm M1 M2 G g1 g2 ev
    obtain ⟨n, rfl⟩ : ∃ q, n = q + 1 := ⟨n - 1, by omega⟩
    have em : ((m + 1 : Nat) : Int) - 1 = (m : Int) := by omega
    rw [f_M_multiply_77, em, if_neg (by rw [i0, iI_lt ⟨by omega, by omega⟩ ⟨by omega, by omega⟩]; omega), chk_t (inz hy), clz hy, M2.1, hu, i1, iI_sub]
    obtain ⟨h1, g', e1, G1, b1, b2, b3, k1⟩ := M_row (x := x) (y := y) (z := z) (i := m) (N := N) (c1 := c1) (c2 := c2) (V := c1 % 10 ^ (mn c1 - (m + 1)) * c2) (t := t) (u := u) (v4 := iI (N : Int)) (k77 := fun v1 v2 v3 v4 v5 h => f_M_multiply_77 n v1 v2 v3 v4 v5 h) hx hy hz hxz hyz ht hu (by omega) hN hN2 (mn c2) fuel h g (by unfold fuel; omega) (Nat.le_refl _) M1 M2 G (fun q hq _ => g1 q hq) (by have := g1 (m + mn c2) (by omega); omega) (fun z => by omega) (fun q hq => g2 q (by omega)) (fun _ => g2 m (by omega)) (by rw [ev, Nat.sub_self, Nat.pow_zero, Nat.mod_one, Nat.mul_zero]; rfl)
    rw [e1]
    obtain ⟨h2, e2, M3, k2⟩ := ih n h1 g' (by omega) (by omega) (isM_km hxz M1 k1) (isM_km hyz M2 k1) G1 b1 b2 (by
      rw [b3, ← Nat.add_mul]
      congr 1
      rw [show mn c1 - m = (mn c1 - (m + 1)) + 1 by omega, Nat.mod_pow_succ]
      unfold dg
      rw [show mn c1 - 1 - m = mn c1 - (m + 1) by omega, Nat.mul_comm (10 ^ (mn c1 - (m + 1)))])
    exact ⟨h2, e2, M3, km_t k1 k2⟩
theorem M_m40 {x y z N : Nat} {t : Int × Nat × Int} (hx : x < 5) (hz : z < 5) (hxz : x ≠ z) (hN2 : N ≤ 2600) : ∀ (m k n : Nat) (h : Hp), k + m = N → m < n → isM h x t.1 t.2.1 t.2.2 → (∀ q, q < k → h 50 (2600 * z + q) = iI ((0 : Nat) : Int)) → ∃ h', f_M_multiply_40 n (iI (x : Int)) (iI (y : Int)) (iI (z : Int)) (iI (N : Int)) (iI (k : Int)) h = f_M_multiply_77 fuel (iI (x : Int)) (iI (y : Int)) (iI (z : Int)) (iI (N : Int)) (iI ((mn t.2.1 : Int) - 1)) h' ∧ isG h' z N (fun _ => 0) ∧ km h h' z := by
  intro m
  induction m with
  | zero =>
    intro k n h hk hn M1 F
    obtain ⟨n, rfl⟩ : ∃ q, n = q + 1 := ⟨n - 1, by omega⟩
    rw [f_M_multiply_40, if_pos (leN (by omega) (by omega) (by omega)), chk_t (inz hx), clz hx, M1.1, i1, iI_sub]
    exact ⟨h, rfl, fun q hq => F q (by omega), km_r _ _⟩
  | succ m ih =>
    intro k n h hk hn M1 F
    obtain ⟨n, rfl⟩ : ∃ q, n = q + 1 := ⟨n - 1, by omega⟩
    rw [f_M_multiply_40, if_neg (nleN (by omega) (by omega) (by omega)), ixN, chk_t (ixR hz (by omega)), clN (by omega), scN]
    have kk : km h (up2 h 50 (2600 * z + k) 0) z := km_50 _ _ _ _ (by omega)
    obtain ⟨h1, e1, G1, k1⟩ := ih (k + 1) n (up2 h 50 (2600 * z + k) 0) (by omega) (by omega) (isM_km hxz M1 kk) (fun q hq => by
      by_cases w : q = k
      · rw [w, up2_s]
        rfl
      · rw [up2_k _ _ _ (by omega)]
        exact F q (by omega))
    exact ⟨h1, e1, G1, km_t kk k1⟩
theorem M_mul {x y z : Nat} {t u : Int × Nat × Int} {h : Hp} (hx : x < 5) (hy : y < 5) (hz : z < 5) (hxz : x ≠ z) (hyz : y ≠ z) (b1 : isS t.1) (b2 : isS u.1) (z1 : t.1 = 0 ↔ t.2.1 = 0) (z2 : u.1 = 0 ↔ u.2.1 = 0) (hW : mn t.2.1 + mn u.2.1 ≤ 2600) (M1 : isM h x t.1 t.2.1 t.2.2) (M2 : isM h y u.1 u.2.1 u.2.2) : ∃ h', f_M_multiply (iI (x : Int)) (iI (y : Int)) (iI (z : Int)) h = some ((), h') ∧ isM h' z (nrm (t.1 * u.1) (t.2.1 * u.2.1) (t.2.2 + u.2.2)).1 (nrm (t.1 * u.1) (t.2.1 * u.2.1) (t.2.2 + u.2.2)).2.1 (nrm (t.1 * u.1) (t.2.1 * u.2.1) (t.2.2 + u.2.2)).2.2 ∧ km h h' z := by
  unfold isS at b1 b2
  have sg : -1 ≤ t.1 * u.1 ∧ t.1 * u.1 ≤ 1 ∧ (t.1 * u.1 = 0 ↔ t.1 = 0 ∨ u.1 = 0) := by
    rcases b1 with a | a | a <;> rcases b2 with b | b | b <;> rw [a, b] <;> decide
  unfold f_M_multiply
  simp only [chk_t (inz hx), chk_t (inz hy), clz hx, clz hy, M1.2.2.1, M2.2.2.1, M1.1, M2.1, iI_mul, iI_add]
  by_cases q : t.1 * u.1 = 0
  · have c0 : t.2.1 * u.2.1 = 0 := by
      rcases sg.2.2.mp q with a | a
      · rw [z1.mp a, Nat.zero_mul]
      · rw [z2.mp a, Nat.mul_zero]
    obtain ⟨h1, e1, M3, k1⟩ := M_zero (h := h) hz
    rw [if_pos (by rw [q]; rfl), bd_t e1, c0]
    exact ⟨h1, rfl, M3, k1⟩
  · rw [if_neg (by rw [i0, iI_eq ⟨by omega, by omega⟩ ⟨by omega, by omega⟩]; exact q), show (mn t.2.1 : Int) + (mn u.2.1 : Int) = ((mn t.2.1 + mn u.2.1 : Nat) : Int) by omega]
    obtain ⟨h1, e1, G1, k1⟩ := M_m40 (x := x) (y := y) (z := z) (N := mn t.2.1 + mn u.2.1) (t := t) hx hz hxz hW (mn t.2.1 + mn u.2.1) 0 fuel h (by omega) (by unfold fuel; omega) M1 (fun q hq => absurd hq (Nat.not_lt_zero q))
    have e1 : f_M_multiply_40 fuel (iI (x : Int)) (iI (y : Int)) (iI (z : Int)) (iI ((mn t.2.1 + mn u.2.1 : Nat) : Int)) 0 h = _ := e1
    rw [e1]
    have p1 := mn_pos t.2.1
    obtain ⟨h2, e2, M3, k2⟩ := M_rows (x := x) (y := y) (z := z) (t := t) (u := u) hx hy hz hxz hyz rfl rfl rfl hW (mn t.2.1) fuel h1 (fun _ => 0) (by unfold fuel; omega) (Nat.le_refl _) (isM_km hxz M1 k1) (isM_km hyz M2 k1) G1 (fun _ _ => by decide) (fun _ _ => rfl) (by
      rw [Nat.sub_self, Nat.pow_zero, Nat.mod_one, Nat.zero_mul]
      exact dv_z (fun _ _ => rfl))
    exact ⟨h2, e2, M3, km_t k1 k2⟩
