/-! PURE 21: products -/
def xd (c i : Nat) : Nat := c / 10 ^ i % 10
theorem xd_lt (c i : Nat) : xd c i < 10 := Nat.mod_lt _ (by decide)
theorem xd_0 {c n i : Nat} (hc : c < 10 ^ n) (h : n ≤ i) : xd c i = 0 := by
  unfold xd
  rw [Nat.div_eq_of_lt (Nat.lt_of_lt_of_le hc (Nat.pow_le_pow_right (by decide) h))]
theorem le_xd (c : Nat) : ∀ n, le (xd c) n = c % 10 ^ n
  | 0 => by rw [Nat.pow_zero, Nat.mod_one]; rfl
  | n + 1 => by
    rw [le_s, le_xd c n, Nat.mod_pow_succ]
    unfold xd
    rw [Nat.mul_comm (10 ^ n)]
theorem le_plus (f g : Nat → Nat) : ∀ n, le (fun k => f k + g k) n = le f n + le g n
  | 0 => rfl
  | n + 1 => by
    rw [le_s, le_s, le_s, le_plus f g n, Nat.add_mul]
    omega
theorem le_shift (y : Nat → Nat) (c a : Nat) : ∀ k, le (fun j => if a ≤ j then c * y (j - a) else 0) k = c * 10 ^ a * le y (k - a)
  | 0 => by
    rw [show 0 - a = 0 by omega]
    rfl
  | k + 1 => by
    rw [le_s, le_shift y c a k]
    by_cases q : a ≤ k
    · rw [if_pos q, show k + 1 - a = (k - a) + 1 by omega, le_s, Nat.mul_add]
      congr 1
      have e : 10 ^ k = 10 ^ a * 10 ^ (k - a) := by
        rw [← Nat.pow_add]
        congr 1
        omega
      rw [e, Nat.mul_mul_mul_comm]
    · rw [if_neg q, show k + 1 - a = k - a by omega, Nat.zero_mul, Nat.add_zero]
def csF (x y : Nat → Nat) (k : Nat) : Nat → Nat
  | 0 => 0
  | a + 1 => csF x y k a + (if a ≤ k then x a * y (k - a) else 0)
theorem le_cs {x y : Nat → Nat} {N n2 C : Nat} (hy : ∀ m, n2 ≤ m → le y m = C) : ∀ a, a + n2 ≤ N + 1 → le (fun k => csF x y k a) N = le x a * C
  | 0, _ => by
    have : ∀ n, le (fun k => csF x y k 0) n = 0 := fun n => by
      induction n with
      | zero => rfl
      | succ n ih =>
        rw [le_s, ih]
        show 0 + 0 * _ = 0
        rw [Nat.zero_mul]
    rw [this]
    show 0 = 0 * C
    rw [Nat.zero_mul]
  | a + 1, h => by
    have e : (fun k => csF x y k (a + 1)) = fun k => csF x y k a + (fun j => if a ≤ j then x a * y (j - a) else 0) k := rfl
    rw [e, le_plus, le_cs hy a (by omega), le_shift, hy (N - a) (by omega), le_s, Nat.add_mul]
theorem cs_stop (x y : Nat → Nat) {k a : Nat} (h : k < a) : ∀ m, csF x y k (a + m) = csF x y k a
  | 0 => rfl
  | m + 1 => by
    show csF x y k (a + m) + (if a + m ≤ k then x (a + m) * y (k - (a + m)) else 0) = _
    rw [if_neg (by omega), cs_stop x y h m, Nat.add_zero]
theorem cs_zero {x : Nat → Nat} {c2 n2 k : Nat} (hc : c2 < 10 ^ n2) : ∀ a, a + n2 ≤ k + 1 → csF x (xd c2) k a = 0
  | 0, _ => rfl
  | a + 1, h => by
    show csF x (xd c2) k a + (if a ≤ k then x a * xd c2 (k - a) else 0) = 0
    rw [cs_zero hc a (by omega), xd_0 hc (by omega)]
    split <;> simp
theorem cs_le {c1 c2 k : Nat} : ∀ a, csF (xd c1) (xd c2) k a ≤ 81 * a
  | 0 => Nat.le_refl _
  | a + 1 => by
    have ih := cs_le (c1 := c1) (c2 := c2) (k := k) a
    have p : xd c1 a * xd c2 (k - a) ≤ 9 * 9 := Nat.mul_le_mul (by have := xd_lt c1 a; omega) (by have := xd_lt c2 (k - a); omega)
    show csF (xd c1) (xd c2) k a + (if a ≤ k then xd c1 a * xd c2 (k - a) else 0) ≤ _
    split <;> omega
def cq (f : Nat → Nat) : Nat → Nat
  | 0 => 0
  | k + 1 => (cq f k + f k) / 10
def cdg (f : Nat → Nat) (k : Nat) : Nat := (cq f k + f k) % 10
theorem cq_le (f : Nat → Nat) : ∀ n, le (cdg f) n + cq f n * 10 ^ n = le f n
  | 0 => rfl
  | n + 1 => by
    have ih := cq_le f n
    have e : cq f (n + 1) = (cq f n + f n) / 10 := rfl
    have d := Nat.div_add_mod (cq f n + f n) 10
    rw [le_s, le_s, e, Nat.pow_succ]
    have h1 : cdg f n * 10 ^ n + (cq f n + f n) / 10 * (10 ^ n * 10) = (cq f n + f n) * 10 ^ n := by
      rw [Nat.mul_comm (10 ^ n) 10, ← Nat.mul_assoc, ← Nat.add_mul]
      congr 1
      unfold cdg
      omega
    rw [Nat.add_mul] at h1
    omega
theorem cq_b {f : Nat → Nat} (hf : ∀ k, f k ≤ 8100) : ∀ k, cq f k ≤ 900
  | 0 => Nat.zero_le _
  | k + 1 => by
    have a := cq_b hf k
    have b := hf k
    show (cq f k + f k) / 10 ≤ 900
    omega
theorem dz_low {c a : Nat} (h : a < nd c) : dz c ((nd c : Int) - 1 - (a : Int)) = xd c a := by
  unfold dz dg xd
  rw [if_pos (by omega), show nd c - 1 - ((nd c : Int) - 1 - (a : Int)).toNat = a by omega]
theorem K_cross_loop {i j c1 c2 k : Nat} {h : Hp} (h1 : nd c1 ≤ 100) (h2 : nd c2 ≤ 100) (hk : k < 1000) (D1 : isD h i c1) (D2 : isD h j c2) : ∀ (m a n : Nat), a + m = min (k + 1) (nd c1) → k < a + nd c2 → m < n → f_K_crossSum_16 n i j (iI (k : Int)) (iI (csF (xd c1) (xd c2) k a : Int)) (iI (a : Int)) h = some (iI (csF (xd c1) (xd c2) k (nd c1) : Int), h) := by
  intro m
  induction m with
  | zero =>
    intro a n ha hk2 hn
    obtain ⟨n, rfl⟩ : ∃ q, n = q + 1 := ⟨n - 1, by omega⟩
    rw [f_K_crossSum_16]
    by_cases q : k < a
    · rw [if_pos (by rw [iI_lt ⟨by omega, by omega⟩ ⟨by omega, by omega⟩]; omega)]
      rw [show nd c1 = a + (nd c1 - a) by omega, cs_stop _ _ q]
    · rw [if_neg (by rw [iI_lt ⟨by omega, by omega⟩ ⟨by omega, by omega⟩]; omega), D1.1, if_pos (leN (by omega) (by omega) (by omega)), show a = nd c1 by omega]
  | succ m ih =>
    intro a n ha hk2 hn
    obtain ⟨n, rfl⟩ : ∃ q, n = q + 1 := ⟨n - 1, by omega⟩
    rw [f_K_crossSum_16, if_neg (by rw [iI_lt ⟨by omega, by omega⟩ ⟨by omega, by omega⟩]; omega), D1.1, if_neg (nleN (by omega) (by omega) (by omega)), i1, iI_sub, iI_sub, bd_t (N_digit D1 ⟨by omega, by omega⟩), dz_low (by omega), D2.1, iI_sub, iI_sub, iI_sub, bd_t (N_digit D2 ⟨by omega, by omega⟩), show (nd c2 : Int) - 1 - ((k : Int) - (a : Int)) = (nd c2 : Int) - 1 - ((k - a : Nat) : Int) by omega, dz_low (by omega), iI_mul, iI_add, iI_add]
    have e : (csF (xd c1) (xd c2) k a : Int) + (xd c1 a : Int) * (xd c2 (k - a) : Int) = (csF (xd c1) (xd c2) k (a + 1) : Int) := by
      show _ = ((csF (xd c1) (xd c2) k a + (if a ≤ k then xd c1 a * xd c2 (k - a) else 0) : Nat) : Int)
      rw [if_pos (by omega), Int.natCast_add, Int.natCast_mul]
    rw [e]
    exact ih (a + 1) n (by omega) (by omega) (by omega)
theorem K_cross {i j c1 c2 k : Nat} {h : Hp} (h1 : nd c1 ≤ 100) (h2 : nd c2 ≤ 100) (hk : k < nd c1 + nd c2) (D1 : isD h i c1) (D2 : isD h j c2) : f_K_crossSum i j (iI (k : Int)) h = some (iI (csF (xd c1) (xd c2) k (nd c1) : Int), h) := by
  unfold f_K_crossSum
  rw [D2.1, iI_sub, i1, iI_add]
  have e : (if 0 < iI ((k : Int) - (nd c2 : Int) + 1) then iI ((k : Int) - (nd c2 : Int) + 1) else 0) = iI ((k + 1 - nd c2 : Nat) : Int) := by
    by_cases q : 0 < (k : Int) - (nd c2 : Int) + 1
    · rw [if_pos (by rw [i0, iI_lt ⟨by omega, by omega⟩ ⟨by omega, by omega⟩]; exact q)]
      congr 1
      omega
    · rw [if_neg (by rw [i0, iI_lt ⟨by omega, by omega⟩ ⟨by omega, by omega⟩]; exact q), show k + 1 - nd c2 = 0 by omega]
      rfl
  rw [e]
  have z : csF (xd c1) (xd c2) k (k + 1 - nd c2) = 0 := by
    by_cases q : nd c2 ≤ k + 1
    · exact cs_zero (nd_lt c2) _ (by omega)
    · rw [show k + 1 - nd c2 = 0 by omega]
      rfl
  have L := K_cross_loop (c1 := c1) (c2 := c2) h1 h2 (show k < 1000 by omega) D1 D2 (min (k + 1) (nd c1) - (k + 1 - nd c2)) (k + 1 - nd c2) fuel (by omega) (by omega) (by unfold fuel; omega)
  rw [z] at L
  exact L
theorem K_prod_loop {i j z c1 c2 : Nat} {s1 s2 e1 e2 : Int} (hi : i ≠ 35) (hi1 : i + 1 ≠ 35) (hj : j ≠ 35) (hj1 : j + 1 ≠ 35) (hz : z ≠ 35) (hz1 : z + 1 ≠ 35) (hl : 100 ≤ il (z + 1)) (hW : nd c1 + nd c2 ≤ 100) : ∀ (m k n : Nat) (h : Hp), k + m = nd c1 + nd c2 → m < n → isN h i s1 c1 e1 → isN h j s2 c2 e2 → (∀ q, q < k → h 35 q = iI (cdg (fun k => csF (xd c1) (xd c2) k (nd c1)) q : Int)) → ∃ h', f_K_product_25 n i j z (iI ((nd c1 + nd c2 : Nat) : Int)) (iI (cq (fun k => csF (xd c1) (xd c2) k (nd c1)) k : Int)) (iI (k : Int)) h = some ((), h') ∧ isN h' z (nrm (s1 * s2) (c1 * c2) (e1 + e2)).1 (nrm (s1 * s2) (c1 * c2) (e1 + e2)).2.1 (nrm (s1 * s2) (c1 * c2) (e1 + e2)).2.2 ∧ ∀ y, y ≠ 35 → y ≠ z → y ≠ z + 1 → h' y = h y := by
  have hb : ∀ k, (fun k => csF (xd c1) (xd c2) k (nd c1)) k ≤ 8100 := fun k => by
    have := cs_le (c1 := c1) (c2 := c2) (k := k) (nd c1)
    show csF (xd c1) (xd c2) k (nd c1) ≤ 8100
    omega
  intro m
  induction m with
  | zero =>
    intro k n h hk hn N1 N2 F
    obtain ⟨n, rfl⟩ : ∃ q, n = q + 1 := ⟨n - 1, by omega⟩
    rw [f_K_product_25, if_pos (leN (by omega) (by omega) (by omega)), N1.2.1, N2.2.1, N1.2.2, N2.2.2, iI_add, iI_mul]
    obtain ⟨h1, e1', N3, k1⟩ := K_take (i := z) (w := nd c1 + nd c2) (f := cdg (fun k => csF (xd c1) (xd c2) k (nd c1))) (s := s1 * s2) (e := e1 + e2) (h := h) (fun q _ => Nat.mod_lt _ (by decide)) hW hl hz hz1 (fun q hq => F q (by omega))
    have ev : le (cdg (fun k => csF (xd c1) (xd c2) k (nd c1))) (nd c1 + nd c2) = c1 * c2 := by
      have a := cq_le (fun k => csF (xd c1) (xd c2) k (nd c1)) (nd c1 + nd c2)
      have b := le_cs (x := xd c1) (y := xd c2) (N := nd c1 + nd c2) (n2 := nd c2) (C := c2) (fun m hm => by rw [le_xd, Nat.mod_eq_of_lt (Nat.lt_of_lt_of_le (nd_lt c2) (Nat.pow_le_pow_right (by decide) hm))]) (nd c1) (by omega)
      rw [le_xd, Nat.mod_eq_of_lt (nd_lt c1)] at b
      rw [b] at a
      have c : c1 * c2 < 10 ^ (nd c1 + nd c2) := by
        rw [Nat.pow_add]
        exact Nat.mul_lt_mul'' (nd_lt c1) (nd_lt c2)
      have d : cq (fun k => csF (xd c1) (xd c2) k (nd c1)) (nd c1 + nd c2) = 0 := by
        rcases Nat.eq_zero_or_pos (cq (fun k => csF (xd c1) (xd c2) k (nd c1)) (nd c1 + nd c2)) with w | w
        · exact w
        · have := Nat.le_mul_of_pos_left (10 ^ (nd c1 + nd c2)) w
          omega
      rw [d, Nat.zero_mul] at a
      omega
    rw [ev] at N3
    rw [bd_t e1']
    exact ⟨h1, rfl, N3, fun y a b c => k1 y b c⟩
  | succ m ih =>
    intro k n h hk hn N1 N2 F
    obtain ⟨n, rfl⟩ : ∃ q, n = q + 1 := ⟨n - 1, by omega⟩
    have b1 := cq_b hb k
    have b2 := hb k
    have b2 : csF (xd c1) (xd c2) k (nd c1) ≤ 8100 := b2
    rw [f_K_product_25, if_neg (nleN (by omega) (by omega) (by omega)), bd_t (K_cross (by omega) (by omega) (by omega) N1.1 N2.1), chk_t (iI_inR (by omega) (by omega) (by omega)), iI_add, show (10 : Int32) = iI 10 from rfl, iI_div (by omega) (by omega) (by omega) (by omega), iI_mul, iI_sub, scN, clN (by omega)]
    have ec : ((cq (fun k => csF (xd c1) (xd c2) k (nd c1)) k : Nat) : Int) + ((csF (xd c1) (xd c2) k (nd c1) : Nat) : Int) = ((cq (fun k => csF (xd c1) (xd c2) k (nd c1)) k + csF (xd c1) (xd c2) k (nd c1) : Nat) : Int) := by omega
    have e1' : (((cq (fun k => csF (xd c1) (xd c2) k (nd c1)) k : Nat) : Int) + ((csF (xd c1) (xd c2) k (nd c1) : Nat) : Int)) / 10 = (cq (fun k => csF (xd c1) (xd c2) k (nd c1)) (k + 1) : Int) := by
      show _ = (((cq (fun k => csF (xd c1) (xd c2) k (nd c1)) k + csF (xd c1) (xd c2) k (nd c1)) / 10 : Nat) : Int)
      omega
    have e2' : ((cq (fun k => csF (xd c1) (xd c2) k (nd c1)) k : Nat) : Int) + ((csF (xd c1) (xd c2) k (nd c1) : Nat) : Int) - (((cq (fun k => csF (xd c1) (xd c2) k (nd c1)) k : Nat) : Int) + ((csF (xd c1) (xd c2) k (nd c1) : Nat) : Int)) / 10 * 10 = (cdg (fun k => csF (xd c1) (xd c2) k (nd c1)) k : Int) := by
      show _ = (((cq (fun k => csF (xd c1) (xd c2) k (nd c1)) k + csF (xd c1) (xd c2) k (nd c1)) % 10 : Nat) : Int)
      omega
    rw [e2', e1']
    obtain ⟨h', e', a', b'⟩ := ih (k + 1) n (up2 h 35 k (iI (cdg (fun k => csF (xd c1) (xd c2) k (nd c1)) k : Int))) (by omega) (by omega) (isN_eq N1 (up2_ne _ _ _ hi) (up2_ne _ _ _ hi1)) (isN_eq N2 (up2_ne _ _ _ hj) (up2_ne _ _ _ hj1)) (fun q hq => by
      by_cases w : q = k
      · rw [w, up2_s]
      · rw [up2_k _ _ _ w]
        exact F q (by omega))
    exact ⟨h', e', a', fun y y1 y2 y3 => by rw [b' y y1 y2 y3, up2_ne _ _ _ y1]⟩
theorem K_prod {i j z : Nat} {t u : Int × Nat × Int} {h : Hp} (hi : i ≠ 35) (hi1 : i + 1 ≠ 35) (hj : j ≠ 35) (hj1 : j + 1 ≠ 35) (hz : z ≠ 35) (hz1 : z + 1 ≠ 35) (hl : 100 ≤ il (z + 1)) (hW : nd t.2.1 + nd u.2.1 ≤ 100) (N1 : isN h i t.1 t.2.1 t.2.2) (N2 : isN h j u.1 u.2.1 u.2.2) : ∃ h', f_K_product i j z h = some ((), h') ∧ isN h' z (nrm (t.1 * u.1) (t.2.1 * u.2.1) (t.2.2 + u.2.2)).1 (nrm (t.1 * u.1) (t.2.1 * u.2.1) (t.2.2 + u.2.2)).2.1 (nrm (t.1 * u.1) (t.2.1 * u.2.1) (t.2.2 + u.2.2)).2.2 ∧ ∀ y, y ≠ 35 → y ≠ z → y ≠ z + 1 → h' y = h y := by
  unfold f_K_product
  rw [N1.1.1, N2.1.1, iI_add, iI_ofNat, if_neg (by rw [iI_lt ⟨by omega, by omega⟩ ⟨by omega, by omega⟩]; omega), show (nd t.2.1 : Int) + (nd u.2.1 : Int) = ((nd t.2.1 + nd u.2.1 : Nat) : Int) by omega]
  exact K_prod_loop (z := z) hi hi1 hj hj1 hz hz1 hl hW (nd t.2.1 + nd u.2.1) 0 fuel h (by omega) (by unfold fuel; omega) N1 N2 (fun q hq => absurd hq (Nat.not_lt_zero q))
