/-! PURE 18: sums: digits with carries, and the class's sum -/
theorem rnd_hi {n c : Nat} {e : Int} (hn : 0 < n) : (nd (rnd n c e).1 : Int) + (rnd n c e).2 ≤ (nd c : Int) + e + 1 := by
  have hb := rnd_nd (n := n) (c := c) (e := e) hn
  unfold rnd at *
  by_cases q : nd c ≤ n
  · rw [if_pos q]
    show (nd c : Int) + e ≤ _
    omega
  · rw [if_neg q] at hb ⊢
    by_cases q2 : rup c (nd c - n) = 10 ^ n
    · rw [if_pos q2] at hb ⊢
      have hb : nd (10 ^ (n - 1)) ≤ n := hb
      show (nd (10 ^ (n - 1)) : Int) + (e + ((nd c - n : Nat) : Int) + 1) ≤ _
      omega
    · rw [if_neg q2] at hb ⊢
      have hb : nd (rup c (nd c - n)) ≤ n := hb
      show (nd (rup c (nd c - n)) : Int) + (e + ((nd c - n : Nat) : Int)) ≤ _
      omega
theorem rdN_okE {bs : List Nat} {t : Int × Nat × Int} (hl : bs.length ≤ 200) (ht : rdN bs = some t) : -1200 ≤ t.2.2 ∧ (nd t.2.1 : Int) + t.2.2 ≤ 1200 := by
  have hnd := (rdN_ok hl ht).2.2.2.2.2
  unfold rdN at ht
  cases hx : rdT (fun k => bAt bs (k : Int)) (bs.length - rdK2 bs) (rdK2 bs) with
  | none => rw [hx] at ht; cases ht
  | some r =>
    rw [hx] at ht
    have ht2 : (if skp bs (bs.length - r.1) r.1 = bs.length then some (nrm (if bAt bs (rdK bs : Int) = 45 then -1 else 1) r.2.1 r.2.2) else none) = some t := ht
    by_cases z : skp bs (bs.length - r.1) r.1 = bs.length
    · rw [if_pos z] at ht2
      have := (Option.some.inj ht2).symm
      subst this
      unfold rdT at hx
      have hD := rdD_k (fun k => bAt bs (k : Int)) (bs.length - rdK2 bs) (rdK2 bs) 0 0 0 0
      by_cases n0 : (rdD (fun k => bAt bs (k : Int)) (bs.length - rdK2 bs) (rdK2 bs) 0 0 0 0).2.2.1 = 0
      · rw [if_pos n0] at hx; cases hx
      · rw [if_neg n0] at hx
        have hX := rdX_ok hx
        have hp := hD.2.2.2.2 (by omega)
        unfold nrm at hnd ⊢
        by_cases c0 : r.2.1 = 0
        · rw [if_pos c0]
          exact ⟨by decide, by decide⟩
        · rw [if_neg c0] at hnd ⊢
          have hnd : nd r.2.1 ≤ 200 := hnd
          show -1200 ≤ r.2.2 ∧ (nd r.2.1 : Int) + r.2.2 ≤ 1200
          omega
    · rw [if_neg z] at ht2
      cases ht2
def okE (t : Int × Nat × Int) : Prop := -1200 ≤ t.2.2 ∧ (nd t.2.1 : Int) + t.2.2 ≤ 1201
theorem ldN_okE {n : Nat} {bs : List Nat} {t : Int × Nat × Int} (hn : 0 < n) (hl : bs.length ≤ 200) (ht : ldN n bs = some t) : okE t := by
  unfold ldN at ht
  cases hx : rdN bs with
  | none => rw [hx] at ht; cases ht
  | some u =>
    rw [hx] at ht
    have := (Option.some.inj ht).symm
    subst this
    have a := rdN_okE hl hx
    have b := rnd_hi (n := n) (c := u.2.1) (e := u.2.2) hn
    have c := rnd_e (n := n) (c := u.2.1) (e := u.2.2)
    show -1200 ≤ (rnd n u.2.1 u.2.2).2 ∧ (nd (rnd n u.2.1 u.2.2).1 : Int) + (rnd n u.2.1 u.2.2).2 ≤ 1201
    omega
theorem rnd_div {n c j : Nat} {e : Int} (h : n + 1 ≤ nd (c / 10 ^ j)) : rnd n c e = rnd n (c / 10 ^ j) (e + (j : Int)) := by
  have hj : j < nd c := by
    rcases Nat.lt_or_ge j (nd c) with q | q
    · exact q
    · rw [Nat.div_eq_of_lt (Nat.lt_of_lt_of_le (nd_lt c) (Nat.pow_le_pow_right (by decide) q)), nd_0] at h
      omega
  have hd := nd_divp hj
  rw [hd] at h
  have hr : rup (c / 10 ^ j) (nd c - j - n) = rup c (nd c - n) := by
    unfold rup
    rw [div_pp, div_pp, show j + (nd c - j - n) = nd c - n by omega, show j + (nd c - j - n - 1) = nd c - n - 1 by omega]
  unfold rnd
  rw [hd, hr, if_neg (show ¬ nd c ≤ n by omega), if_neg (show ¬ nd c - j ≤ n by omega), show e + (j : Int) + ((nd c - j - n : Nat) : Int) = e + ((nd c - n : Nat) : Int) by omega]
theorem dp_X {c : Nat} {e L : Int} (h : L ≤ e) (k : Nat) : dp c e (L + (k : Int)) = c * 10 ^ (e - L).toNat / 10 ^ k % 10 := by
  unfold dp
  by_cases q : e ≤ L + (k : Int)
  · rw [if_pos q]
    obtain ⟨a, ha⟩ : ∃ a, (e - L).toNat = a := ⟨_, rfl⟩
    obtain ⟨b, hb⟩ : ∃ b, (L + (k : Int) - e).toNat = b := ⟨_, rfl⟩
    have hk : k = a + b := by omega
    rw [ha, hb, hk, Nat.pow_add, ← Nat.div_div_eq_div_mul, Nat.mul_div_cancel _ (p10 a)]
  · rw [if_neg q]
    obtain ⟨a, ha⟩ : ∃ a, (e - L).toNat = k + (a + 1) := ⟨(e - L).toNat - k - 1, by omega⟩
    rw [ha, Nat.pow_add, Nat.mul_left_comm, Nat.mul_div_cancel_left _ (p10 k), Nat.pow_succ, ← Nat.mul_assoc, Nat.mul_mod_left]
def sX (c : Nat) (e L : Int) : Nat := c * 10 ^ (e - L).toNat
theorem sX_d {c : Nat} {e L : Int} (h : L ≤ e) (k : Nat) : dp c e (L + (k : Int)) = sX c e L / 10 ^ k % 10 := dp_X h k
theorem sX_lt {c : Nat} {e L : Int} {K : Nat} (h : L ≤ e) (hK : (nd c : Int) + e - L ≤ K) : sX c e L < 10 ^ K := by
  unfold sX
  have a : c * 10 ^ (e - L).toNat < 10 ^ nd c * 10 ^ (e - L).toNat := Nat.mul_lt_mul_of_pos_right (nd_lt c) (p10 _)
  rw [← Nat.pow_add] at a
  exact Nat.lt_of_lt_of_le a (Nat.pow_le_pow_right (by decide) (by omega))
theorem sX_ge {c : Nat} {e L : Int} {K : Nat} (hc : 0 < c) (h : L ≤ e) (hK : (K : Int) + 1 ≤ (nd c : Int) + e - L) : 10 ^ K ≤ sX c e L := by
  unfold sX
  have a : 10 ^ (nd c - 1) * 10 ^ (e - L).toNat ≤ c * 10 ^ (e - L).toNat := Nat.mul_le_mul_right _ (nd_le hc)
  rw [← Nat.pow_add] at a
  exact Nat.le_trans (Nat.pow_le_pow_right (by decide) (by have := nd_pos hc; omega)) a
theorem sX_pos {c : Nat} {e L : Int} (hc : 0 < c) : 0 < sX c e L := Nat.mul_pos hc (p10 _)
-- ===== digits with carries =====
def cyF (X Y : Nat) (g : Int) : Nat → Int
  | 0 => 0
  | k + 1 => if ((X / 10 ^ k % 10 : Nat) : Int) + g * ((Y / 10 ^ k % 10 : Nat) : Int) + cyF X Y g k < 0 then -1 else if ((X / 10 ^ k % 10 : Nat) : Int) + g * ((Y / 10 ^ k % 10 : Nat) : Int) + cyF X Y g k ≤ 9 then 0 else 1
def rkF (X Y : Nat) (g : Int) (k : Nat) : Int := ((X / 10 ^ k % 10 : Nat) : Int) + g * ((Y / 10 ^ k % 10 : Nat) : Int) + cyF X Y g k
theorem cyF_s (X Y : Nat) (g : Int) (k : Nat) : cyF X Y g (k + 1) = if rkF X Y g k < 0 then -1 else if rkF X Y g k ≤ 9 then 0 else 1 := rfl
def dgF (X Y : Nat) (g : Int) (k : Nat) : Nat := (rkF X Y g k - 10 * cyF X Y g (k + 1)).toNat
theorem cyF_b {X Y : Nat} {g : Int} (hg : g = 1 ∨ g = -1) : ∀ k, -1 ≤ cyF X Y g k ∧ cyF X Y g k ≤ 1 ∧ (g = 1 → 0 ≤ cyF X Y g k) ∧ (g = -1 → cyF X Y g k ≤ 0) ∧ -10 ≤ rkF X Y g k ∧ rkF X Y g k ≤ 19 ∧ (g = 1 → 0 ≤ rkF X Y g k) ∧ (g = -1 → rkF X Y g k ≤ 9) := by
  intro k
  have step : ∀ k, (-1 ≤ cyF X Y g k ∧ cyF X Y g k ≤ 1 ∧ (g = 1 → 0 ≤ cyF X Y g k) ∧ (g = -1 → cyF X Y g k ≤ 0)) → (-10 ≤ rkF X Y g k ∧ rkF X Y g k ≤ 19 ∧ (g = 1 → 0 ≤ rkF X Y g k) ∧ (g = -1 → rkF X Y g k ≤ 9)) := by
    intro k ih
    have a := Nat.mod_lt (X / 10 ^ k) (show 10 > 0 by decide)
    have b := Nat.mod_lt (Y / 10 ^ k) (show 10 > 0 by decide)
    unfold rkF
    rcases hg with q | q
    · rw [q] at ih ⊢
      rw [Int.one_mul]
      omega
    · rw [q] at ih ⊢
      rw [Int.neg_mul, Int.one_mul]
      omega
  induction k with
  | zero =>
    have z : cyF X Y g 0 = 0 := rfl
    have h0 : -1 ≤ cyF X Y g 0 ∧ cyF X Y g 0 ≤ 1 ∧ (g = 1 → 0 ≤ cyF X Y g 0) ∧ (g = -1 → cyF X Y g 0 ≤ 0) := by
      rw [z]
      omega
    have := step 0 h0
    omega
  | succ k ih =>
    have h1 : -1 ≤ cyF X Y g (k + 1) ∧ cyF X Y g (k + 1) ≤ 1 ∧ (g = 1 → 0 ≤ cyF X Y g (k + 1)) ∧ (g = -1 → cyF X Y g (k + 1) ≤ 0) := by
      rw [cyF_s]
      by_cases q : rkF X Y g k < 0
      · rw [if_pos q]
        omega
      · rw [if_neg q]
        by_cases q2 : rkF X Y g k ≤ 9
        · rw [if_pos q2]
          omega
        · rw [if_neg q2]
          omega
    have := step (k + 1) h1
    omega
theorem dgF_p {X Y : Nat} {g : Int} (hg : g = 1 ∨ g = -1) (k : Nat) : (dgF X Y g k : Int) = rkF X Y g k - 10 * cyF X Y g (k + 1) ∧ dgF X Y g k < 10 := by
  have a := cyF_b (X := X) (Y := Y) hg k
  unfold dgF
  rw [cyF_s]
  by_cases q : rkF X Y g k < 0
  · rw [if_pos q]
    omega
  · rw [if_neg q]
    by_cases q2 : rkF X Y g k ≤ 9
    · rw [if_pos q2]
      omega
    · rw [if_neg q2]
      omega
theorem alg1 (L cy P Xm Ym x y dg cy' g : Int) (h1 : L + cy * P = Xm + g * Ym) (h2 : dg = x + g * y + cy - 10 * cy') : L + dg * P + cy' * (P * 10) = Xm + P * x + g * (Ym + P * y) := by
  subst h2
  have e1 : (x + g * y + cy - 10 * cy') * P = x * P + g * y * P + cy * P - 10 * cy' * P := by rw [Int.sub_mul, Int.add_mul, Int.add_mul]
  have e2 : cy' * (P * 10) = 10 * cy' * P := by rw [Int.mul_comm P 10, ← Int.mul_assoc, Int.mul_comm cy' 10]
  have e3 : P * x = x * P := Int.mul_comm _ _
  have e4 : g * (Ym + P * y) = g * Ym + g * y * P := by rw [Int.mul_add, Int.mul_comm P y, ← Int.mul_assoc]
  rw [e1, e2, e3, e4]
  omega
theorem le_dgF {X Y : Nat} {g : Int} (hg : g = 1 ∨ g = -1) : ∀ k, (le (dgF X Y g) k : Int) + cyF X Y g k * ((10 ^ k : Nat) : Int) = ((X % 10 ^ k : Nat) : Int) + g * ((Y % 10 ^ k : Nat) : Int)
  | 0 => by
    have z : cyF X Y g 0 = 0 := rfl
    rw [z, Nat.pow_zero, Nat.mod_one, Nat.mod_one]
    show ((0 : Nat) : Int) + 0 * _ = ((0 : Nat) : Int) + g * ((0 : Nat) : Int)
    simp
  | k + 1 => by
    have ih := le_dgF (X := X) (Y := Y) hg k
    have hd := (dgF_p (X := X) (Y := Y) hg k).1
    have A := alg1 _ _ _ _ _ ((X / 10 ^ k % 10 : Nat) : Int) ((Y / 10 ^ k % 10 : Nat) : Int) (dgF X Y g k : Int) (cyF X Y g (k + 1)) _ ih (by rw [hd]; rfl)
    rw [le_s, Nat.mod_pow_succ, Nat.mod_pow_succ, Nat.pow_succ]
    simp only [Int.natCast_add, Int.natCast_mul] at A ⊢
    exact A
theorem le_sum {X Y K : Nat} {g : Int} (hg : g = 1 ∨ g = -1) (hX : X < 10 ^ K) (hY : Y < 10 ^ K) (h0 : 0 ≤ (X : Int) + g * (Y : Int)) (h1 : (X : Int) + g * (Y : Int) < ((10 ^ K : Nat) : Int)) : (le (dgF X Y g) K : Int) = (X : Int) + g * (Y : Int) := by
  have a := le_dgF (X := X) (Y := Y) hg K
  rw [Nat.mod_eq_of_lt hX, Nat.mod_eq_of_lt hY] at a
  have b := cyF_b (X := X) (Y := Y) hg K
  have c := le_lt (c := dgF X Y g) (n := K) (fun k _ => (dgF_p hg k).2)
  have d : cyF X Y g K = -1 ∨ cyF X Y g K = 0 ∨ cyF X Y g K = 1 := by omega
  rcases d with d | d | d
  · rw [d] at a
    omega
  · rw [d] at a
    omega
  · rw [d] at a
    omega
theorem le_dig {f : Nat → Nat} {k : Nat} : ∀ {w : Nat}, (∀ q, q < w → f q < 10) → k < w → le f w / 10 ^ k % 10 = f k
  | 0, _, hk => absurd hk (Nat.not_lt_zero k)
  | w + 1, hf, hk => by
    rw [le_s]
    have hw := le_lt (c := f) (n := w) (fun q hq => hf q (by omega))
    by_cases q : k = w
    · rw [q, Nat.add_mul_div_right _ _ (p10 w), Nat.div_eq_of_lt hw, Nat.zero_add, Nat.mod_eq_of_lt (hf w (by omega))]
    · have e : f w * 10 ^ w = f w * 10 ^ (w - k - 1) * 10 * 10 ^ k := by
        rw [Nat.mul_assoc, Nat.mul_assoc, ← Nat.pow_succ', ← Nat.pow_add]
        congr 2
        omega
      rw [e, Nat.add_mul_div_right _ _ (p10 k), Nat.add_mul_mod_self_right]
      exact le_dig (fun q hq => hf q (by omega)) (by omega)
-- ===== the first difference from the top =====
def cmpF (X Y : Nat) : Nat → Int
  | 0 => 0
  | m + 1 => if X / 10 ^ m % 10 = Y / 10 ^ m % 10 then cmpF X Y m else ((X / 10 ^ m % 10 : Nat) : Int) - ((Y / 10 ^ m % 10 : Nat) : Int)
theorem cmpF_b (X Y : Nat) : ∀ m, -9 ≤ cmpF X Y m ∧ cmpF X Y m ≤ 9
  | 0 => ⟨by show -9 ≤ (0 : Int); decide, by show (0 : Int) ≤ 9; decide⟩
  | m + 1 => by
    have a := Nat.mod_lt (X / 10 ^ m) (show 10 > 0 by decide)
    have b := Nat.mod_lt (Y / 10 ^ m) (show 10 > 0 by decide)
    unfold cmpF
    split
    · exact cmpF_b X Y m
    · omega
theorem cmpF_lt {X Y : Nat} : ∀ m, X / 10 ^ m = Y / 10 ^ m → (cmpF X Y m < 0 ↔ X < Y)
  | 0, h => by
    rw [Nat.pow_zero, Nat.div_one, Nat.div_one] at h
    show (0 : Int) < 0 ↔ _
    omega
  | m + 1, h => by
    have ex : X / 10 ^ (m + 1) = X / 10 ^ m / 10 := by rw [Nat.pow_succ, Nat.div_div_eq_div_mul]
    have ey : Y / 10 ^ (m + 1) = Y / 10 ^ m / 10 := by rw [Nat.pow_succ, Nat.div_div_eq_div_mul]
    rw [ex, ey] at h
    unfold cmpF
    by_cases q : X / 10 ^ m % 10 = Y / 10 ^ m % 10
    · rw [if_pos q]
      exact cmpF_lt m (by omega)
    · rw [if_neg q]
      constructor
      · intro z
        have : X / 10 ^ m < Y / 10 ^ m := by omega
        rcases Nat.lt_or_ge X Y with w | w
        · exact w
        · have := Nat.div_le_div_right (c := 10 ^ m) w
          omega
      · intro z
        have := Nat.div_le_div_right (c := 10 ^ m) (Nat.le_of_lt z)
        omega
-- ===== the sum =====
def lwE (t u : Int × Nat × Int) : Int := if u.2.2 ≤ t.2.2 then u.2.2 else t.2.2
theorem lwE_p (t u : Int × Nat × Int) : lwE t u ≤ t.2.2 ∧ lwE t u ≤ u.2.2 ∧ (lwE t u = t.2.2 ∨ lwE t u = u.2.2) := by
  unfold lwE
  split <;> omega
def exS (t u : Int × Nat × Int) : Int × Nat × Int := if u.2.1 = 0 then t else if t.2.1 = 0 then u else if t.1 = u.1 then nrm t.1 (sX t.2.1 t.2.2 (lwE t u) + sX u.2.1 u.2.2 (lwE t u)) (lwE t u) else if sX t.2.1 t.2.2 (lwE t u) < sX u.2.1 u.2.2 (lwE t u) then nrm u.1 (sX u.2.1 u.2.2 (lwE t u) - sX t.2.1 t.2.2 (lwE t u)) (lwE t u) else nrm t.1 (sX t.2.1 t.2.2 (lwE t u) - sX u.2.1 u.2.2 (lwE t u)) (lwE t u)
theorem isN_nrm {h : Hp} {i c : Nat} {s e : Int} (N : isN h i (if c = 0 then 0 else s) c (if c = 0 then 0 else e)) : isN h i (nrm s c e).1 (nrm s c e).2.1 (nrm s c e).2.2 := by
  unfold nrm
  by_cases q : c = 0
  · rw [if_pos q] at N ⊢
    rw [if_pos q, q] at N
    exact N
  · rw [if_neg q] at N ⊢
    rw [if_neg q] at N
    exact N
-- ===== the class: cells =====
theorem K_fill {i j c1 c2 K X Y : Nat} {s1 s2 e1 e2 L g : Int} (hi : i ≠ 35) (hi1 : i + 1 ≠ 35) (hj : j ≠ 35) (hj1 : j + 1 ≠ 35) (hg : g = 1 ∨ g = -1) (b1 : -1000000 ≤ e1 ∧ e1 ≤ 1000000) (b2 : -1000000 ≤ e2 ∧ e2 ≤ 1000000) (bL : -1000000 ≤ L ∧ L ≤ 1000000) (hX : ∀ k : Nat, dp c1 e1 (L + (k : Int)) = X / 10 ^ k % 10) (hY : ∀ k : Nat, dp c2 e2 (L + (k : Int)) = Y / 10 ^ k % 10) (hK : K ≤ 100) : ∀ (m k n : Nat) (h : Hp), k + m = K → m < n → isN h i s1 c1 e1 → isN h j s2 c2 e2 → (∀ q, q < k → h 35 q = iI (dgF X Y g q : Int)) → ∃ h', f_K_fillCells_6 n i j (iI g) (iI L) (iI (K : Int)) (iI (cyF X Y g k)) (iI (k : Int)) h = some ((), h') ∧ (∀ q, q < K → h' 35 q = iI (dgF X Y g q : Int)) ∧ ∀ y, y ≠ 35 → h' y = h y := by
  intro m
  induction m with
  | zero =>
    intro k n h hk hn N1 N2 F
    obtain ⟨n, rfl⟩ : ∃ q, n = q + 1 := ⟨n - 1, by omega⟩
    rw [f_K_fillCells_6, if_pos (leN (by omega) (by omega) (by omega))]
    exact ⟨h, rfl, fun q hq => F q (by omega), fun _ _ => rfl⟩
  | succ m ih =>
    intro k n h hk hn N1 N2 F
    obtain ⟨n, rfl⟩ : ∃ q, n = q + 1 := ⟨n - 1, by omega⟩
    have cb := cyF_b (X := X) (Y := Y) hg k
    rw [f_K_fillCells_6, if_neg (nleN (by omega) (by omega) (by omega)), iI_ofNat, if_neg (nleN (by omega) (by omega) (by omega)), iI_add, bd_t (N_digitAtPower N1 (by omega) (by omega)), bd_t (N_digitAtPower N2 (by omega) (by omega)), hX k, hY k, iI_mul, iI_add, iI_add, show ((X / 10 ^ k % 10 : Nat) : Int) + g * ((Y / 10 ^ k % 10 : Nat) : Int) + cyF X Y g k = rkF X Y g k from rfl]
    have go : ∀ s0 : Int32, s0 = iI (cyF X Y g (k + 1)) → ∃ h', f_K_fillCells_70 (fun v1 v2 v3 v4 v5 v6 v7 h => f_K_fillCells_6 n v1 v2 v3 v4 v5 v6 v7 h) i j (iI g) (iI L) (iI (K : Int)) (iI (k : Int)) (iI (rkF X Y g k)) s0 h = some ((), h') ∧ (∀ q, q < K → h' 35 q = iI (dgF X Y g q : Int)) ∧ ∀ y, y ≠ 35 → h' y = h y := by
      intro s0 hs
      unfold f_K_fillCells_70
      rw [chk_t (iI_inR (by omega) (by omega) (by omega)), hs, scN, clN (by omega), show (10 : Int32) = iI 10 from rfl, iI_mul, iI_sub, ← (dgF_p (X := X) (Y := Y) hg k).1]
      obtain ⟨h', e', a', b'⟩ := ih (k + 1) n (up2 h 35 k (iI (dgF X Y g k : Int))) (by omega) (by omega) (isN_eq N1 (up2_ne _ _ _ hi) (up2_ne _ _ _ hi1)) (isN_eq N2 (up2_ne _ _ _ hj) (up2_ne _ _ _ hj1)) (fun q hq => by
        by_cases z : q = k
        · rw [z, up2_s]
        · rw [up2_k _ _ _ z]
          exact F q (by omega))
      exact ⟨h', e', a', fun y hy => by rw [b' y hy, up2_ne _ _ _ hy]⟩
    by_cases q : rkF X Y g k < 0
    · rw [if_neg (by rw [i0, iI_le ⟨by omega, by omega⟩ ⟨by omega, by omega⟩]; omega)]
      exact go _ (by rw [cyF_s, if_pos q, im1])
    · rw [if_pos (by rw [i0, iI_le ⟨by omega, by omega⟩ ⟨by omega, by omega⟩]; omega)]
      by_cases q2 : rkF X Y g k ≤ 9
      · rw [if_pos (by rw [show (9 : Int32) = iI 9 from rfl, iI_le ⟨by omega, by omega⟩ ⟨by omega, by omega⟩]; omega)]
        exact go _ (by rw [cyF_s, if_neg q, if_pos q2]; rfl)
      · rw [if_neg (by rw [show (9 : Int32) = iI 9 from rfl, iI_le ⟨by omega, by omega⟩ ⟨by omega, by omega⟩]; omega)]
        exact go _ (by rw [cyF_s, if_neg q, if_neg q2]; rfl)
theorem K_take_loop {i w : Nat} {f : Nat → Nat} {s e : Int} (hf : ∀ q, q < w → f q < 10) (hw : w ≤ 100) (hl : 100 ≤ il (i + 1)) (hi : i ≠ 35) (hi1 : i + 1 ≠ 35) : ∀ (m n : Nat) (h : Hp), m ≤ w → m < n → isD h i (le f w / 10 ^ m) → (∀ q, q < w → h 35 q = iI (f q : Int)) → ∃ h', f_K_takeCells_18 n (iI e) (iI s) i (iI ((m : Int) - 1)) h = some ((), h') ∧ isN h' i (if le f w = 0 then 0 else s) (le f w) (if le f w = 0 then 0 else e) ∧ kp h h' i (i + 1) := by
  intro m
  induction m with
  | zero =>
    intro n h hm hn D F
    obtain ⟨n, rfl⟩ : ∃ q, n = q + 1 := ⟨n - 1, by omega⟩
    rw [f_K_takeCells_18, if_pos (by rw [i0, iI_lt ⟨by omega, by omega⟩ ⟨by omega, by omega⟩]; omega)]
    rw [Nat.pow_zero, Nat.div_one] at D
    obtain ⟨h1, e1, N1, k1⟩ := N_settle (s := s) (e := e) D
    rw [bd_t e1]
    exact ⟨h1, rfl, N1, k1⟩
  | succ m ih =>
    intro n h hm hn D F
    obtain ⟨n, rfl⟩ : ∃ q, n = q + 1 := ⟨n - 1, by omega⟩
    have em : ((m + 1 : Nat) : Int) - 1 = (m : Int) := by omega
    have en : 10 * (le f w / 10 ^ (m + 1)) + f m = le f w / 10 ^ m := by
      rw [← le_dig hf (show m < w by omega), Nat.pow_succ, ← Nat.div_div_eq_div_mul]
      exact Nat.div_add_mod _ _
    have hb : nd (10 * (le f w / 10 ^ (m + 1)) + f m) ≤ il (i + 1) := by
      rw [en]
      have a := nd_mono (Nat.div_le_self (le f w) (10 ^ m))
      have b := nd_le_of (le_lt hf)
      omega
    rw [f_K_takeCells_18, em, if_neg (by rw [i0, iI_lt ⟨by omega, by omega⟩ ⟨by omega, by omega⟩]; omega), chk_t (iI_inR (by omega) (by omega) (by omega)), clN (by omega), F m (by omega)]
    obtain ⟨h1, e1, D1, k1⟩ := N_push D (hf m (by omega)) hb
    rw [en] at D1
    rw [bd_t e1, im1, iI_add]
    obtain ⟨h2, e2, N2, k2⟩ := ih n h1 (by omega) (by omega) D1 (fun q hq => by rw [k1.1 35 (fun z => hi z.symm) (fun z => hi1 z.symm)]; exact F q hq)
    exact ⟨h2, e2, N2, kp_t k1.1 k2⟩
theorem K_take {i w : Nat} {f : Nat → Nat} {s e : Int} {h : Hp} (hf : ∀ q, q < w → f q < 10) (hw : w ≤ 100) (hl : 100 ≤ il (i + 1)) (hi : i ≠ 35) (hi1 : i + 1 ≠ 35) (F : ∀ q, q < w → h 35 q = iI (f q : Int)) : ∃ h', f_K_takeCells (iI (w : Int)) (iI e) (iI s) i h = some ((), h') ∧ isN h' i (nrm s (le f w) e).1 (nrm s (le f w) e).2.1 (nrm s (le f w) e).2.2 ∧ kp h h' i (i + 1) := by
  obtain ⟨h1, e1, N1, k1⟩ := N_clear h i
  unfold f_K_takeCells
  rw [bd_t e1, iI_ofNat, if_neg (by rw [iI_lt ⟨by omega, by omega⟩ ⟨by omega, by omega⟩]; omega), i1, iI_sub]
  obtain ⟨h2, e2, N2, k2⟩ := K_take_loop (s := s) (e := e) hf hw hl hi hi1 w fuel h1 (Nat.le_refl _) (by unfold fuel; omega) (by rw [Nat.div_eq_of_lt (le_lt hf)]; exact N1.1) (fun q hq => by rw [k1 35 (fun z => hi z.symm) (fun z => hi1 z.symm)]; exact F q hq)
  exact ⟨h2, e2, isN_nrm N2, kp_t k1 k2⟩
theorem dz_dp {c : Nat} {e : Int} (k : Nat) : dz c (k : Int) = dp c e ((nd c : Int) + e - 1 - (k : Int)) := by
  unfold dz dp dg
  by_cases q : k < nd c
  · rw [if_pos (by omega), if_pos (by omega), Int.toNat_natCast, show ((nd c : Int) + e - 1 - (k : Int) - e).toNat = nd c - 1 - k by omega]
  · rw [if_neg (by omega), if_neg (by omega)]
theorem K_below_loop {i j c1 c2 M X Y : Nat} {s1 s2 e1 e2 L : Int} {h : Hp} (hA : (nd c1 : Int) + e1 = (nd c2 : Int) + e2) (hM : (M : Int) = (nd c1 : Int) + e1 - L) (hM2 : M ≤ 1000) (hX : ∀ k : Nat, dp c1 e1 (L + (k : Int)) = X / 10 ^ k % 10) (hY : ∀ k : Nat, dp c2 e2 (L + (k : Int)) = Y / 10 ^ k % 10) (N1 : isN h i s1 c1 e1) (N2 : isN h j s2 c2 e2) : ∀ (m k n : Nat), k + m = M → m + 1 < n → f_K_isBelow_45 n i j (iI (M : Int)) 0 (iI (k : Int)) h = some (iI (if cmpF X Y m < 0 then 1 else 0), h) := by
  intro m
  induction m with
  | zero =>
    intro k n hk hn
    obtain ⟨n, rfl⟩ : ∃ q, n = q + 1 := ⟨n - 1, by omega⟩
    rw [f_K_isBelow_45, if_pos (leN (by omega) (by omega) (by omega)), if_pos (by decide), if_neg (show ¬ cmpF _ _ 0 < 0 from fun z => absurd (show (0 : Int) < 0 from z) (by decide))]
    rfl
  | succ m ih =>
    intro k n hk hn
    obtain ⟨n, rfl⟩ : ∃ q, n = q + 2 := ⟨n - 2, by omega⟩
    have a := Nat.mod_lt (X / 10 ^ m) (show 10 > 0 by decide)
    have b := Nat.mod_lt (Y / 10 ^ m) (show 10 > 0 by decide)
    have x1 : dz c1 (k : Int) = X / 10 ^ m % 10 := by
      rw [dz_dp (e := e1), ← hX m]
      congr 1
      omega
    have y1 : dz c2 (k : Int) = Y / 10 ^ m % 10 := by
      rw [dz_dp (e := e2), ← hY m]
      congr 1
      omega
    rw [f_K_isBelow_45, if_neg (nleN (by omega) (by omega) (by omega)), if_pos rfl, bd_t (N_digit N1.1 ⟨by omega, by omega⟩), bd_t (N_digit N2.1 ⟨by omega, by omega⟩), x1, y1, iI_sub, scN]
    by_cases q : X / 10 ^ m % 10 = Y / 10 ^ m % 10
    · have ec : cmpF X Y (m + 1) = cmpF X Y m := if_pos q
      rw [ec, q, Int.sub_self]
      exact ih (k + 1) (n + 1) (by omega) (by omega)
    · have ec : cmpF X Y (m + 1) = ((X / 10 ^ m % 10 : Nat) : Int) - ((Y / 10 ^ m % 10 : Nat) : Int) := if_neg q
      rw [ec, f_K_isBelow_45]
      have fin : (if 0 ≤ iI (((X / 10 ^ m % 10 : Nat) : Int) - ((Y / 10 ^ m % 10 : Nat) : Int)) then some ((0 : Int32), h) else some (1, h)) = some (iI (if ((X / 10 ^ m % 10 : Nat) : Int) - ((Y / 10 ^ m % 10 : Nat) : Int) < 0 then 1 else 0), h) := by
        by_cases z : ((X / 10 ^ m % 10 : Nat) : Int) - ((Y / 10 ^ m % 10 : Nat) : Int) < 0
        · rw [if_neg (by rw [i0, iI_le ⟨by omega, by omega⟩ ⟨by omega, by omega⟩]; omega), if_pos z]
          rfl
        · rw [if_pos (by rw [i0, iI_le ⟨by omega, by omega⟩ ⟨by omega, by omega⟩]; omega), if_neg z]
          rfl
      by_cases w : M ≤ k + 1
      · rw [if_pos (leN (by omega) (by omega) w)]
        exact fin
      · rw [if_neg (nleN (by omega) (by omega) (by omega)), if_neg (by rw [i0, iI_eq ⟨by omega, by omega⟩ ⟨by omega, by omega⟩]; omega)]
        exact fin
theorem K_below {i j : Nat} {t u : Int × Nat × Int} {s1 s2 : Int} {h : Hp} (ht : 0 < t.2.1) (hu : 0 < u.2.1) (bt1 : -1000000 ≤ t.2.2 ∧ t.2.2 ≤ 1000000) (bu1 : -1000000 ≤ u.2.2 ∧ u.2.2 ≤ 1000000) (nt : nd t.2.1 ≤ 500) (nu : nd u.2.1 ≤ 500) (N1 : isN h i s1 t.2.1 t.2.2) (N2 : isN h j s2 u.2.1 u.2.2) : f_K_isBelow i j h = some (iI (if sX t.2.1 t.2.2 (lwE t u) < sX u.2.1 u.2.2 (lwE t u) then 1 else 0), h) := by
  obtain ⟨l1, l2, l3⟩ := lwE_p t u
  have pt := nd_pos ht
  have pu := nd_pos hu
  unfold f_K_isBelow
  rw [bd_t (N_ahead N1), bd_t (N_ahead N2)]
  by_cases q : (nd t.2.1 : Int) + t.2.2 = (nd u.2.1 : Int) + u.2.2
  · rw [if_pos (by rw [q]), N1.1.1, N2.1.1, mx_iI (by omega) (by omega)]
    have hM : ((max (nd t.2.1) (nd u.2.1) : Nat) : Int) = (nd t.2.1 : Int) + t.2.2 - lwE t u := by omega
    have lp := K_below_loop (X := sX t.2.1 t.2.2 (lwE t u)) (Y := sX u.2.1 u.2.2 (lwE t u)) q hM (by omega) (sX_d l1) (sX_d l2) N1 N2 (max (nd t.2.1) (nd u.2.1)) 0 fuel (by omega) (by unfold fuel; omega)
    have c := cmpF_lt (X := sX t.2.1 t.2.2 (lwE t u)) (Y := sX u.2.1 u.2.2 (lwE t u)) (max (nd t.2.1) (nd u.2.1)) (by
      rw [Nat.div_eq_of_lt (sX_lt l1 (by omega)), Nat.div_eq_of_lt (sX_lt l2 (by omega))])
    rw [ifq c] at lp
    exact lp
  · rw [if_neg (by rw [iI_eq ⟨by omega, by omega⟩ ⟨by omega, by omega⟩]; exact q), bd_t (N_ahead N1), bd_t (N_ahead N2)]
    by_cases q2 : (nd u.2.1 : Int) + u.2.2 ≤ (nd t.2.1 : Int) + t.2.2
    · have a := sX_lt (c := u.2.1) (K := ((nd u.2.1 : Int) + u.2.2 - lwE t u).toNat) l2 (by omega)
      have b := sX_ge (c := t.2.1) (K := ((nd u.2.1 : Int) + u.2.2 - lwE t u).toNat) ht l1 (by omega)
      rw [if_pos (by rw [iI_le ⟨by omega, by omega⟩ ⟨by omega, by omega⟩]; exact q2), if_neg (by omega)]
      rfl
    · have a := sX_lt (c := t.2.1) (K := ((nd t.2.1 : Int) + t.2.2 - lwE t u).toNat) l1 (by omega)
      have b := sX_ge (c := u.2.1) (K := ((nd t.2.1 : Int) + t.2.2 - lwE t u).toNat) hu l2 (by omega)
      rw [if_neg (by rw [iI_le ⟨by omega, by omega⟩ ⟨by omega, by omega⟩]; exact q2), if_pos (by omega)]
      rfl
