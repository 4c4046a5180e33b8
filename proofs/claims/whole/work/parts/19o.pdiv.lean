/-! PURE 23: the class's long division -/
/-- the first T digits of c, with zeros behind them -/
def pfx (c T : Nat) : Nat := if T ≤ nd c then c / 10 ^ (nd c - T) else c * 10 ^ (T - nd c)
theorem pfx_0 (c : Nat) : pfx c 0 = 0 := by
  unfold pfx
  rw [if_pos (Nat.zero_le _), Nat.sub_zero, Nat.div_eq_of_lt (nd_lt c)]
theorem pfx_s (c T : Nat) : pfx c (T + 1) = 10 * pfx c T + dz c (T : Int) := by
  unfold pfx dz dg
  by_cases q : T + 1 ≤ nd c
  · rw [if_pos q, if_pos (by omega), if_pos (by omega), Int.toNat_natCast, show nd c - 1 - T = nd c - (T + 1) by omega, show nd c - T = (nd c - (T + 1)) + 1 by omega, Nat.pow_succ, ← Nat.div_div_eq_div_mul]
    exact (Nat.div_add_mod _ _).symm
  · rw [if_neg q, if_neg (show ¬ ((0 : Int) ≤ (T : Int) ∧ (T : Int) < (nd c : Int)) by omega), Nat.add_zero]
    by_cases w : T ≤ nd c
    · rw [if_pos w, show nd c - T = 0 by omega, show T + 1 - nd c = 1 by omega, Nat.pow_zero, Nat.div_one, Nat.pow_one, Nat.mul_comm]
      rfl
    · rw [if_neg w, show T + 1 - nd c = (T - nd c) + 1 by omega, Nat.pow_succ, ← Nat.mul_assoc, Nat.mul_comm]
      rfl
theorem pfx_ge {c T : Nat} (hc : 0 < c) (hT : 0 < T) : 10 ^ (T - 1) ≤ pfx c T := by
  have a := nd_le hc
  have p := nd_pos hc
  unfold pfx
  by_cases q : T ≤ nd c
  · rw [if_pos q, Nat.le_div_iff_mul_le (p10 _), ← Nat.pow_add, show T - 1 + (nd c - T) = nd c - 1 by omega]
    exact a
  · rw [if_neg q, show T - 1 = (nd c - 1) + (T - nd c) by omega, Nat.pow_add]
    exact Nat.mul_le_mul_right _ a
theorem pfx_div {c T : Nat} (k : Nat) : pfx c (T + k) / 10 ^ k = pfx c T := by
  induction k with
  | zero => rw [Nat.pow_zero, Nat.div_one, Nat.add_zero]
  | succ k ih =>
    rw [show T + (k + 1) = (T + k) + 1 by omega, pfx_s, Nat.pow_succ', ← Nat.div_div_eq_div_mul, Nat.mul_add_div (by decide), Nat.div_eq_of_lt (dz_lt c _), Nat.add_zero, ih]
/-- the first T from there on with most digits of quotient; at most m further -/
def qT (most c1 c2 : Nat) : Nat → Nat → Nat
  | 0, T => T
  | m + 1, T => if most ≤ nd (pfx c1 T / c2) then T else qT most c1 c2 m (T + 1)
theorem qT_le (most c1 c2 : Nat) : ∀ m T, T ≤ qT most c1 c2 m T ∧ qT most c1 c2 m T ≤ T + m
  | 0, T => ⟨Nat.le_refl _, Nat.le_refl _⟩
  | m + 1, T => by
    unfold qT
    split
    · omega
    · have := qT_le most c1 c2 m (T + 1)
      omega
/-- the two rows of the division -/
def isB (h : Hp) (i w c : Nat) : Prop := c < 10 ^ w ∧ ∀ k, k < w → h i k = iI (dg c w k : Int)
theorem isB_eq {h h' : Hp} {i w c : Nat} (B : isB h i w c) (e : h' i = h i) : isB h' i w c := ⟨B.1, fun k hk => by rw [e]; exact B.2 k hk⟩
theorem isB_of {h : Hp} {i w c : Nat} {f : Nat → Nat} (hf : ∀ k, k < w → f k < 10) (ha : ∀ k, k < w → h i k = iI (f k : Int)) (hc : dv f w = c) : isB h i w c := by
  refine ⟨by rw [← hc]; exact dv_lt hf, fun k hk => ?_⟩
  rw [ha k hk, ← hc, ← dv_dg hk hf]
theorem dg_top {c w k : Nat} (hk : k < w) : dg c w k = c / 10 ^ (w - (k + 1)) % 10 := by
  unfold dg
  rw [show w - 1 - k = w - (k + 1) by omega]
-- ===== is it enough? =====
theorem K_holds_loop {w A B : Nat} {h : Hp} (hw : w ≤ 100) (B1 : isB h 37 w A) (B2 : isB h 36 w B) : ∀ (m k n : Nat), k + m = w → m + 1 < n → f_K_holdsDivisor_4 n (iI (w : Int)) 0 (iI (k : Int)) h = some (iI (if cmpF A B m < 0 then 0 else 1), h) := by
  intro m
  induction m with
  | zero =>
    intro k n hk hn
    obtain ⟨n, rfl⟩ : ∃ q, n = q + 1 := ⟨n - 1, by omega⟩
    rw [f_K_holdsDivisor_4, if_pos (leN (by omega) (by omega) (by omega)), if_neg (by decide), if_neg (show ¬ cmpF _ _ 0 < 0 from fun z => absurd (show (0 : Int) < 0 from z) (by decide))]
    rfl
  | succ m ih =>
    intro k n hk hn
    obtain ⟨n, rfl⟩ : ∃ q, n = q + 2 := ⟨n - 2, by omega⟩
    have a := Nat.mod_lt (A / 10 ^ m) (show 10 > 0 by decide)
    have b := Nat.mod_lt (B / 10 ^ m) (show 10 > 0 by decide)
    have x1 : dg A w k = A / 10 ^ m % 10 := by rw [dg_top (by omega), show w - (k + 1) = m by omega]
    have y1 : dg B w k = B / 10 ^ m % 10 := by rw [dg_top (by omega), show w - (k + 1) = m by omega]
    rw [f_K_holdsDivisor_4, if_neg (nleN (by omega) (by omega) (by omega)), if_pos rfl, chk_t (iI_inR (by omega) (by omega) (by omega)), chk_t (iI_inR (by omega) (by omega) (by omega)), clN (by omega), B1.2 k (by omega), B2.2 k (by omega), x1, y1, iI_sub, scN]
    by_cases q : A / 10 ^ m % 10 = B / 10 ^ m % 10
    · have ec : cmpF A B (m + 1) = cmpF A B m := if_pos q
      rw [ec, q, Int.sub_self]
      exact ih (k + 1) (n + 1) (by omega) (by omega)
    · have ec : cmpF A B (m + 1) = ((A / 10 ^ m % 10 : Nat) : Int) - ((B / 10 ^ m % 10 : Nat) : Int) := if_neg q
      rw [ec, f_K_holdsDivisor_4]
      have fin : (if iI (((A / 10 ^ m % 10 : Nat) : Int) - ((B / 10 ^ m % 10 : Nat) : Int)) < 0 then some ((0 : Int32), h) else some (1, h)) = some (iI (if ((A / 10 ^ m % 10 : Nat) : Int) - ((B / 10 ^ m % 10 : Nat) : Int) < 0 then 0 else 1), h) := by
        by_cases z : ((A / 10 ^ m % 10 : Nat) : Int) - ((B / 10 ^ m % 10 : Nat) : Int) < 0
        · rw [if_pos (by rw [i0, iI_lt ⟨by omega, by omega⟩ ⟨by omega, by omega⟩]; omega), if_pos z]
          rfl
        · rw [if_neg (by rw [i0, iI_lt ⟨by omega, by omega⟩ ⟨by omega, by omega⟩]; omega), if_neg z]
          rfl
      by_cases v : w ≤ k + 1
      · rw [if_pos (leN (by omega) (by omega) v)]
        exact fin
      · rw [if_neg (nleN (by omega) (by omega) (by omega)), if_neg (by rw [i0, iI_eq ⟨by omega, by omega⟩ ⟨by omega, by omega⟩]; omega)]
        exact fin
theorem K_holds {w A B : Nat} {h : Hp} (hw : w ≤ 100) (B1 : isB h 37 w A) (B2 : isB h 36 w B) : f_K_holdsDivisor (iI (w : Int)) h = some (iI (if A < B then 0 else 1), h) := by
  have c := cmpF_lt (X := A) (Y := B) w (by rw [Nat.div_eq_of_lt B1.1, Nat.div_eq_of_lt B2.1])
  unfold f_K_holdsDivisor
  have := K_holds_loop hw B1 B2 w 0 fuel (by omega) (by unfold fuel; omega)
  rw [ifq c] at this
  exact this
-- ===== take away once =====
theorem dgF_dg {A B w k : Nat} (h : A ≤ B) (hB : B < 10 ^ w) (hk : k < w) : dgF B A (-1) k = dg (B - A) w (w - 1 - k) := by
  have hg : (-1 : Int) = 1 ∨ (-1 : Int) = -1 := Or.inr rfl
  have l := le_sum (X := B) (Y := A) (K := w) hg hB (by omega) (by omega) (by omega)
  have d := le_dig (f := dgF B A (-1)) (w := w) (fun q _ => (dgF_p hg q).2) hk
  rw [show le (dgF B A (-1)) w = B - A by omega] at d
  unfold dg
  rw [show w - 1 - (w - 1 - k) = k by omega, d]
theorem K_once_loop {w A B : Nat} (hw : w ≤ 100) (hAB : B ≤ A) (hA : A < 10 ^ w) : ∀ (m k n : Nat) (h : Hp), k + m = w → m < n → (∀ q, q < m → h 37 q = iI (dg A w q : Int)) → (∀ q, q < w → h 36 q = iI (dg B w q : Int)) → (∀ q, m ≤ q → q < w → h 37 q = iI (dg (A - B) w q : Int)) → ∃ h', f_K_takeAwayOnce_6 n (iI (-(cyF A B (-1) k))) (iI ((m : Int) - 1)) h = some ((), h') ∧ (∀ q, q < w → h' 37 q = iI (dg (A - B) w q : Int)) ∧ ∀ y, y ≠ 37 → h' y = h y := by
  have hg : (-1 : Int) = 1 ∨ (-1 : Int) = -1 := Or.inr rfl
  intro m
  induction m with
  | zero =>
    intro k n h hk hn F1 F2 F3
    obtain ⟨n, rfl⟩ : ∃ q, n = q + 1 := ⟨n - 1, by omega⟩
    rw [f_K_takeAwayOnce_6, if_pos (by rw [i0, iI_lt ⟨by omega, by omega⟩ ⟨by omega, by omega⟩]; omega)]
    exact ⟨h, rfl, fun q hq => F3 q (by omega) hq, fun _ _ => rfl⟩
  | succ m ih =>
    intro k n h hk hn F1 F2 F3
    obtain ⟨n, rfl⟩ : ∃ q, n = q + 1 := ⟨n - 1, by omega⟩
    have em : ((m + 1 : Nat) : Int) - 1 = (m : Int) := by omega
    have cb := cyF_b (X := A) (Y := B) hg k
    have hd := dgF_p (X := A) (Y := B) hg k
    have hs := cyF_s A B (-1) k
    have x1 : dg A w m = A / 10 ^ k % 10 := by rw [dg_top (by omega), show w - (m + 1) = k by omega]
    have y1 : dg B w m = B / 10 ^ k % 10 := by rw [dg_top (by omega), show w - (m + 1) = k by omega]
    have er : ((A / 10 ^ k % 10 : Nat) : Int) - ((B / 10 ^ k % 10 : Nat) : Int) - -(cyF A B (-1) k) = rkF A B (-1) k := by
      unfold rkF
      omega
    have ed : dgF A B (-1) k = dg (A - B) w m := by
      rw [dgF_dg hAB hA (by omega), show w - 1 - k = m by omega]
    rw [f_K_takeAwayOnce_6, em, if_neg (by rw [i0, iI_lt ⟨by omega, by omega⟩ ⟨by omega, by omega⟩]; omega), chk_t (iI_inR (by omega) (by omega) (by omega)), chk_t (iI_inR (by omega) (by omega) (by omega)), clN (by omega), F1 m (by omega), F2 m (by omega), x1, y1, iI_sub, iI_sub, er]
    have go : ∀ s0 : Int32, s0 = iI (-(cyF A B (-1) (k + 1))) → ∃ h', f_K_takeAwayOnce_37 (fun v2 v3 h => f_K_takeAwayOnce_6 n v2 v3 h) (iI (m : Int)) (iI (rkF A B (-1) k)) s0 h = some ((), h') ∧ (∀ q, q < w → h' 37 q = iI (dg (A - B) w q : Int)) ∧ ∀ y, y ≠ 37 → h' y = h y := by
      intro s0 e0
      unfold f_K_takeAwayOnce_37
      rw [chk_t (iI_inR (by omega) (by omega) (by omega)), e0, clN (by omega), show (10 : Int32) = iI 10 from rfl, iI_mul, iI_add, im1, iI_add, show rkF A B (-1) k + 10 * -(cyF A B (-1) (k + 1)) = (dg (A - B) w m : Int) by rw [← ed]; omega, show (m : Int) + -1 = (m : Int) - 1 by omega]
      obtain ⟨h', e', a', b'⟩ := ih (k + 1) n (up2 h 37 m (iI (dg (A - B) w m : Int))) (by omega) (by omega) (fun q hq => by rw [up2_k _ _ _ (by omega)]; exact F1 q (by omega)) (fun q hq => by rw [up2_o _ _ _ _ (by omega)]; exact F2 q hq) (fun q h1 h2 => by
        by_cases z : q = m
        · rw [z, up2_s]
        · rw [up2_k _ _ _ z]
          exact F3 q (by omega) h2)
      exact ⟨h', e', a', fun y hy => by rw [b' y hy, up2_ne _ _ _ hy]⟩
    by_cases q : rkF A B (-1) k < 0
    · rw [if_neg (by rw [i0, iI_le ⟨by omega, by omega⟩ ⟨by omega, by omega⟩]; omega)]
      exact go _ (by rw [hs, if_pos q]; rfl)
    · rw [if_pos (by rw [i0, iI_le ⟨by omega, by omega⟩ ⟨by omega, by omega⟩]; omega)]
      exact go _ (by rw [hs, if_neg q, if_pos (by omega)]; rfl)
theorem K_once {w A B : Nat} {h : Hp} (hw : w ≤ 100) (hAB : B ≤ A) (B1 : isB h 37 w A) (B2 : isB h 36 w B) : ∃ h', f_K_takeAwayOnce (iI (w : Int)) h = some ((), h') ∧ isB h' 37 w (A - B) ∧ ∀ y, y ≠ 37 → h' y = h y := by
  unfold f_K_takeAwayOnce
  rw [i1, iI_sub]
  obtain ⟨h', e', a', b'⟩ := K_once_loop hw hAB B1.1 w 0 fuel h (by omega) (by unfold fuel; omega) (fun q hq => B1.2 q hq) (fun q hq => B2.2 q hq) (fun q h1 h2 => by omega)
  exact ⟨h', e', ⟨Nat.lt_of_le_of_lt (Nat.sub_le _ _) B1.1, a'⟩, b'⟩
theorem K_all_loop {w B : Nat} (hw : w ≤ 100) (hB : 0 < B) : ∀ (m k n A : Nat) (h : Hp), k + m = 9 → m < n → A < B * (m + 1) → isB h 37 w A → isB h 36 w B → ∃ h', f_K_takeAwayAll_2 n (iI (w : Int)) (iI (k : Int)) h = some (iI ((k + A / B : Nat) : Int), h') ∧ isB h' 37 w (A % B) ∧ ∀ y, y ≠ 37 → h' y = h y := by
  intro m
  induction m with
  | zero =>
    intro k n A h hk hn hA B1 B2
    obtain ⟨n, rfl⟩ : ∃ q, n = q + 1 := ⟨n - 1, by omega⟩
    rw [Nat.zero_add, Nat.mul_one] at hA
    rw [f_K_takeAwayAll_2, if_pos (by rw [show (9 : Int32) = iI 9 from rfl, iI_le ⟨by omega, by omega⟩ ⟨by omega, by omega⟩]; omega), Nat.div_eq_of_lt hA, Nat.mod_eq_of_lt hA]
    exact ⟨h, rfl, B1, fun _ _ => rfl⟩
  | succ m ih =>
    intro k n A h hk hn hA B1 B2
    obtain ⟨n, rfl⟩ : ∃ q, n = q + 1 := ⟨n - 1, by omega⟩
    rw [f_K_takeAwayAll_2, if_neg (by rw [show (9 : Int32) = iI 9 from rfl, iI_le ⟨by omega, by omega⟩ ⟨by omega, by omega⟩]; omega), bd_t (K_holds hw B1 B2)]
    by_cases q : A < B
    · rw [if_pos (by rw [if_pos q]; rfl), Nat.div_eq_of_lt q, Nat.mod_eq_of_lt q]
      exact ⟨h, rfl, B1, fun _ _ => rfl⟩
    · rw [if_neg (by rw [if_neg q]; decide)]
      obtain ⟨h1, e1, B3, k1⟩ := K_once hw (by omega) B1 B2
      rw [bd_t e1, scN]
      have e2 : B * (m + 1 + 1) = B * (m + 1) + B := Nat.mul_succ _ _
      obtain ⟨h2, e3, B4, k2⟩ := ih (k + 1) n (A - B) h1 (by omega) (by omega) (by omega) B3 (isB_eq B2 (k1 36 (by omega)))
      have d1 : A / B = (A - B) / B + 1 := by
        rw [Nat.div_eq A B, if_pos ⟨hB, by omega⟩]
      have d2 : A % B = (A - B) % B := Nat.mod_eq_sub_mod (by omega)
      rw [d1, d2, show k + ((A - B) / B + 1) = k + 1 + (A - B) / B by omega]
      exact ⟨h2, e3, B4, fun y hy => by rw [k2 y hy, k1 y hy]⟩
theorem K_down_loop {w A d : Nat} (hw : w ≤ 100) (hw0 : 0 < w) : ∀ (m k n : Nat) (h : Hp), k + m = w → 0 < k → m < n → (∀ q, q < w → h 37 q = iI ((if q + 1 < k then dg A w (q + 1) else dg A w q : Nat) : Int)) → ∃ h', f_K_bringDown_2 n (iI (d : Int)) (iI (w : Int)) (iI (k : Int)) h = some ((), h') ∧ (∀ q, q < w → h' 37 q = iI ((if q + 1 < w then dg A w (q + 1) else d : Nat) : Int)) ∧ ∀ y, y ≠ 37 → h' y = h y := by
  intro m
  induction m with
  | zero =>
    intro k n h hk k0 hn F
    obtain ⟨n, rfl⟩ : ∃ q, n = q + 1 := ⟨n - 1, by omega⟩
    rw [f_K_bringDown_2, if_pos (leN (by omega) (by omega) (by omega)), if_neg (by rw [i0, iI_le ⟨by omega, by omega⟩ ⟨by omega, by omega⟩]; omega), i1, iI_sub, show (w : Int) - 1 = ((w - 1 : Nat) : Int) by omega, chk_t (iI_inR (by omega) (by omega) (by omega)), clN (by omega)]
    refine ⟨_, rfl, fun q hq => ?_, fun y hy => up2_ne _ _ _ hy⟩
    by_cases z : q = w - 1
    · rw [z, up2_s, if_neg (by omega)]
    · rw [up2_k _ _ _ z, F q hq, show k = w by omega]
      rw [if_pos (by omega), if_pos (by omega)]
  | succ m ih =>
    intro k n h hk k0 hn F
    obtain ⟨n, rfl⟩ : ∃ q, n = q + 1 := ⟨n - 1, by omega⟩
    rw [f_K_bringDown_2, if_neg (nleN (by omega) (by omega) (by omega)), i1, iI_sub, show (k : Int) - 1 = ((k - 1 : Nat) : Int) by omega, chk_t (iI_inR (by omega) (by omega) (by omega)), chk_t (iI_inR (by omega) (by omega) (by omega)), clN (n := k - 1) (by omega), clN (n := k) (by omega), F k (by omega), if_neg (by omega), iI_add]
    obtain ⟨h', e', a', b'⟩ := ih (k + 1) n (up2 h 37 (k - 1) (iI (dg A w k : Int))) (by omega) (by omega) (by omega) (fun q hq => by
      by_cases z : q = k - 1
      · rw [z, up2_s, if_pos (by omega), show k - 1 + 1 = k by omega]
      · rw [up2_k _ _ _ z, F q hq]
        by_cases y : q + 1 < k
        · rw [if_pos y, if_pos (by omega)]
        · rw [if_neg y, if_neg (by omega)])
    exact ⟨h', e', a', fun y hy => by rw [b' y hy, up2_ne _ _ _ hy]⟩
theorem K_down {w A d : Nat} {h : Hp} (hw : w ≤ 100) (hw0 : 0 < w) (hd : d < 10) (hA : A < 10 ^ (w - 1)) (B1 : isB h 37 w A) : ∃ h', f_K_bringDown (iI (d : Int)) (iI (w : Int)) h = some ((), h') ∧ isB h' 37 w (10 * A + d) ∧ ∀ y, y ≠ 37 → h' y = h y := by
  obtain ⟨h', e', a', b'⟩ := K_down_loop (A := A) (d := d) hw hw0 (w - 1) 1 fuel h (by omega) (by omega) (by unfold fuel; omega) (fun q hq => by rw [if_neg (by omega)]; exact B1.2 q hq)
  have P : 10 ^ w = 10 ^ (w - 1) * 10 := by
    rw [← Nat.pow_succ]
    congr 1
    omega
  refine ⟨h', e', ⟨by omega, fun k hk => ?_⟩, b'⟩
  rw [a' k hk]
  congr 2
  by_cases z : k + 1 < w
  · rw [if_pos z]
    unfold dg
    rw [show w - 1 - k = (w - 1 - (k + 1)) + 1 by omega, Nat.pow_succ', ← Nat.div_div_eq_div_mul, Nat.mul_add_div (by decide), Nat.div_eq_of_lt hd]
    rfl
  · rw [if_neg z]
    unfold dg
    rw [show w - 1 - k = 0 by omega, Nat.pow_zero, Nat.div_one]
    omega
